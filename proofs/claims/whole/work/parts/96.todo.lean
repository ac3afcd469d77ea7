theorem call_text {s : Mem} (hR : Rel s) : OK2 (fX6_text s) (fun s1 => fX7_text s1) := by sorry
