theorem call_line {s : Mem} (hR : Rel s) (p k : Int32) : OK2 (fX6_line s p k) (fun s1 => fX7_line s1 p k) := by sorry
theorem call_text {s : Mem} (hR : Rel s) : OK2 (fX6_text s) (fun s1 => fX7_text s1) := by sorry
