/-! text: after an item -/
theorem C_156 {L : Nat} {b : Nat → Nat} (hB : Bt L b) {s : Mem} (hT : TC L b s) (F : Nat → Int32) {t u v : Nat} (h1 : F 1 = nI L) (h2 : F 2 = nI t) (h3 : F 3 = nI u) (hs : t ≤ u) (he : u ≤ L) : gX6_readAll_156 (upR s 12 F) (nI v) = if t = L then some (.inl (.inl (nI v, upR s 12 F))) else if isW b 13 t u = true then some (.inr (nI (v + 1), upR s 12 (upd (upd F 2 (nI (nxS L b u))) 3 (nI (nxE L b u))))) else some (.inl (.inl ((-1 : Int32) - nI t, upR s 12 F))) := by
  have hL := hB.1
  unfold gX6_readAll_156 fX5_atEnd
  rw [upR_s, h1, h2]
  by_cases e : t = L
  · rw [if_pos (by rw [e]), if_pos e, Option.bind_some, if_neg (show ¬ (1 : Int32) = 0 from by decide)]
  · rw [if_neg (fun z => e ((nI_eq (by omega) (by omega)).mp z)), if_neg e, Option.bind_some, if_pos rfl]
    unfold fX5_readSemicolon
    rw [C_says hB (TC_R hT F) (k := 13) (by omega) (by rw [upR_s]; exact h2) (by rw [upR_s]; exact h3) hs he, Option.bind_some, bi_n0]
    by_cases e2 : isW b 13 t u = true
    · rw [if_pos e2, if_pos e2, C_next hB hT F h1 h3 he, Option.bind_some, Option.bind_some, if_neg (show ¬ (1 : Int32) = 0 from by decide), lt_e, nI_p1]
    · rw [if_neg e2, if_neg e2, Option.bind_some, if_pos rfl]
      unfold fX5_place
      rw [upR_s, h2]; rfl
theorem M_24 {L : Nat} {b : Nat → Nat} (hB : Bt L b) {s : Mem} (hT : TM L b s) (G : Nat → Int32) (h1 : G 19 = nI L) (h4 : G 22 = -1) {t u v : Nat} (h2 : G 20 = nI t) (h3 : G 21 = nI u) (hs : t ≤ u) (he : u ≤ L) : bX7_text_24 (upR s 19 G) (nI v) = if isW b 13 t u = true then (fX7_item (upR s 19 (GG G (nxS L b u) (nxE L b u)))).bind (fun y7 => some (.inr (nI (v + 1), y7))) else some (.inl (nI v, upR s 19 G)) := by
  have e := M_takes hB hT G h1 h4 (k := 13) (by omega) h2 h3 hs he
  have e : fX7_takes (upR s 19 G) 27 = _ := e
  unfold bX7_text_24
  rw [e, Option.bind_some]
  by_cases e2 : isW b 13 t u = true
  · rw [if_pos e2, if_pos e2, if_neg (show ¬ (1 : Int32) = 0 from by decide)]
    simp only [lt_e, nI_p1]
  · rw [if_neg e2, if_neg e2, if_pos rfl]
theorem fz_24 {s : Mem} (h : fz s) (v : Int32) : bX7_text_24 s v = some (.inl (v, s)) := by
  have e := fz_takes h (k := 13) (by omega)
  have e : fX7_takes s 27 = _ := e
  unfold bX7_text_24
  rw [e, Option.bind_some, if_pos rfl]
