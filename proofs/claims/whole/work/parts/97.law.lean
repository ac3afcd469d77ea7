/-! the law: call by call -/
theorem nI_p5 (a : Nat) : nI a + (5 : Int32) = nI (a + 5) := by rw [show (5 : Int32) = nI 5 from rfl, nI_add]
theorem nI_p6 (a : Nat) : nI a + (6 : Int32) = nI (a + 6) := by rw [show (6 : Int32) = nI 6 from rfl, nI_add]
theorem nI_p7 (a : Nat) : nI a + (7 : Int32) = nI (a + 7) := by rw [show (7 : Int32) = nI 7 from rfl, nI_add]
theorem law_fin {C : Option (Int32 × Mem)} {F : Mem → Option (Int32 × Mem)} (h : OK2 C F) (v : Int32) : ∃ s2, (C.bind (fun y => (F y.2).bind (fun z => if y.1 = z.1 then lt v (fun x => some (Sum.inr (x, z.2))) else some (Sum.inl (Sum.inl ((0 : Int32), z.2)))))) = some (.inr (v, s2) : ((Int32 × Mem) ⊕ Mem) ⊕ (Int32 × Mem)) ∧ Rel s2 := by
  obtain ⟨a, s1, s2, h1, h2, h3⟩ := h
  refine ⟨s2, ?_, h3⟩
  rw [h1, Option.bind_some]
  show (F s1).bind _ = _
  rw [h2, Option.bind_some]
  show (if a = a then _ else _) = _
  rw [if_pos rfl, lt_e]
theorem law_finL {C : Option (Int64 × Mem)} {F : Mem → Option (Int64 × Mem)} (h : OK2 C F) (v : Int32) : ∃ s2, (C.bind (fun y => (F y.2).bind (fun z => if lg_cmp y.1 z.1 = (0 : Int32) then lt v (fun x => some (Sum.inr (x, z.2))) else some (Sum.inl (Sum.inl ((0 : Int32), z.2)))))) = some (.inr (v, s2) : ((Int32 × Mem) ⊕ Mem) ⊕ (Int32 × Mem)) ∧ Rel s2 := by
  obtain ⟨a, s1, s2, h1, h2, h3⟩ := h
  refine ⟨s2, ?_, h3⟩
  rw [h1, Option.bind_some]
  show (F s1).bind _ = _
  rw [h2, Option.bind_some]
  show (if lg_cmp a a = (0 : Int32) then _ else _) = _
  rw [if_pos ((lg_cmp_eq a a).mpr rfl), lt_e]
theorem lw_c0 {X : Scr} {s : Mem} (hR : Rel s) {i : Nat} (hi : i + 7 ≤ X.1) (hX : X.1 ≤ 3584) : ∃ s2, gL_law_208 X s (nI i) = some (.inr (nI (i + 7), s2)) ∧ Rel s2 := by
  unfold gL_law_208
  simp only [nI_p1, nI_p2, nI_p3, nI_p4, nI_p5, nI_p6, nI_p7, gd_in (show i + 1 < X.1 by omega) (show X.1 < 2 ^ 31 by omega), nI_clamp (show i + 1 < 2 ^ 31 by omega), gd_in (show i + 2 < X.1 by omega) (show X.1 < 2 ^ 31 by omega), nI_clamp (show i + 2 < 2 ^ 31 by omega), gd_in (show i + 3 < X.1 by omega) (show X.1 < 2 ^ 31 by omega), nI_clamp (show i + 3 < 2 ^ 31 by omega), gd_in (show i + 4 < X.1 by omega) (show X.1 < 2 ^ 31 by omega), nI_clamp (show i + 4 < 2 ^ 31 by omega), gd_in (show i + 5 < X.1 by omega) (show X.1 < 2 ^ 31 by omega), nI_clamp (show i + 5 < 2 ^ 31 by omega), gd_in (show i + 6 < X.1 by omega) (show X.1 < 2 ^ 31 by omega), nI_clamp (show i + 6 < 2 ^ 31 by omega)]
  exact law_fin (call_section hR _ _ _ _ _ _) _
theorem lw_c1 {X : Scr} {s : Mem} (hR : Rel s) {i : Nat} (hi : i + 7 ≤ X.1) (hX : X.1 ≤ 3584) : ∃ s2, gL_law_283 X s (nI i) = some (.inr (nI (i + 7), s2)) ∧ Rel s2 := by
  unfold gL_law_283
  simp only [nI_p1, nI_p2, nI_p3, nI_p4, nI_p5, nI_p6, nI_p7, gd_in (show i + 1 < X.1 by omega) (show X.1 < 2 ^ 31 by omega), nI_clamp (show i + 1 < 2 ^ 31 by omega), gd_in (show i + 2 < X.1 by omega) (show X.1 < 2 ^ 31 by omega), nI_clamp (show i + 2 < 2 ^ 31 by omega), gd_in (show i + 3 < X.1 by omega) (show X.1 < 2 ^ 31 by omega), nI_clamp (show i + 3 < 2 ^ 31 by omega), gd_in (show i + 4 < X.1 by omega) (show X.1 < 2 ^ 31 by omega), nI_clamp (show i + 4 < 2 ^ 31 by omega), gd_in (show i + 5 < X.1 by omega) (show X.1 < 2 ^ 31 by omega), nI_clamp (show i + 5 < 2 ^ 31 by omega), gd_in (show i + 6 < X.1 by omega) (show X.1 < 2 ^ 31 by omega), nI_clamp (show i + 6 < 2 ^ 31 by omega)]
  exact law_fin (call_shut hR _ _ _) _
theorem lw_c2 {X : Scr} {s : Mem} (hR : Rel s) {i : Nat} (hi : i + 7 ≤ X.1) (hX : X.1 ≤ 3584) : ∃ s2, gL_law_326 X s (nI i) = some (.inr (nI (i + 7), s2)) ∧ Rel s2 := by
  unfold gL_law_326
  simp only [nI_p1, nI_p2, nI_p3, nI_p4, nI_p5, nI_p6, nI_p7, gd_in (show i + 1 < X.1 by omega) (show X.1 < 2 ^ 31 by omega), nI_clamp (show i + 1 < 2 ^ 31 by omega), gd_in (show i + 2 < X.1 by omega) (show X.1 < 2 ^ 31 by omega), nI_clamp (show i + 2 < 2 ^ 31 by omega), gd_in (show i + 3 < X.1 by omega) (show X.1 < 2 ^ 31 by omega), nI_clamp (show i + 3 < 2 ^ 31 by omega), gd_in (show i + 4 < X.1 by omega) (show X.1 < 2 ^ 31 by omega), nI_clamp (show i + 4 < 2 ^ 31 by omega), gd_in (show i + 5 < X.1 by omega) (show X.1 < 2 ^ 31 by omega), nI_clamp (show i + 5 < 2 ^ 31 by omega), gd_in (show i + 6 < X.1 by omega) (show X.1 < 2 ^ 31 by omega), nI_clamp (show i + 6 < 2 ^ 31 by omega)]
  exact law_fin (call_of hR _ _ _ _) _
theorem lw_c3 {X : Scr} {s : Mem} (hR : Rel s) {i : Nat} (hi : i + 7 ≤ X.1) (hX : X.1 ≤ 3584) : ∃ s2, gL_law_379 X s (nI i) = some (.inr (nI (i + 7), s2)) ∧ Rel s2 := by
  unfold gL_law_379
  simp only [nI_p1, nI_p2, nI_p3, nI_p4, nI_p5, nI_p6, nI_p7, gd_in (show i + 1 < X.1 by omega) (show X.1 < 2 ^ 31 by omega), nI_clamp (show i + 1 < 2 ^ 31 by omega), gd_in (show i + 2 < X.1 by omega) (show X.1 < 2 ^ 31 by omega), nI_clamp (show i + 2 < 2 ^ 31 by omega), gd_in (show i + 3 < X.1 by omega) (show X.1 < 2 ^ 31 by omega), nI_clamp (show i + 3 < 2 ^ 31 by omega), gd_in (show i + 4 < X.1 by omega) (show X.1 < 2 ^ 31 by omega), nI_clamp (show i + 4 < 2 ^ 31 by omega), gd_in (show i + 5 < X.1 by omega) (show X.1 < 2 ^ 31 by omega), nI_clamp (show i + 5 < 2 ^ 31 by omega), gd_in (show i + 6 < X.1 by omega) (show X.1 < 2 ^ 31 by omega), nI_clamp (show i + 6 < 2 ^ 31 by omega)]
  exact law_fin (call_triples hR _) _
theorem lw_c4 {X : Scr} {s : Mem} (hR : Rel s) {i : Nat} (hi : i + 7 ≤ X.1) (hX : X.1 ≤ 3584) : ∃ s2, gL_law_402 X s (nI i) = some (.inr (nI (i + 7), s2)) ∧ Rel s2 := by
  unfold gL_law_402
  simp only [nI_p1, nI_p2, nI_p3, nI_p4, nI_p5, nI_p6, nI_p7, gd_in (show i + 1 < X.1 by omega) (show X.1 < 2 ^ 31 by omega), nI_clamp (show i + 1 < 2 ^ 31 by omega), gd_in (show i + 2 < X.1 by omega) (show X.1 < 2 ^ 31 by omega), nI_clamp (show i + 2 < 2 ^ 31 by omega), gd_in (show i + 3 < X.1 by omega) (show X.1 < 2 ^ 31 by omega), nI_clamp (show i + 3 < 2 ^ 31 by omega), gd_in (show i + 4 < X.1 by omega) (show X.1 < 2 ^ 31 by omega), nI_clamp (show i + 4 < 2 ^ 31 by omega), gd_in (show i + 5 < X.1 by omega) (show X.1 < 2 ^ 31 by omega), nI_clamp (show i + 5 < 2 ^ 31 by omega), gd_in (show i + 6 < X.1 by omega) (show X.1 < 2 ^ 31 by omega), nI_clamp (show i + 6 < 2 ^ 31 by omega)]
  exact law_fin (call_time hR _ _) _
theorem lw_c5 {X : Scr} {s : Mem} (hR : Rel s) {i : Nat} (hi : i + 7 ≤ X.1) (hX : X.1 ≤ 3584) : ∃ s2, gL_law_435 X s (nI i) = some (.inr (nI (i + 7), s2)) ∧ Rel s2 := by
  unfold gL_law_435
  simp only [nI_p1, nI_p2, nI_p3, nI_p4, nI_p5, nI_p6, nI_p7, gd_in (show i + 1 < X.1 by omega) (show X.1 < 2 ^ 31 by omega), nI_clamp (show i + 1 < 2 ^ 31 by omega), gd_in (show i + 2 < X.1 by omega) (show X.1 < 2 ^ 31 by omega), nI_clamp (show i + 2 < 2 ^ 31 by omega), gd_in (show i + 3 < X.1 by omega) (show X.1 < 2 ^ 31 by omega), nI_clamp (show i + 3 < 2 ^ 31 by omega), gd_in (show i + 4 < X.1 by omega) (show X.1 < 2 ^ 31 by omega), nI_clamp (show i + 4 < 2 ^ 31 by omega), gd_in (show i + 5 < X.1 by omega) (show X.1 < 2 ^ 31 by omega), nI_clamp (show i + 5 < 2 ^ 31 by omega), gd_in (show i + 6 < X.1 by omega) (show X.1 < 2 ^ 31 by omega), nI_clamp (show i + 6 < 2 ^ 31 by omega)]
  exact law_fin (call_uneven hR _) _
theorem lw_c6 {X : Scr} {s : Mem} (hR : Rel s) {i : Nat} (hi : i + 7 ≤ X.1) (hX : X.1 ≤ 3584) : ∃ s2, gL_law_458 X s (nI i) = some (.inr (nI (i + 7), s2)) ∧ Rel s2 := by
  unfold gL_law_458
  simp only [nI_p1, nI_p2, nI_p3, nI_p4, nI_p5, nI_p6, nI_p7, gd_in (show i + 1 < X.1 by omega) (show X.1 < 2 ^ 31 by omega), nI_clamp (show i + 1 < 2 ^ 31 by omega), gd_in (show i + 2 < X.1 by omega) (show X.1 < 2 ^ 31 by omega), nI_clamp (show i + 2 < 2 ^ 31 by omega), gd_in (show i + 3 < X.1 by omega) (show X.1 < 2 ^ 31 by omega), nI_clamp (show i + 3 < 2 ^ 31 by omega), gd_in (show i + 4 < X.1 by omega) (show X.1 < 2 ^ 31 by omega), nI_clamp (show i + 4 < 2 ^ 31 by omega), gd_in (show i + 5 < X.1 by omega) (show X.1 < 2 ^ 31 by omega), nI_clamp (show i + 5 < 2 ^ 31 by omega), gd_in (show i + 6 < X.1 by omega) (show X.1 < 2 ^ 31 by omega), nI_clamp (show i + 6 < 2 ^ 31 by omega)]
  exact law_fin (call_pupil hR _ _ _) _
theorem lw_c7 {X : Scr} {s : Mem} (hR : Rel s) {i : Nat} (hi : i + 7 ≤ X.1) (hX : X.1 ≤ 3584) : ∃ s2, gL_law_501 X s (nI i) = some (.inr (nI (i + 7), s2)) ∧ Rel s2 := by
  unfold gL_law_501
  simp only [nI_p1, nI_p2, nI_p3, nI_p4, nI_p5, nI_p6, nI_p7, gd_in (show i + 1 < X.1 by omega) (show X.1 < 2 ^ 31 by omega), nI_clamp (show i + 1 < 2 ^ 31 by omega), gd_in (show i + 2 < X.1 by omega) (show X.1 < 2 ^ 31 by omega), nI_clamp (show i + 2 < 2 ^ 31 by omega), gd_in (show i + 3 < X.1 by omega) (show X.1 < 2 ^ 31 by omega), nI_clamp (show i + 3 < 2 ^ 31 by omega), gd_in (show i + 4 < X.1 by omega) (show X.1 < 2 ^ 31 by omega), nI_clamp (show i + 4 < 2 ^ 31 by omega), gd_in (show i + 5 < X.1 by omega) (show X.1 < 2 ^ 31 by omega), nI_clamp (show i + 5 < 2 ^ 31 by omega), gd_in (show i + 6 < X.1 by omega) (show X.1 < 2 ^ 31 by omega), nI_clamp (show i + 6 < 2 ^ 31 by omega)]
  exact law_fin (call_leave hR) _
theorem lw_c8 {X : Scr} {s : Mem} (hR : Rel s) {i : Nat} (hi : i + 7 ≤ X.1) (hX : X.1 ≤ 3584) : ∃ s2, gL_law_514 X s (nI i) = some (.inr (nI (i + 7), s2)) ∧ Rel s2 := by
  unfold gL_law_514
  simp only [nI_p1, nI_p2, nI_p3, nI_p4, nI_p5, nI_p6, nI_p7, gd_in (show i + 1 < X.1 by omega) (show X.1 < 2 ^ 31 by omega), nI_clamp (show i + 1 < 2 ^ 31 by omega), gd_in (show i + 2 < X.1 by omega) (show X.1 < 2 ^ 31 by omega), nI_clamp (show i + 2 < 2 ^ 31 by omega), gd_in (show i + 3 < X.1 by omega) (show X.1 < 2 ^ 31 by omega), nI_clamp (show i + 3 < 2 ^ 31 by omega), gd_in (show i + 4 < X.1 by omega) (show X.1 < 2 ^ 31 by omega), nI_clamp (show i + 4 < 2 ^ 31 by omega), gd_in (show i + 5 < X.1 by omega) (show X.1 < 2 ^ 31 by omega), nI_clamp (show i + 5 < 2 ^ 31 by omega), gd_in (show i + 6 < X.1 by omega) (show X.1 < 2 ^ 31 by omega), nI_clamp (show i + 6 < 2 ^ 31 by omega)]
  exact law_fin (call_its hR _ _) _
theorem lw_c9 {X : Scr} {s : Mem} (hR : Rel s) {i : Nat} (hi : i + 7 ≤ X.1) (hX : X.1 ≤ 3584) : ∃ s2, gL_law_547 X s (nI i) = some (.inr (nI (i + 7), s2)) ∧ Rel s2 := by
  unfold gL_law_547
  simp only [nI_p1, nI_p2, nI_p3, nI_p4, nI_p5, nI_p6, nI_p7, gd_in (show i + 1 < X.1 by omega) (show X.1 < 2 ^ 31 by omega), nI_clamp (show i + 1 < 2 ^ 31 by omega), gd_in (show i + 2 < X.1 by omega) (show X.1 < 2 ^ 31 by omega), nI_clamp (show i + 2 < 2 ^ 31 by omega), gd_in (show i + 3 < X.1 by omega) (show X.1 < 2 ^ 31 by omega), nI_clamp (show i + 3 < 2 ^ 31 by omega), gd_in (show i + 4 < X.1 by omega) (show X.1 < 2 ^ 31 by omega), nI_clamp (show i + 4 < 2 ^ 31 by omega), gd_in (show i + 5 < X.1 by omega) (show X.1 < 2 ^ 31 by omega), nI_clamp (show i + 5 < 2 ^ 31 by omega), gd_in (show i + 6 < X.1 by omega) (show X.1 < 2 ^ 31 by omega), nI_clamp (show i + 6 < 2 ^ 31 by omega)]
  exact law_fin (call_change hR _ _ _) _
theorem lw_c10 {X : Scr} {s : Mem} (hR : Rel s) {i : Nat} (hi : i + 7 ≤ X.1) (hX : X.1 ≤ 3584) : ∃ s2, gL_law_590 X s (nI i) = some (.inr (nI (i + 7), s2)) ∧ Rel s2 := by
  unfold gL_law_590
  simp only [nI_p1, nI_p2, nI_p3, nI_p4, nI_p5, nI_p6, nI_p7, gd_in (show i + 1 < X.1 by omega) (show X.1 < 2 ^ 31 by omega), nI_clamp (show i + 1 < 2 ^ 31 by omega), gd_in (show i + 2 < X.1 by omega) (show X.1 < 2 ^ 31 by omega), nI_clamp (show i + 2 < 2 ^ 31 by omega), gd_in (show i + 3 < X.1 by omega) (show X.1 < 2 ^ 31 by omega), nI_clamp (show i + 3 < 2 ^ 31 by omega), gd_in (show i + 4 < X.1 by omega) (show X.1 < 2 ^ 31 by omega), nI_clamp (show i + 4 < 2 ^ 31 by omega), gd_in (show i + 5 < X.1 by omega) (show X.1 < 2 ^ 31 by omega), nI_clamp (show i + 5 < 2 ^ 31 by omega), gd_in (show i + 6 < X.1 by omega) (show X.1 < 2 ^ 31 by omega), nI_clamp (show i + 6 < 2 ^ 31 by omega)]
  exact law_fin (call_as hR _ _) _
theorem lw_c11 {X : Scr} {s : Mem} (hR : Rel s) {i : Nat} (hi : i + 7 ≤ X.1) (hX : X.1 ≤ 3584) : ∃ s2, gL_law_623 X s (nI i) = some (.inr (nI (i + 7), s2)) ∧ Rel s2 := by
  unfold gL_law_623
  simp only [nI_p1, nI_p2, nI_p3, nI_p4, nI_p5, nI_p6, nI_p7, gd_in (show i + 1 < X.1 by omega) (show X.1 < 2 ^ 31 by omega), nI_clamp (show i + 1 < 2 ^ 31 by omega), gd_in (show i + 2 < X.1 by omega) (show X.1 < 2 ^ 31 by omega), nI_clamp (show i + 2 < 2 ^ 31 by omega), gd_in (show i + 3 < X.1 by omega) (show X.1 < 2 ^ 31 by omega), nI_clamp (show i + 3 < 2 ^ 31 by omega), gd_in (show i + 4 < X.1 by omega) (show X.1 < 2 ^ 31 by omega), nI_clamp (show i + 4 < 2 ^ 31 by omega), gd_in (show i + 5 < X.1 by omega) (show X.1 < 2 ^ 31 by omega), nI_clamp (show i + 5 < 2 ^ 31 by omega), gd_in (show i + 6 < X.1 by omega) (show X.1 < 2 ^ 31 by omega), nI_clamp (show i + 6 < 2 ^ 31 by omega)]
  exact law_fin (call_fits hR _ _) _
theorem lw_c12 {X : Scr} {s : Mem} (hR : Rel s) {i : Nat} (hi : i + 7 ≤ X.1) (hX : X.1 ≤ 3584) : ∃ s2, gL_law_656 X s (nI i) = some (.inr (nI (i + 7), s2)) ∧ Rel s2 := by
  unfold gL_law_656
  simp only [nI_p1, nI_p2, nI_p3, nI_p4, nI_p5, nI_p6, nI_p7, gd_in (show i + 1 < X.1 by omega) (show X.1 < 2 ^ 31 by omega), nI_clamp (show i + 1 < 2 ^ 31 by omega), gd_in (show i + 2 < X.1 by omega) (show X.1 < 2 ^ 31 by omega), nI_clamp (show i + 2 < 2 ^ 31 by omega), gd_in (show i + 3 < X.1 by omega) (show X.1 < 2 ^ 31 by omega), nI_clamp (show i + 3 < 2 ^ 31 by omega), gd_in (show i + 4 < X.1 by omega) (show X.1 < 2 ^ 31 by omega), nI_clamp (show i + 4 < 2 ^ 31 by omega), gd_in (show i + 5 < X.1 by omega) (show X.1 < 2 ^ 31 by omega), nI_clamp (show i + 5 < 2 ^ 31 by omega), gd_in (show i + 6 < X.1 by omega) (show X.1 < 2 ^ 31 by omega), nI_clamp (show i + 6 < 2 ^ 31 by omega)]
  exact law_fin (call_why hR _ _ _) _
theorem lw_c13 {X : Scr} {s : Mem} (hR : Rel s) {i : Nat} (hi : i + 7 ≤ X.1) (hX : X.1 ≤ 3584) : ∃ s2, gL_law_699 X s (nI i) = some (.inr (nI (i + 7), s2)) ∧ Rel s2 := by
  unfold gL_law_699
  simp only [nI_p1, nI_p2, nI_p3, nI_p4, nI_p5, nI_p6, nI_p7, gd_in (show i + 1 < X.1 by omega) (show X.1 < 2 ^ 31 by omega), nI_clamp (show i + 1 < 2 ^ 31 by omega), gd_in (show i + 2 < X.1 by omega) (show X.1 < 2 ^ 31 by omega), nI_clamp (show i + 2 < 2 ^ 31 by omega), gd_in (show i + 3 < X.1 by omega) (show X.1 < 2 ^ 31 by omega), nI_clamp (show i + 3 < 2 ^ 31 by omega), gd_in (show i + 4 < X.1 by omega) (show X.1 < 2 ^ 31 by omega), nI_clamp (show i + 4 < 2 ^ 31 by omega), gd_in (show i + 5 < X.1 by omega) (show X.1 < 2 ^ 31 by omega), nI_clamp (show i + 5 < 2 ^ 31 by omega), gd_in (show i + 6 < X.1 by omega) (show X.1 < 2 ^ 31 by omega), nI_clamp (show i + 6 < 2 ^ 31 by omega)]
  exact law_fin (call_both hR _ _) _
theorem lw_c14 {X : Scr} {s : Mem} (hR : Rel s) {i : Nat} (hi : i + 7 ≤ X.1) (hX : X.1 ≤ 3584) : ∃ s2, gL_law_732 X s (nI i) = some (.inr (nI (i + 7), s2)) ∧ Rel s2 := by
  unfold gL_law_732
  simp only [nI_p1, nI_p2, nI_p3, nI_p4, nI_p5, nI_p6, nI_p7, gd_in (show i + 1 < X.1 by omega) (show X.1 < 2 ^ 31 by omega), nI_clamp (show i + 1 < 2 ^ 31 by omega), gd_in (show i + 2 < X.1 by omega) (show X.1 < 2 ^ 31 by omega), nI_clamp (show i + 2 < 2 ^ 31 by omega), gd_in (show i + 3 < X.1 by omega) (show X.1 < 2 ^ 31 by omega), nI_clamp (show i + 3 < 2 ^ 31 by omega), gd_in (show i + 4 < X.1 by omega) (show X.1 < 2 ^ 31 by omega), nI_clamp (show i + 4 < 2 ^ 31 by omega), gd_in (show i + 5 < X.1 by omega) (show X.1 < 2 ^ 31 by omega), nI_clamp (show i + 5 < 2 ^ 31 by omega), gd_in (show i + 6 < X.1 by omega) (show X.1 < 2 ^ 31 by omega), nI_clamp (show i + 6 < 2 ^ 31 by omega)]
  exact law_fin (call_put hR _ _ _) _
theorem lw_c15 {X : Scr} {s : Mem} (hR : Rel s) {i : Nat} (hi : i + 7 ≤ X.1) (hX : X.1 ≤ 3584) : ∃ s2, gL_law_775 X s (nI i) = some (.inr (nI (i + 7), s2)) ∧ Rel s2 := by
  unfold gL_law_775
  simp only [nI_p1, nI_p2, nI_p3, nI_p4, nI_p5, nI_p6, nI_p7, gd_in (show i + 1 < X.1 by omega) (show X.1 < 2 ^ 31 by omega), nI_clamp (show i + 1 < 2 ^ 31 by omega), gd_in (show i + 2 < X.1 by omega) (show X.1 < 2 ^ 31 by omega), nI_clamp (show i + 2 < 2 ^ 31 by omega), gd_in (show i + 3 < X.1 by omega) (show X.1 < 2 ^ 31 by omega), nI_clamp (show i + 3 < 2 ^ 31 by omega), gd_in (show i + 4 < X.1 by omega) (show X.1 < 2 ^ 31 by omega), nI_clamp (show i + 4 < 2 ^ 31 by omega), gd_in (show i + 5 < X.1 by omega) (show X.1 < 2 ^ 31 by omega), nI_clamp (show i + 5 < 2 ^ 31 by omega), gd_in (show i + 6 < X.1 by omega) (show X.1 < 2 ^ 31 by omega), nI_clamp (show i + 6 < 2 ^ 31 by omega)]
  exact law_fin (call_out hR _ _) _
theorem lw_c16 {X : Scr} {s : Mem} (hR : Rel s) {i : Nat} (hi : i + 7 ≤ X.1) (hX : X.1 ≤ 3584) : ∃ s2, gL_law_808 X s (nI i) = some (.inr (nI (i + 7), s2)) ∧ Rel s2 := by
  unfold gL_law_808
  simp only [nI_p1, nI_p2, nI_p3, nI_p4, nI_p5, nI_p6, nI_p7, gd_in (show i + 1 < X.1 by omega) (show X.1 < 2 ^ 31 by omega), nI_clamp (show i + 1 < 2 ^ 31 by omega), gd_in (show i + 2 < X.1 by omega) (show X.1 < 2 ^ 31 by omega), nI_clamp (show i + 2 < 2 ^ 31 by omega), gd_in (show i + 3 < X.1 by omega) (show X.1 < 2 ^ 31 by omega), nI_clamp (show i + 3 < 2 ^ 31 by omega), gd_in (show i + 4 < X.1 by omega) (show X.1 < 2 ^ 31 by omega), nI_clamp (show i + 4 < 2 ^ 31 by omega), gd_in (show i + 5 < X.1 by omega) (show X.1 < 2 ^ 31 by omega), nI_clamp (show i + 5 < 2 ^ 31 by omega), gd_in (show i + 6 < X.1 by omega) (show X.1 < 2 ^ 31 by omega), nI_clamp (show i + 6 < 2 ^ 31 by omega)]
  exact law_fin (call_pick hR _ _ _) _
theorem lw_c17 {X : Scr} {s : Mem} (hR : Rel s) {i : Nat} (hi : i + 7 ≤ X.1) (hX : X.1 ≤ 3584) : ∃ s2, gL_law_851 X s (nI i) = some (.inr (nI (i + 7), s2)) ∧ Rel s2 := by
  unfold gL_law_851
  simp only [nI_p1, nI_p2, nI_p3, nI_p4, nI_p5, nI_p6, nI_p7, gd_in (show i + 1 < X.1 by omega) (show X.1 < 2 ^ 31 by omega), nI_clamp (show i + 1 < 2 ^ 31 by omega), gd_in (show i + 2 < X.1 by omega) (show X.1 < 2 ^ 31 by omega), nI_clamp (show i + 2 < 2 ^ 31 by omega), gd_in (show i + 3 < X.1 by omega) (show X.1 < 2 ^ 31 by omega), nI_clamp (show i + 3 < 2 ^ 31 by omega), gd_in (show i + 4 < X.1 by omega) (show X.1 < 2 ^ 31 by omega), nI_clamp (show i + 4 < 2 ^ 31 by omega), gd_in (show i + 5 < X.1 by omega) (show X.1 < 2 ^ 31 by omega), nI_clamp (show i + 5 < 2 ^ 31 by omega), gd_in (show i + 6 < X.1 by omega) (show X.1 < 2 ^ 31 by omega), nI_clamp (show i + 6 < 2 ^ 31 by omega)]
  exact law_fin (call_would hR _ _ _) _
theorem lw_c18 {X : Scr} {s : Mem} (hR : Rel s) {i : Nat} (hi : i + 7 ≤ X.1) (hX : X.1 ≤ 3584) : ∃ s2, gL_law_894 X s (nI i) = some (.inr (nI (i + 7), s2)) ∧ Rel s2 := by
  unfold gL_law_894
  simp only [nI_p1, nI_p2, nI_p3, nI_p4, nI_p5, nI_p6, nI_p7, gd_in (show i + 1 < X.1 by omega) (show X.1 < 2 ^ 31 by omega), nI_clamp (show i + 1 < 2 ^ 31 by omega), gd_in (show i + 2 < X.1 by omega) (show X.1 < 2 ^ 31 by omega), nI_clamp (show i + 2 < 2 ^ 31 by omega), gd_in (show i + 3 < X.1 by omega) (show X.1 < 2 ^ 31 by omega), nI_clamp (show i + 3 < 2 ^ 31 by omega), gd_in (show i + 4 < X.1 by omega) (show X.1 < 2 ^ 31 by omega), nI_clamp (show i + 4 < 2 ^ 31 by omega), gd_in (show i + 5 < X.1 by omega) (show X.1 < 2 ^ 31 by omega), nI_clamp (show i + 5 < 2 ^ 31 by omega), gd_in (show i + 6 < X.1 by omega) (show X.1 < 2 ^ 31 by omega), nI_clamp (show i + 6 < 2 ^ 31 by omega)]
  exact law_fin (call_fill hR _) _
theorem lw_c19 {X : Scr} {s : Mem} (hR : Rel s) {i : Nat} (hi : i + 7 ≤ X.1) (hX : X.1 ≤ 3584) : ∃ s2, gL_law_917 X s (nI i) = some (.inr (nI (i + 7), s2)) ∧ Rel s2 := by
  unfold gL_law_917
  simp only [nI_p1, nI_p2, nI_p3, nI_p4, nI_p5, nI_p6, nI_p7, gd_in (show i + 1 < X.1 by omega) (show X.1 < 2 ^ 31 by omega), nI_clamp (show i + 1 < 2 ^ 31 by omega), gd_in (show i + 2 < X.1 by omega) (show X.1 < 2 ^ 31 by omega), nI_clamp (show i + 2 < 2 ^ 31 by omega), gd_in (show i + 3 < X.1 by omega) (show X.1 < 2 ^ 31 by omega), nI_clamp (show i + 3 < 2 ^ 31 by omega), gd_in (show i + 4 < X.1 by omega) (show X.1 < 2 ^ 31 by omega), nI_clamp (show i + 4 < 2 ^ 31 by omega), gd_in (show i + 5 < X.1 by omega) (show X.1 < 2 ^ 31 by omega), nI_clamp (show i + 5 < 2 ^ 31 by omega), gd_in (show i + 6 < X.1 by omega) (show X.1 < 2 ^ 31 by omega), nI_clamp (show i + 6 < 2 ^ 31 by omega)]
  exact law_fin (call_trade hR _ _ _) _
theorem lw_c20 {X : Scr} {s : Mem} (hR : Rel s) {i : Nat} (hi : i + 7 ≤ X.1) (hX : X.1 ≤ 3584) : ∃ s2, gL_law_960 X s (nI i) = some (.inr (nI (i + 7), s2)) ∧ Rel s2 := by
  unfold gL_law_960
  simp only [nI_p1, nI_p2, nI_p3, nI_p4, nI_p5, nI_p6, nI_p7, gd_in (show i + 1 < X.1 by omega) (show X.1 < 2 ^ 31 by omega), nI_clamp (show i + 1 < 2 ^ 31 by omega), gd_in (show i + 2 < X.1 by omega) (show X.1 < 2 ^ 31 by omega), nI_clamp (show i + 2 < 2 ^ 31 by omega), gd_in (show i + 3 < X.1 by omega) (show X.1 < 2 ^ 31 by omega), nI_clamp (show i + 3 < 2 ^ 31 by omega), gd_in (show i + 4 < X.1 by omega) (show X.1 < 2 ^ 31 by omega), nI_clamp (show i + 4 < 2 ^ 31 by omega), gd_in (show i + 5 < X.1 by omega) (show X.1 < 2 ^ 31 by omega), nI_clamp (show i + 5 < 2 ^ 31 by omega), gd_in (show i + 6 < X.1 by omega) (show X.1 < 2 ^ 31 by omega), nI_clamp (show i + 6 < 2 ^ 31 by omega)]
  exact law_fin (call_most hR _) _
theorem lw_c21 {X : Scr} {s : Mem} (hR : Rel s) {i : Nat} (hi : i + 7 ≤ X.1) (hX : X.1 ≤ 3584) : ∃ s2, gL_law_983 X s (nI i) = some (.inr (nI (i + 7), s2)) ∧ Rel s2 := by
  unfold gL_law_983
  simp only [nI_p1, nI_p2, nI_p3, nI_p4, nI_p5, nI_p6, nI_p7, gd_in (show i + 1 < X.1 by omega) (show X.1 < 2 ^ 31 by omega), nI_clamp (show i + 1 < 2 ^ 31 by omega), gd_in (show i + 2 < X.1 by omega) (show X.1 < 2 ^ 31 by omega), nI_clamp (show i + 2 < 2 ^ 31 by omega), gd_in (show i + 3 < X.1 by omega) (show X.1 < 2 ^ 31 by omega), nI_clamp (show i + 3 < 2 ^ 31 by omega), gd_in (show i + 4 < X.1 by omega) (show X.1 < 2 ^ 31 by omega), nI_clamp (show i + 4 < 2 ^ 31 by omega), gd_in (show i + 5 < X.1 by omega) (show X.1 < 2 ^ 31 by omega), nI_clamp (show i + 5 < 2 ^ 31 by omega), gd_in (show i + 6 < X.1 by omega) (show X.1 < 2 ^ 31 by omega), nI_clamp (show i + 6 < 2 ^ 31 by omega)]
  exact law_fin (call_seat hR _) _
theorem lw_c22 {X : Scr} {s : Mem} (hR : Rel s) {i : Nat} (hi : i + 7 ≤ X.1) (hX : X.1 ≤ 3584) : ∃ s2, gL_law_1006 X s (nI i) = some (.inr (nI (i + 7), s2)) ∧ Rel s2 := by
  unfold gL_law_1006
  simp only [nI_p1, nI_p2, nI_p3, nI_p4, nI_p5, nI_p6, nI_p7, gd_in (show i + 1 < X.1 by omega) (show X.1 < 2 ^ 31 by omega), nI_clamp (show i + 1 < 2 ^ 31 by omega), gd_in (show i + 2 < X.1 by omega) (show X.1 < 2 ^ 31 by omega), nI_clamp (show i + 2 < 2 ^ 31 by omega), gd_in (show i + 3 < X.1 by omega) (show X.1 < 2 ^ 31 by omega), nI_clamp (show i + 3 < 2 ^ 31 by omega), gd_in (show i + 4 < X.1 by omega) (show X.1 < 2 ^ 31 by omega), nI_clamp (show i + 4 < 2 ^ 31 by omega), gd_in (show i + 5 < X.1 by omega) (show X.1 < 2 ^ 31 by omega), nI_clamp (show i + 5 < 2 ^ 31 by omega), gd_in (show i + 6 < X.1 by omega) (show X.1 < 2 ^ 31 by omega), nI_clamp (show i + 6 < 2 ^ 31 by omega)]
  exact law_fin (call_evens hR _) _
theorem lw_c23 {X : Scr} {s : Mem} (hR : Rel s) {i : Nat} (hi : i + 7 ≤ X.1) (hX : X.1 ≤ 3584) : ∃ s2, gL_law_1029 X s (nI i) = some (.inr (nI (i + 7), s2)) ∧ Rel s2 := by
  unfold gL_law_1029
  simp only [nI_p1, nI_p2, nI_p3, nI_p4, nI_p5, nI_p6, nI_p7, gd_in (show i + 1 < X.1 by omega) (show X.1 < 2 ^ 31 by omega), nI_clamp (show i + 1 < 2 ^ 31 by omega), gd_in (show i + 2 < X.1 by omega) (show X.1 < 2 ^ 31 by omega), nI_clamp (show i + 2 < 2 ^ 31 by omega), gd_in (show i + 3 < X.1 by omega) (show X.1 < 2 ^ 31 by omega), nI_clamp (show i + 3 < 2 ^ 31 by omega), gd_in (show i + 4 < X.1 by omega) (show X.1 < 2 ^ 31 by omega), nI_clamp (show i + 4 < 2 ^ 31 by omega), gd_in (show i + 5 < X.1 by omega) (show X.1 < 2 ^ 31 by omega), nI_clamp (show i + 5 < 2 ^ 31 by omega), gd_in (show i + 6 < X.1 by omega) (show X.1 < 2 ^ 31 by omega), nI_clamp (show i + 6 < 2 ^ 31 by omega)]
  exact law_fin (call_chain hR _ _) _
theorem lw_c24 {X : Scr} {s : Mem} (hR : Rel s) {i : Nat} (hi : i + 7 ≤ X.1) (hX : X.1 ≤ 3584) : ∃ s2, gL_law_1062 X s (nI i) = some (.inr (nI (i + 7), s2)) ∧ Rel s2 := by
  unfold gL_law_1062
  simp only [nI_p1, nI_p2, nI_p3, nI_p4, nI_p5, nI_p6, nI_p7, gd_in (show i + 1 < X.1 by omega) (show X.1 < 2 ^ 31 by omega), nI_clamp (show i + 1 < 2 ^ 31 by omega), gd_in (show i + 2 < X.1 by omega) (show X.1 < 2 ^ 31 by omega), nI_clamp (show i + 2 < 2 ^ 31 by omega), gd_in (show i + 3 < X.1 by omega) (show X.1 < 2 ^ 31 by omega), nI_clamp (show i + 3 < 2 ^ 31 by omega), gd_in (show i + 4 < X.1 by omega) (show X.1 < 2 ^ 31 by omega), nI_clamp (show i + 4 < 2 ^ 31 by omega), gd_in (show i + 5 < X.1 by omega) (show X.1 < 2 ^ 31 by omega), nI_clamp (show i + 5 < 2 ^ 31 by omega), gd_in (show i + 6 < X.1 by omega) (show X.1 < 2 ^ 31 by omega), nI_clamp (show i + 6 < 2 ^ 31 by omega)]
  exact law_fin (call_lets hR _ _) _
theorem lw_c25 {X : Scr} {s : Mem} (hR : Rel s) {i : Nat} (hi : i + 7 ≤ X.1) (hX : X.1 ≤ 3584) : ∃ s2, gL_law_1095 X s (nI i) = some (.inr (nI (i + 7), s2)) ∧ Rel s2 := by
  unfold gL_law_1095
  simp only [nI_p1, nI_p2, nI_p3, nI_p4, nI_p5, nI_p6, nI_p7, gd_in (show i + 1 < X.1 by omega) (show X.1 < 2 ^ 31 by omega), nI_clamp (show i + 1 < 2 ^ 31 by omega), gd_in (show i + 2 < X.1 by omega) (show X.1 < 2 ^ 31 by omega), nI_clamp (show i + 2 < 2 ^ 31 by omega), gd_in (show i + 3 < X.1 by omega) (show X.1 < 2 ^ 31 by omega), nI_clamp (show i + 3 < 2 ^ 31 by omega), gd_in (show i + 4 < X.1 by omega) (show X.1 < 2 ^ 31 by omega), nI_clamp (show i + 4 < 2 ^ 31 by omega), gd_in (show i + 5 < X.1 by omega) (show X.1 < 2 ^ 31 by omega), nI_clamp (show i + 5 < 2 ^ 31 by omega), gd_in (show i + 6 < X.1 by omega) (show X.1 < 2 ^ 31 by omega), nI_clamp (show i + 6 < 2 ^ 31 by omega)]
  exact law_finL (call_ways hR _) _
theorem lw_c26 {X : Scr} {s : Mem} (hR : Rel s) {i : Nat} (hi : i + 7 ≤ X.1) (hX : X.1 ≤ 3584) : ∃ s2, gL_law_1119 X s (nI i) = some (.inr (nI (i + 7), s2)) ∧ Rel s2 := by
  unfold gL_law_1119
  simp only [nI_p1, nI_p2, nI_p3, nI_p4, nI_p5, nI_p6, nI_p7, gd_in (show i + 1 < X.1 by omega) (show X.1 < 2 ^ 31 by omega), nI_clamp (show i + 1 < 2 ^ 31 by omega), gd_in (show i + 2 < X.1 by omega) (show X.1 < 2 ^ 31 by omega), nI_clamp (show i + 2 < 2 ^ 31 by omega), gd_in (show i + 3 < X.1 by omega) (show X.1 < 2 ^ 31 by omega), nI_clamp (show i + 3 < 2 ^ 31 by omega), gd_in (show i + 4 < X.1 by omega) (show X.1 < 2 ^ 31 by omega), nI_clamp (show i + 4 < 2 ^ 31 by omega), gd_in (show i + 5 < X.1 by omega) (show X.1 < 2 ^ 31 by omega), nI_clamp (show i + 5 < 2 ^ 31 by omega), gd_in (show i + 6 < X.1 by omega) (show X.1 < 2 ^ 31 by omega), nI_clamp (show i + 6 < 2 ^ 31 by omega)]
  exact law_fin (call_orders hR _) _
theorem lw_c27 {X : Scr} {s : Mem} (hR : Rel s) {i : Nat} (hi : i + 7 ≤ X.1) (hX : X.1 ≤ 3584) : ∃ s2, gL_law_1142 X s (nI i) = some (.inr (nI (i + 7), s2)) ∧ Rel s2 := by
  unfold gL_law_1142
  simp only [nI_p1, nI_p2, nI_p3, nI_p4, nI_p5, nI_p6, nI_p7, gd_in (show i + 1 < X.1 by omega) (show X.1 < 2 ^ 31 by omega), nI_clamp (show i + 1 < 2 ^ 31 by omega), gd_in (show i + 2 < X.1 by omega) (show X.1 < 2 ^ 31 by omega), nI_clamp (show i + 2 < 2 ^ 31 by omega), gd_in (show i + 3 < X.1 by omega) (show X.1 < 2 ^ 31 by omega), nI_clamp (show i + 3 < 2 ^ 31 by omega), gd_in (show i + 4 < X.1 by omega) (show X.1 < 2 ^ 31 by omega), nI_clamp (show i + 4 < 2 ^ 31 by omega), gd_in (show i + 5 < X.1 by omega) (show X.1 < 2 ^ 31 by omega), nI_clamp (show i + 5 < 2 ^ 31 by omega), gd_in (show i + 6 < X.1 by omega) (show X.1 < 2 ^ 31 by omega), nI_clamp (show i + 6 < 2 ^ 31 by omega)]
  exact law_fin (call_loose hR _) _
theorem lw_c28 {X : Scr} {s : Mem} (hR : Rel s) {i : Nat} (hi : i + 7 ≤ X.1) (hX : X.1 ≤ 3584) : ∃ s2, gL_law_1165 X s (nI i) = some (.inr (nI (i + 7), s2)) ∧ Rel s2 := by
  unfold gL_law_1165
  simp only [nI_p1, nI_p2, nI_p3, nI_p4, nI_p5, nI_p6, nI_p7, gd_in (show i + 1 < X.1 by omega) (show X.1 < 2 ^ 31 by omega), nI_clamp (show i + 1 < 2 ^ 31 by omega), gd_in (show i + 2 < X.1 by omega) (show X.1 < 2 ^ 31 by omega), nI_clamp (show i + 2 < 2 ^ 31 by omega), gd_in (show i + 3 < X.1 by omega) (show X.1 < 2 ^ 31 by omega), nI_clamp (show i + 3 < 2 ^ 31 by omega), gd_in (show i + 4 < X.1 by omega) (show X.1 < 2 ^ 31 by omega), nI_clamp (show i + 4 < 2 ^ 31 by omega), gd_in (show i + 5 < X.1 by omega) (show X.1 < 2 ^ 31 by omega), nI_clamp (show i + 5 < 2 ^ 31 by omega), gd_in (show i + 6 < X.1 by omega) (show X.1 < 2 ^ 31 by omega), nI_clamp (show i + 6 < 2 ^ 31 by omega)]
  exact law_fin (call_seed hR _) _
theorem lw_c29 {X : Scr} {s : Mem} (hR : Rel s) {i : Nat} (hi : i + 7 ≤ X.1) (hX : X.1 ≤ 3584) : ∃ s2, gL_law_1188 X s (nI i) = some (.inr (nI (i + 7), s2)) ∧ Rel s2 := by
  unfold gL_law_1188
  simp only [nI_p1, nI_p2, nI_p3, nI_p4, nI_p5, nI_p6, nI_p7, gd_in (show i + 1 < X.1 by omega) (show X.1 < 2 ^ 31 by omega), nI_clamp (show i + 1 < 2 ^ 31 by omega), gd_in (show i + 2 < X.1 by omega) (show X.1 < 2 ^ 31 by omega), nI_clamp (show i + 2 < 2 ^ 31 by omega), gd_in (show i + 3 < X.1 by omega) (show X.1 < 2 ^ 31 by omega), nI_clamp (show i + 3 < 2 ^ 31 by omega), gd_in (show i + 4 < X.1 by omega) (show X.1 < 2 ^ 31 by omega), nI_clamp (show i + 4 < 2 ^ 31 by omega), gd_in (show i + 5 < X.1 by omega) (show X.1 < 2 ^ 31 by omega), nI_clamp (show i + 5 < 2 ^ 31 by omega), gd_in (show i + 6 < X.1 by omega) (show X.1 < 2 ^ 31 by omega), nI_clamp (show i + 6 < 2 ^ 31 by omega)]
  exact law_fin (call_feed hR _ _) _
theorem lw_c30 {X : Scr} {s : Mem} (hR : Rel s) {i : Nat} (hi : i + 7 ≤ X.1) (hX : X.1 ≤ 3584) : ∃ s2, gL_law_1221 X s (nI i) = some (.inr (nI (i + 7), s2)) ∧ Rel s2 := by
  unfold gL_law_1221
  simp only [nI_p1, nI_p2, nI_p3, nI_p4, nI_p5, nI_p6, nI_p7, gd_in (show i + 1 < X.1 by omega) (show X.1 < 2 ^ 31 by omega), nI_clamp (show i + 1 < 2 ^ 31 by omega), gd_in (show i + 2 < X.1 by omega) (show X.1 < 2 ^ 31 by omega), nI_clamp (show i + 2 < 2 ^ 31 by omega), gd_in (show i + 3 < X.1 by omega) (show X.1 < 2 ^ 31 by omega), nI_clamp (show i + 3 < 2 ^ 31 by omega), gd_in (show i + 4 < X.1 by omega) (show X.1 < 2 ^ 31 by omega), nI_clamp (show i + 4 < 2 ^ 31 by omega), gd_in (show i + 5 < X.1 by omega) (show X.1 < 2 ^ 31 by omega), nI_clamp (show i + 5 < 2 ^ 31 by omega), gd_in (show i + 6 < X.1 by omega) (show X.1 < 2 ^ 31 by omega), nI_clamp (show i + 6 < 2 ^ 31 by omega)]
  exact law_fin (call_wipe hR) _
theorem lw_c31 {X : Scr} {s : Mem} (hR : Rel s) {i : Nat} (hi : i + 7 ≤ X.1) (hX : X.1 ≤ 3584) : ∃ s2, gL_law_1234 X s (nI i) = some (.inr (nI (i + 7), s2)) ∧ Rel s2 := by
  unfold gL_law_1234
  simp only [nI_p1, nI_p2, nI_p3, nI_p4, nI_p5, nI_p6, nI_p7, gd_in (show i + 1 < X.1 by omega) (show X.1 < 2 ^ 31 by omega), nI_clamp (show i + 1 < 2 ^ 31 by omega), gd_in (show i + 2 < X.1 by omega) (show X.1 < 2 ^ 31 by omega), nI_clamp (show i + 2 < 2 ^ 31 by omega), gd_in (show i + 3 < X.1 by omega) (show X.1 < 2 ^ 31 by omega), nI_clamp (show i + 3 < 2 ^ 31 by omega), gd_in (show i + 4 < X.1 by omega) (show X.1 < 2 ^ 31 by omega), nI_clamp (show i + 4 < 2 ^ 31 by omega), gd_in (show i + 5 < X.1 by omega) (show X.1 < 2 ^ 31 by omega), nI_clamp (show i + 5 < 2 ^ 31 by omega), gd_in (show i + 6 < X.1 by omega) (show X.1 < 2 ^ 31 by omega), nI_clamp (show i + 6 < 2 ^ 31 by omega)]
  exact law_fin (call_text hR) _
theorem lw_c32 {X : Scr} {s : Mem} (hR : Rel s) {i : Nat} (hi : i + 7 ≤ X.1) (hX : X.1 ≤ 3584) : ∃ s2, gL_law_1247 X s (nI i) = some (.inr (nI (i + 7), s2)) ∧ Rel s2 := by
  unfold gL_law_1247
  simp only [nI_p1, nI_p2, nI_p3, nI_p4, nI_p5, nI_p6, nI_p7, gd_in (show i + 1 < X.1 by omega) (show X.1 < 2 ^ 31 by omega), nI_clamp (show i + 1 < 2 ^ 31 by omega), gd_in (show i + 2 < X.1 by omega) (show X.1 < 2 ^ 31 by omega), nI_clamp (show i + 2 < 2 ^ 31 by omega), gd_in (show i + 3 < X.1 by omega) (show X.1 < 2 ^ 31 by omega), nI_clamp (show i + 3 < 2 ^ 31 by omega), gd_in (show i + 4 < X.1 by omega) (show X.1 < 2 ^ 31 by omega), nI_clamp (show i + 4 < 2 ^ 31 by omega), gd_in (show i + 5 < X.1 by omega) (show X.1 < 2 ^ 31 by omega), nI_clamp (show i + 5 < 2 ^ 31 by omega), gd_in (show i + 6 < X.1 by omega) (show X.1 < 2 ^ 31 by omega), nI_clamp (show i + 6 < 2 ^ 31 by omega)]
  exact law_fin (call_line hR _ _) _
theorem lw_c33 {X : Scr} {s : Mem} (hR : Rel s) {i : Nat} (hi : i + 7 ≤ X.1) (hX : X.1 ≤ 3584) : ∃ s2, gL_law_1280 X s (nI i) = some (.inr (nI (i + 7), s2)) ∧ Rel s2 := by
  unfold gL_law_1280
  simp only [nI_p1, nI_p2, nI_p3, nI_p4, nI_p5, nI_p6, nI_p7, gd_in (show i + 1 < X.1 by omega) (show X.1 < 2 ^ 31 by omega), nI_clamp (show i + 1 < 2 ^ 31 by omega), gd_in (show i + 2 < X.1 by omega) (show X.1 < 2 ^ 31 by omega), nI_clamp (show i + 2 < 2 ^ 31 by omega), gd_in (show i + 3 < X.1 by omega) (show X.1 < 2 ^ 31 by omega), nI_clamp (show i + 3 < 2 ^ 31 by omega), gd_in (show i + 4 < X.1 by omega) (show X.1 < 2 ^ 31 by omega), nI_clamp (show i + 4 < 2 ^ 31 by omega), gd_in (show i + 5 < X.1 by omega) (show X.1 < 2 ^ 31 by omega), nI_clamp (show i + 5 < 2 ^ 31 by omega), gd_in (show i + 6 < X.1 by omega) (show X.1 < 2 ^ 31 by omega), nI_clamp (show i + 6 < 2 ^ 31 by omega)]
  exact law_fin (call_sheet hR _ _ _) _
theorem lw_c34 {X : Scr} {s : Mem} (hR : Rel s) {i : Nat} (hi : i + 7 ≤ X.1) (hX : X.1 ≤ 3584) : ∃ s2, gL_law_1323 X s (nI i) = some (.inr (nI (i + 7), s2)) ∧ Rel s2 := by
  unfold gL_law_1323
  simp only [nI_p1, nI_p2, nI_p3, nI_p4, nI_p5, nI_p6, nI_p7, gd_in (show i + 1 < X.1 by omega) (show X.1 < 2 ^ 31 by omega), nI_clamp (show i + 1 < 2 ^ 31 by omega), gd_in (show i + 2 < X.1 by omega) (show X.1 < 2 ^ 31 by omega), nI_clamp (show i + 2 < 2 ^ 31 by omega), gd_in (show i + 3 < X.1 by omega) (show X.1 < 2 ^ 31 by omega), nI_clamp (show i + 3 < 2 ^ 31 by omega), gd_in (show i + 4 < X.1 by omega) (show X.1 < 2 ^ 31 by omega), nI_clamp (show i + 4 < 2 ^ 31 by omega), gd_in (show i + 5 < X.1 by omega) (show X.1 < 2 ^ 31 by omega), nI_clamp (show i + 5 < 2 ^ 31 by omega), gd_in (show i + 6 < X.1 by omega) (show X.1 < 2 ^ 31 by omega), nI_clamp (show i + 6 < 2 ^ 31 by omega)]
  exact law_fin (call_write hR _ _ _) _
theorem lw_c35 {X : Scr} {s : Mem} (hR : Rel s) {i : Nat} (hi : i + 7 ≤ X.1) (hX : X.1 ≤ 3584) : ∃ s2, gL_law_1396 X s (nI i) = some (.inr (nI (i + 7), s2)) ∧ Rel s2 := by
  unfold gL_law_1396
  simp only [nI_p1, nI_p2, nI_p3, nI_p4, nI_p5, nI_p6, nI_p7, gd_in (show i + 1 < X.1 by omega) (show X.1 < 2 ^ 31 by omega), nI_clamp (show i + 1 < 2 ^ 31 by omega), gd_in (show i + 2 < X.1 by omega) (show X.1 < 2 ^ 31 by omega), nI_clamp (show i + 2 < 2 ^ 31 by omega), gd_in (show i + 3 < X.1 by omega) (show X.1 < 2 ^ 31 by omega), nI_clamp (show i + 3 < 2 ^ 31 by omega), gd_in (show i + 4 < X.1 by omega) (show X.1 < 2 ^ 31 by omega), nI_clamp (show i + 4 < 2 ^ 31 by omega), gd_in (show i + 5 < X.1 by omega) (show X.1 < 2 ^ 31 by omega), nI_clamp (show i + 5 < 2 ^ 31 by omega), gd_in (show i + 6 < X.1 by omega) (show X.1 < 2 ^ 31 by omega), nI_clamp (show i + 6 < 2 ^ 31 by omega)]
  exact law_finL (call_item hR _ _) _
theorem lw_c36 {X : Scr} {s : Mem} (hR : Rel s) {i : Nat} (hi : i + 7 ≤ X.1) (hX : X.1 ≤ 3584) : ∃ s2, gL_law_1430 X s (nI i) = some (.inr (nI (i + 7), s2)) ∧ Rel s2 := by
  unfold gL_law_1430
  simp only [nI_p1, nI_p2, nI_p3, nI_p4, nI_p5, nI_p6, nI_p7, gd_in (show i + 1 < X.1 by omega) (show X.1 < 2 ^ 31 by omega), nI_clamp (show i + 1 < 2 ^ 31 by omega), gd_in (show i + 2 < X.1 by omega) (show X.1 < 2 ^ 31 by omega), nI_clamp (show i + 2 < 2 ^ 31 by omega), gd_in (show i + 3 < X.1 by omega) (show X.1 < 2 ^ 31 by omega), nI_clamp (show i + 3 < 2 ^ 31 by omega), gd_in (show i + 4 < X.1 by omega) (show X.1 < 2 ^ 31 by omega), nI_clamp (show i + 4 < 2 ^ 31 by omega), gd_in (show i + 5 < X.1 by omega) (show X.1 < 2 ^ 31 by omega), nI_clamp (show i + 5 < 2 ^ 31 by omega), gd_in (show i + 6 < X.1 by omega) (show X.1 < 2 ^ 31 by omega), nI_clamp (show i + 6 < 2 ^ 31 by omega)]
  exact law_fin (call_copy hR _ _ _ _ _) _
theorem lw_c37 {X : Scr} {s : Mem} (hR : Rel s) {i : Nat} (hi : i + 7 ≤ X.1) (hX : X.1 ≤ 3584) : ∃ s2, gL_law_1493 X s (nI i) = some (.inr (nI (i + 7), s2)) ∧ Rel s2 := by
  unfold gL_law_1493
  simp only [nI_p1, nI_p2, nI_p3, nI_p4, nI_p5, nI_p6, nI_p7, gd_in (show i + 1 < X.1 by omega) (show X.1 < 2 ^ 31 by omega), nI_clamp (show i + 1 < 2 ^ 31 by omega), gd_in (show i + 2 < X.1 by omega) (show X.1 < 2 ^ 31 by omega), nI_clamp (show i + 2 < 2 ^ 31 by omega), gd_in (show i + 3 < X.1 by omega) (show X.1 < 2 ^ 31 by omega), nI_clamp (show i + 3 < 2 ^ 31 by omega), gd_in (show i + 4 < X.1 by omega) (show X.1 < 2 ^ 31 by omega), nI_clamp (show i + 4 < 2 ^ 31 by omega), gd_in (show i + 5 < X.1 by omega) (show X.1 < 2 ^ 31 by omega), nI_clamp (show i + 5 < 2 ^ 31 by omega), gd_in (show i + 6 < X.1 by omega) (show X.1 < 2 ^ 31 by omega), nI_clamp (show i + 6 < 2 ^ 31 by omega)]
  exact law_fin (call_undo hR) _
theorem lw_c38 {X : Scr} {s : Mem} (hR : Rel s) {i : Nat} (hi : i + 7 ≤ X.1) (hX : X.1 ≤ 3584) : ∃ s2, gL_law_1506 X s (nI i) = some (.inr (nI (i + 7), s2)) ∧ Rel s2 := by
  unfold gL_law_1506
  simp only [nI_p1, nI_p2, nI_p3, nI_p4, nI_p5, nI_p6, nI_p7, gd_in (show i + 1 < X.1 by omega) (show X.1 < 2 ^ 31 by omega), nI_clamp (show i + 1 < 2 ^ 31 by omega), gd_in (show i + 2 < X.1 by omega) (show X.1 < 2 ^ 31 by omega), nI_clamp (show i + 2 < 2 ^ 31 by omega), gd_in (show i + 3 < X.1 by omega) (show X.1 < 2 ^ 31 by omega), nI_clamp (show i + 3 < 2 ^ 31 by omega), gd_in (show i + 4 < X.1 by omega) (show X.1 < 2 ^ 31 by omega), nI_clamp (show i + 4 < 2 ^ 31 by omega), gd_in (show i + 5 < X.1 by omega) (show X.1 < 2 ^ 31 by omega), nI_clamp (show i + 5 < 2 ^ 31 by omega), gd_in (show i + 6 < X.1 by omega) (show X.1 < 2 ^ 31 by omega), nI_clamp (show i + 6 < 2 ^ 31 by omega)]
  exact law_fin (call_count hR _) _
theorem lw_c39 {X : Scr} {s : Mem} (hR : Rel s) {i : Nat} (hi : i + 7 ≤ X.1) (hX : X.1 ≤ 3584) : ∃ s2, gL_law_1529 X s (nI i) = some (.inr (nI (i + 7), s2)) ∧ Rel s2 := by
  unfold gL_law_1529
  simp only [nI_p1, nI_p2, nI_p3, nI_p4, nI_p5, nI_p6, nI_p7, gd_in (show i + 1 < X.1 by omega) (show X.1 < 2 ^ 31 by omega), nI_clamp (show i + 1 < 2 ^ 31 by omega), gd_in (show i + 2 < X.1 by omega) (show X.1 < 2 ^ 31 by omega), nI_clamp (show i + 2 < 2 ^ 31 by omega), gd_in (show i + 3 < X.1 by omega) (show X.1 < 2 ^ 31 by omega), nI_clamp (show i + 3 < 2 ^ 31 by omega), gd_in (show i + 4 < X.1 by omega) (show X.1 < 2 ^ 31 by omega), nI_clamp (show i + 4 < 2 ^ 31 by omega), gd_in (show i + 5 < X.1 by omega) (show X.1 < 2 ^ 31 by omega), nI_clamp (show i + 5 < 2 ^ 31 by omega), gd_in (show i + 6 < X.1 by omega) (show X.1 < 2 ^ 31 by omega), nI_clamp (show i + 6 < 2 ^ 31 by omega)]
  exact law_fin (call_status hR _) _
theorem lw_step {X : Scr} {s : Mem} (hR : Rel s) {i : Nat} (hi : i + 7 ≤ X.1) (hX : X.1 ≤ 3584) : ∃ s2, bL_law_18 X s (nI i) = some (.inr (nI (i + 7), s2)) ∧ Rel s2 := by
  unfold bL_law_18
  have h7 : ¬ Int32.ofNat X.1 - (7 : Int32) < nI i := by
    have e : (nI X.1 - nI 7).toInt = (X.1 : Int) - (7 : Nat) := pk_sub_toInt (by omega) (by omega)
    show ¬ nI X.1 - nI 7 < nI i
    rw [i32_lt, e, nI_toInt (by omega)]; omega
  rw [if_neg h7, gd_in (by omega) (by omega), nI_clamp (by omega)]
  generalize X.2 i &&& (63 : Int32) = op
  by_cases q0 : op = 0
  · rw [if_pos q0]; exact lw_c0 hR hi hX
  rw [if_neg q0]
  by_cases q1 : op = 1
  · rw [if_pos q1]; exact lw_c1 hR hi hX
  rw [if_neg q1]
  by_cases q2 : op = 2
  · rw [if_pos q2]; exact lw_c2 hR hi hX
  rw [if_neg q2]
  by_cases q3 : op = 3
  · rw [if_pos q3]; exact lw_c3 hR hi hX
  rw [if_neg q3]
  by_cases q4 : op = 4
  · rw [if_pos q4]; exact lw_c4 hR hi hX
  rw [if_neg q4]
  by_cases q5 : op = 5
  · rw [if_pos q5]; exact lw_c5 hR hi hX
  rw [if_neg q5]
  by_cases q6 : op = 6
  · rw [if_pos q6]; exact lw_c6 hR hi hX
  rw [if_neg q6]
  by_cases q7 : op = 7
  · rw [if_pos q7]; exact lw_c7 hR hi hX
  rw [if_neg q7]
  by_cases q8 : op = 8
  · rw [if_pos q8]; exact lw_c8 hR hi hX
  rw [if_neg q8]
  by_cases q9 : op = 9
  · rw [if_pos q9]; exact lw_c9 hR hi hX
  rw [if_neg q9]
  by_cases q10 : op = 10
  · rw [if_pos q10]; exact lw_c10 hR hi hX
  rw [if_neg q10]
  by_cases q11 : op = 11
  · rw [if_pos q11]; exact lw_c11 hR hi hX
  rw [if_neg q11]
  by_cases q12 : op = 12
  · rw [if_pos q12]; exact lw_c12 hR hi hX
  rw [if_neg q12]
  by_cases q13 : op = 13
  · rw [if_pos q13]; exact lw_c13 hR hi hX
  rw [if_neg q13]
  by_cases q14 : op = 14
  · rw [if_pos q14]; exact lw_c14 hR hi hX
  rw [if_neg q14]
  by_cases q15 : op = 15
  · rw [if_pos q15]; exact lw_c15 hR hi hX
  rw [if_neg q15]
  by_cases q16 : op = 16
  · rw [if_pos q16]; exact lw_c16 hR hi hX
  rw [if_neg q16]
  by_cases q17 : op = 17
  · rw [if_pos q17]; exact lw_c17 hR hi hX
  rw [if_neg q17]
  by_cases q18 : op = 18
  · rw [if_pos q18]; exact lw_c18 hR hi hX
  rw [if_neg q18]
  by_cases q19 : op = 19
  · rw [if_pos q19]; exact lw_c19 hR hi hX
  rw [if_neg q19]
  by_cases q20 : op = 20
  · rw [if_pos q20]; exact lw_c20 hR hi hX
  rw [if_neg q20]
  by_cases q21 : op = 21
  · rw [if_pos q21]; exact lw_c21 hR hi hX
  rw [if_neg q21]
  by_cases q22 : op = 22
  · rw [if_pos q22]; exact lw_c22 hR hi hX
  rw [if_neg q22]
  by_cases q23 : op = 23
  · rw [if_pos q23]; exact lw_c23 hR hi hX
  rw [if_neg q23]
  by_cases q24 : op = 24
  · rw [if_pos q24]; exact lw_c24 hR hi hX
  rw [if_neg q24]
  by_cases q25 : op = 25
  · rw [if_pos q25]; exact lw_c25 hR hi hX
  rw [if_neg q25]
  by_cases q26 : op = 26
  · rw [if_pos q26]; exact lw_c26 hR hi hX
  rw [if_neg q26]
  by_cases q27 : op = 27
  · rw [if_pos q27]; exact lw_c27 hR hi hX
  rw [if_neg q27]
  by_cases q28 : op = 28
  · rw [if_pos q28]; exact lw_c28 hR hi hX
  rw [if_neg q28]
  by_cases q29 : op = 29
  · rw [if_pos q29]; exact lw_c29 hR hi hX
  rw [if_neg q29]
  by_cases q30 : op = 30
  · rw [if_pos q30]; exact lw_c30 hR hi hX
  rw [if_neg q30]
  by_cases q31 : op = 31
  · rw [if_pos q31]; exact lw_c31 hR hi hX
  rw [if_neg q31]
  by_cases q32 : op = 32
  · rw [if_pos q32]; exact lw_c32 hR hi hX
  rw [if_neg q32]
  by_cases q33 : op = 33
  · rw [if_pos q33]; exact lw_c33 hR hi hX
  rw [if_neg q33]
  by_cases q34 : op = 34
  · rw [if_pos q34]; exact lw_c34 hR hi hX
  rw [if_neg q34]
  by_cases q35 : op = 35
  · rw [if_pos q35]; exact lw_c35 hR hi hX
  rw [if_neg q35]
  by_cases q36 : op = 36
  · rw [if_pos q36]; exact lw_c36 hR hi hX
  rw [if_neg q36]
  by_cases q37 : op = 37
  · rw [if_pos q37]; exact lw_c37 hR hi hX
  rw [if_neg q37]
  by_cases q38 : op = 38
  · rw [if_pos q38]; exact lw_c38 hR hi hX
  rw [if_neg q38]
  by_cases q39 : op = 39
  · rw [if_pos q39]; exact lw_c39 hR hi hX
  rw [if_neg q39]
  rw [lt_e, nI_p7]
  exact ⟨s, rfl, hR⟩
