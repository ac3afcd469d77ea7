/-! sheets -/
theorem Rel_sh {s s2 : Mem} (hR : Rel s) (h : ShR s2) (hr : ∀ a, a ≠ 16 → a ≠ 17 → a ≠ 29 → a ≠ 30 → s2.1 a = s.1 a) : Rel s2 := by
  obtain ⟨r1, r2, r3, r4, r5, r6⟩ := hR
  refine ⟨?_, ?_, ?_, ?_, ?_, h⟩
  · rw [hr 2 (by omega) (by omega) (by omega) (by omega), hr 20 (by omega) (by omega) (by omega) (by omega)]; exact r1
  · obtain ⟨u, sl, fs, hu, hsl, hfs, e1, e2, e3, e4, hk⟩ := r2
    refine ⟨u, sl, fs, hu, hsl, hfs, by rw [hr 3 (by omega) (by omega) (by omega) (by omega)]; exact e1, by rw [hr 3 (by omega) (by omega) (by omega) (by omega)]; exact e2, by rw [hr 19 (by omega) (by omega) (by omega) (by omega)]; exact e3, by rw [hr 19 (by omega) (by omega) (by omega) (by omega)]; exact e4, fun i hi => ?_⟩
    rw [hr 4 (by omega) (by omega) (by omega) (by omega), hr (37 + (fs + i) % 30) (by omega) (by omega) (by omega) (by omega)]
    exact hk i hi
  · intro k hk
    rw [hr 18 (by omega) (by omega) (by omega) (by omega), hr 22 (by omega) (by omega) (by omega) (by omega)]
    exact r3 k hk
  · rw [hr 0 (by omega) (by omega) (by omega) (by omega), hr 19 (by omega) (by omega) (by omega) (by omega)]; exact r4
  · obtain ⟨L, hL, e1, e2, e3⟩ := r5
    refine ⟨L, hL, ?_, ?_, fun i hi => ?_⟩
    · rw [hr 12 (by omega) (by omega) (by omega) (by omega)]; exact e1
    · rw [hr 19 (by omega) (by omega) (by omega) (by omega)]; exact e2
    · rw [hr 28 (by omega) (by omega) (by omega) (by omega), hr 13 (by omega) (by omega) (by omega) (by omega)]; exact e3 i hi
theorem upL_R (σ : Mem) (k i : Nat) (x : Int64) : upL σ k i x = upRL σ k (vp_updL (σ.2 k) i x) := rfl
theorem upRL_n {σ : Mem} {k a : Nat} {f : Nat → Int64} (h : a ≠ k) : (upRL σ k f).2 a = σ.2 a := if_neg h
theorem upRL_1 (σ : Mem) (k : Nat) (f : Nat → Int64) : (upRL σ k f).1 = σ.1 := rfl
theorem upRL_RL (σ : Mem) (k : Nat) (f f' : Nat → Int64) : upRL (upRL σ k f) k f' = upRL σ k f' := by
  unfold upRL
  refine Prod.ext rfl (funext fun a => ?_)
  show (if a = k then f' else if a = k then f else σ.2 a) = if a = k then f' else σ.2 a
  by_cases h : a = k
  · rw [if_pos h, if_pos h]
  · rw [if_neg h, if_neg h, if_neg h]
def zL (r : Nat → Int64) (b : Nat) : Nat → (Nat → Int64) := itr (fun j r' => vp_updL r' (b + j) 0) r
theorem zL_s (r : Nat → Int64) (b i : Nat) : zL r b (i + 1) = vp_updL (zL r b i) (b + i) 0 := rfl
theorem zL_get (r : Nat → Int64) (b : Nat) : ∀ i j, zL r b i j = if b ≤ j ∧ j < b + i then 0 else r j
  | 0, j => by rw [if_neg (by omega)]; rfl
  | i + 1, j => by
    rw [zL_s]
    by_cases h : j = b + i
    · rw [h, pk_uLs, if_pos (by omega)]
    · rw [pk_uLn h, zL_get r b i j]
      by_cases h2 : b ≤ j ∧ j < b + i
      · rw [if_pos h2, if_pos (by omega)]
      · rw [if_neg h2, if_neg (by omega)]
theorem nI_c40 {i : Nat} (h : i < 40) : ¬ (40 : Int32) ≤ nI i := by rw [show (40 : Int32) = nI 40 from rfl, nI_leI (by omega) (by omega)]; omega
theorem ix40 {k i : Nat} : (40 : Int32) * nI k + nI i = nI (40 * k + i) := by rw [show (40 : Int32) = nI 40 from rfl, pk_mul, nI_add]
theorem C_shB (s : Mem) {k : Nat} (v n : Int32) (hk : k < 4) : fX4_becomes s (nI k) v n = some (n, upRL (up2 (up2 s 16 k v) 17 k n) 15 (zL (s.2 15) (40 * k) 40)) := by
  have hl : ∀ (m : Mem), m.2 15 = s.2 15 → lp (fun a => bX4_becomes_17 a.2 (nI k) n a.1) 600 ((0 : Int32), m) = some (upRL m 15 (zL (s.2 15) (40 * k) 40)) := by
    intro m hm
    have hs : ∀ i, i < 40 → bX4_becomes_17 (upRL m 15 (zL (s.2 15) (40 * k) i)) (nI k) n (nI i) = some (.inr (nI (i + 1), upRL m 15 (zL (s.2 15) (40 * k) (i + 1)))) := by
      intro i hi
      unfold bX4_becomes_17
      rw [if_neg (nI_c40 hi), ix40, gd_in (by omega) (by omega), nI_clamp (by omega)]
      simp only [lt, nI_p1]
      rw [upL_R, upRL_s, upRL_RL, zL_s]
    have he : bX4_becomes_17 (upRL m 15 (zL (s.2 15) (40 * k) 40)) (nI k) n (nI 40) = some (.inl (upRL m 15 (zL (s.2 15) (40 * k) 40))) := by
      unfold bX4_becomes_17
      rw [if_pos (by decide)]
    have h0 : upRL m 15 (zL (s.2 15) (40 * k) 0) = m := by
      show upRL m 15 (s.2 15) = m
      rw [← hm]
      unfold upRL
      refine Prod.ext rfl (funext fun a => ?_)
      show (if a = 15 then m.2 15 else m.2 a) = m.2 a
      by_cases h : a = 15
      · rw [if_pos h, h]
      · rw [if_neg h]
    exact lp_at (body := fun a => bX4_becomes_17 a.2 (nI k) n a.1) (a := ((0 : Int32), m)) (k := 600) (fun i => (nI i, upRL m 15 (zL (s.2 15) (40 * k) i))) 40 (by rw [h0]; rfl) hs he (by omega)
  unfold fX4_becomes
  simp only [lt]
  rw [gd_in hk (by omega), gd_in hk (by omega), nI_clamp (by omega), hl (up2 (up2 s 16 k v) 17 k n) rfl]
  rfl
theorem M_shB (s : Mem) {k : Nat} (v n : Int32) (hk : k < 4) : gX7_sheet_79 (up2 s 29 k v) (nI k) n (nI k) = some (n, upRL (up2 (up2 s 29 k v) 30 k n) (33 + k) (zL (s.2 (33 + k)) 0 40)) := by
  have hl : ∀ (m : Mem), m.2 (33 + k) = s.2 (33 + k) → lp (fun a => bX7_sheet_83 a.2 (nI k) a.1) 600 ((0 : Int32), m) = some (upRL m (33 + k) (zL (s.2 (33 + k)) 0 40)) := by
    intro m hm
    have hs : ∀ i, i < 40 → bX7_sheet_83 (upRL m (33 + k) (zL (s.2 (33 + k)) 0 i)) (nI k) (nI i) = some (.inr (nI (i + 1), upRL m (33 + k) (zL (s.2 (33 + k)) 0 (i + 1)))) := by
      intro i hi
      unfold bX7_sheet_83
      rw [if_neg (nI_c40 hi), gd_in hk (by omega), gd_in hi (by omega), nI_clamp (by omega), nI_clamp (by omega)]
      simp only [lt, nI_p1]
      rw [upL_R, upRL_s, upRL_RL, zL_s, Nat.zero_add]
    have he : bX7_sheet_83 (upRL m (33 + k) (zL (s.2 (33 + k)) 0 40)) (nI k) (nI 40) = some (.inl (upRL m (33 + k) (zL (s.2 (33 + k)) 0 40))) := by
      unfold bX7_sheet_83
      rw [if_pos (by decide)]
    have h0 : upRL m (33 + k) (zL (s.2 (33 + k)) 0 0) = m := by
      show upRL m (33 + k) (s.2 (33 + k)) = m
      rw [← hm]
      unfold upRL
      refine Prod.ext rfl (funext fun a => ?_)
      show (if a = 33 + k then m.2 (33 + k) else m.2 a) = m.2 a
      by_cases h : a = 33 + k
      · rw [if_pos h, h]
      · rw [if_neg h]
    exact lp_at (body := fun a => bX7_sheet_83 a.2 (nI k) a.1) (a := ((0 : Int32), m)) (k := 600) (fun i => (nI i, upRL m (33 + k) (zL (s.2 (33 + k)) 0 i))) 40 (by rw [h0]; rfl) hs he (by omega)
  unfold gX7_sheet_79
  simp only [lt]
  rw [gd_in hk (by omega), nI_clamp (by omega), hl (up2 (up2 s 29 k v) 30 k n) rfl, Option.bind_some, gd_in hk (by omega), upRL_1, up2_get, if_pos ⟨rfl, rfl⟩]
theorem ok_sheet {s : Mem} (hR : Rel s) {k m : Nat} {v : Int32} (hk : k < 4) (hm : m ≤ 40) (hv : v = -1 ∨ v = 0 ∨ v = 1 ∨ v = 2) {X : Option (Int32 × Mem)} {F : Mem → Option (Int32 × Mem)} (hX : X = fX4_becomes s (nI k) v (nI m)) (hF : ∀ s1, F s1 = gX7_sheet_79 (up2 s1 29 k v) (nI k) (nI m) (nI k)) : OK2 X F := by
  rw [C_shB s v (nI m) hk] at hX
  refine ⟨nI m, _, _, hX, (hF _).trans (M_shB _ v (nI m) hk), ?_⟩
  refine Rel_sh hR (fun k' hk' => ?_) (fun a q1 q2 q3 q4 => ?_)
  · obtain ⟨e1, e2, e3, ⟨m', hm', e4⟩, e5⟩ := hR.2.2.2.2.2 k' hk'
    have l15 : (upRL (up2 (up2 (upRL (up2 (up2 s 16 k v) 17 k (nI m)) 15 (zL (s.2 15) (40 * k) 40)) 29 k v) 30 k (nI m)) (33 + k) (zL ((upRL (up2 (up2 s 16 k v) 17 k (nI m)) 15 (zL (s.2 15) (40 * k) 40)).2 (33 + k)) 0 40)).2 15 = zL (s.2 15) (40 * k) 40 := by
      rw [upRL_n (by omega), up2_2, up2_2, upRL_s]
    rw [l15]
    simp only [upRL_1, up2_get]
    by_cases e : k' = k
    · subst e
      simp only [if_pos, and_self, show ¬ ((16 : Nat) = 30) by omega, show ¬ ((16 : Nat) = 29) by omega, show ¬ ((16 : Nat) = 17) by omega, show ¬ ((29 : Nat) = 30) by omega, show ¬ ((17 : Nat) = 30) by omega, show ¬ ((17 : Nat) = 29) by omega, false_and, if_false, if_true]
      refine ⟨trivial, trivial, hv, ⟨m, hm, rfl⟩, fun i hi => ?_⟩
      rw [upRL_s, zL_get, zL_get, if_pos (by omega), if_pos (by omega)]
    · simp only [show ¬ (k' = k) from e, and_false, if_false]
      refine ⟨e1, e2, e3, ⟨m', hm', e4⟩, fun i hi => ?_⟩
      rw [upRL_n (by omega), up2_2, up2_2, upRL_n (by omega), up2_2, up2_2, zL_get, if_neg (by omega)]
      exact e5 i hi
  · rw [upRL_1, up2_n q4, up2_n q3, upRL_1, up2_n q2, up2_n q1]
theorem call_sheet {s : Mem} (hR : Rel s) (x y z : Int32) : OK2 (fX6_sheet s x y z) (fun s1 => fX7_sheet s1 x y z) := by
  cases e : inR x 0 3
  · refine fnd hR 0 (by omega) _ ?_ (fun s1 h1 _ => ?_)
    · unfold fX6_sheet gX6_sheet_25; rw [C_isOne, e]; rfl
    · show fX7_sheet s1 x y z = _
      unfold fX7_sheet gX7_sheet_21; rw [M_isSheet, e]; rfl
  cases e2 : inR y (-1) 2
  · refine fnd hR 0 (by omega) _ ?_ (fun s1 h1 _ => ?_)
    · unfold fX6_sheet gX6_sheet_25; rw [C_isOne, e, wi_in y (-1) 2 (by decide) (by decide), e2]; rfl
    · show fX7_sheet s1 x y z = _
      unfold fX7_sheet gX7_sheet_21; rw [M_isSheet, e, mi_in y (-1) 2 (by decide) (by decide), e2]; rfl
  obtain ⟨k, hk, rfl⟩ := inR_ex (h := 3) (by omega) e
  have hv : y = -1 ∨ y = 0 ∨ y = 1 ∨ y = 2 := by
    have := of_decide_eq_true e2
    have key : y.toInt = -1 ∨ y.toInt = 0 ∨ y.toInt = 1 ∨ y.toInt = 2 := by omega
    rcases key with q | q | q | q
    · left; apply Int32.toInt_inj.mp; exact q
    · right; left; apply Int32.toInt_inj.mp; exact q
    · right; right; left; apply Int32.toInt_inj.mp; exact q
    · right; right; right; apply Int32.toInt_inj.mp; exact q
  have hx : fX6_sheet s (nI k) y z = if y = (-1 : Int32) then (fX4_becomes s (nI k) y (0 : Int32)).bind (fun y9 => some ((y9.1, y9.2))) else if (0 : Int32) ≤ z then if z ≤ (40 : Int32) then (fX4_becomes s (nI k) y z).bind (fun y4 => some ((y4.1, y4.2))) else (fX6_finding s (0 : Int32)).bind (fun y5 => some ((y5.1, y5.2))) else (fX6_finding s (6 : Int32)).bind (fun y7 => some ((y7.1, y7.2))) := by
    unfold fX6_sheet
    rw [C_isOne, e, wi_in y (-1) 2 (by decide) (by decide), e2, Option.bind_some, bi_n0, if_pos rfl, Option.bind_some, bi_n0, if_pos rfl]
  have hy : ∀ s1, fX7_sheet s1 (nI k) y z = if y < (0 : Int32) then gX7_sheet_42 s1 (nI k) y z else if (0 : Int32) ≤ z then gX7_sheet_42 s1 (nI k) y z else (fX7_finds s1 (6 : Int32)).bind (fun y19 => some ((y19.1, y19.2))) := by
    intro s1
    unfold fX7_sheet
    rw [M_isSheet, e, mi_in y (-1) 2 (by decide) (by decide), e2, Option.bind_some, bi_n0, if_pos rfl, Option.bind_some, bi_n0, if_pos rfl]
  have bid : ∀ m v, (fX4_becomes s (nI k) v m).bind (fun y9 => some ((y9.1, y9.2))) = fX4_becomes s (nI k) v m := by
    intro m v; rw [C_shB s v m (by omega)]; rfl
  have h58 : ∀ s1 m, gX7_sheet_58 s1 (nI k) y m = if (0 : Int32) ≤ y then gX7_sheet_79 (up2 s1 29 k y) (nI k) m (nI k) else gX7_sheet_79 (up2 s1 29 k y) (nI k) 0 (nI k) := by
    intro s1 m
    unfold gX7_sheet_58
    rw [gd_in (by omega) (by omega), nI_clamp (by omega)]
    rfl
  by_cases c1 : y = -1
  · refine ok_sheet hR (k := k) (m := 0) (v := y) (by omega) (by omega) hv ?_ (fun s1 => ?_)
    · rw [hx, if_pos c1, bid]; rfl
    · show fX7_sheet s1 (nI k) y z = _
      rw [hy s1, if_pos (by rw [c1]; decide)]
      unfold gX7_sheet_42
      rw [if_pos (by rw [c1]; decide), h58, if_neg (by rw [c1]; decide)]; rfl
  have c2 : (0 : Int32) ≤ y := by rcases hv with q | q | q | q <;> first | exact absurd q c1 | (rw [q]; decide)
  have c3 : ¬ y < 0 := by rcases hv with q | q | q | q <;> first | exact absurd q c1 | (rw [q]; decide)
  by_cases c4 : (0 : Int32) ≤ z
  · by_cases c5 : z ≤ (40 : Int32)
    · obtain ⟨m, hm, rfl⟩ := nI_of2 (x := z) (M := 40) (n := 40) (by decide) (by rw [i32_lt]; rw [i32_le] at c4; exact Int.not_lt.mpr c4) c5
      refine ok_sheet hR (k := k) (m := m) (v := y) (by omega) (by omega) hv ?_ (fun s1 => ?_)
      · rw [hx, if_neg c1, if_pos c4, if_pos c5, bid]
      · show fX7_sheet s1 (nI k) y (nI m) = _
        rw [hy s1, if_neg c3, if_pos c4]
        unfold gX7_sheet_42
        rw [if_neg c3, if_pos c5, h58, if_pos c2]
    · refine fnd hR 0 (by omega) _ ?_ (fun s1 h1 _ => ?_)
      · rw [hx, if_neg c1, if_pos c4, if_neg c5]; rfl
      · show fX7_sheet s1 (nI k) y z = _
        rw [hy s1, if_neg c3, if_pos c4]
        unfold gX7_sheet_42
        rw [if_neg c3, if_neg c5]; rfl
  · refine fnd hR 6 (by omega) _ ?_ (fun s1 h1 _ => ?_)
    · rw [hx, if_neg c1, if_neg c4]; rfl
    · show fX7_sheet s1 (nI k) y z = _
      rw [hy s1, if_neg c3, if_neg c4]; rfl
/-- why there is no place: what both say -/
def plR (srt : Int32) (m : Nat) (i : Int32) : Option (Fin 8) := if (0 : Int32) ≤ srt then (if inR i 0 ((m : Int) - 1) then none else some 0) else some 5
theorem C_has (s : Mem) {k m : Nat} (x : Int32) (hk : k < 4) (hm : m ≤ 40) (h : s.1 17 k = nI m) : fX4_has s (nI k) x = some (bi (inR x 0 ((m : Int) - 1))) := by
  unfold fX4_has inR
  have k1 : (x < 0) ↔ x.toInt < 0 := i32_lt
  have k2 : (nI m ≤ x) ↔ (m : Int) ≤ x.toInt := by rw [i32_le, nI_toInt (by omega)]
  rw [gd_in hk (by omega), nI_clamp (by omega), h]
  simp only [k1, k2]
  by_cases h1 : x.toInt < 0
  · rw [if_pos h1, decide_eq_false (by omega)]; rfl
  · rw [if_neg h1]
    by_cases h2 : (m : Int) ≤ x.toInt
    · rw [if_pos h2, decide_eq_false (by omega)]; rfl
    · rw [if_neg h2, decide_eq_true (by omega)]; rfl
theorem M_whyNoPlace (s : Mem) {k m : Nat} (x : Int32) (hk : k < 4) (hm : m ≤ 40) (h : s.1 30 k = nI m) : fX7_whyNoPlace s (nI k) x = some (match plR (s.1 29 k) m x with | none => -1 | some j => nI j.val) := by
  unfold fX7_whyNoPlace plR
  rw [M_isSheet, inR_nI (by omega) (by omega) (by omega), Option.bind_some, bi_n0, if_pos rfl, gd_in hk (by omega), gd_in hk (by omega), nI_clamp (by omega), h, mi_in x 0 ((m : Int) - 1) (by decide) (by rw [Int32.toInt_toInt64, show (1 : Int32) = nI 1 from rfl, pk_sub_toInt (by omega) (by omega)]; rfl), Option.bind_some, bi_n0]
  by_cases q : (0 : Int32) ≤ s.1 29 k
  · rw [if_pos q, if_pos q]
    cases inR x 0 ((m : Int) - 1) <;> rfl
  · rw [if_neg q, if_neg q]; rfl
def cutG (srt : Int32) (v : Int64) : Int64 := if srt = 0 then ((v.toInt32).toInt8.toInt32).toInt64 else if srt = 1 then (v.toInt32).toInt64 else v
theorem M_cut (srt : Int32) (v : Int64) : fX7_cut srt v = some (cutG srt v) := by
  unfold fX7_cut cutG
  by_cases h0 : srt = 0
  · rw [if_pos h0, if_pos h0]
  · rw [if_neg h0, if_neg h0]
    by_cases h1 : srt = 1
    · rw [if_pos h1, if_pos h1]
    · rw [if_neg h1, if_neg h1]
theorem C_set (s : Mem) {k i : Nat} (v : Int64) (hk : k < 4) (hi : i < 40) : fX4_set s (nI k) (nI i) v = some (upL s 15 (40 * k + i) (cutG (s.1 16 k) v)) := by
  unfold fX4_set gX4_set_33 cutG
  rw [gd_in hk (by omega), gd_in hk (by omega), nI_clamp (by omega), ix40, gd_in (by omega) (by omega), gd_in (by omega) (by omega), gd_in (by omega) (by omega), nI_clamp (by omega)]
  by_cases h0 : s.1 16 k = 0
  · rw [if_pos h0, if_pos h0]; rfl
  · rw [if_neg h0, if_neg h0]
    by_cases h1 : s.1 16 k = 1
    · rw [if_pos h1, if_pos h1]; rfl
    · rw [if_neg h1, if_neg h1]; rfl
theorem call_write {s : Mem} (hR : Rel s) (x y : Int32) (v : Int64) : OK2 (fX6_write s x y v) (fun s1 => fX7_write s1 x y v) := by
  cases e : inR x 0 3
  · refine fnd hR 0 (by omega) _ ?_ (fun s1 h1 _ => ?_)
    · unfold fX6_write; rw [C_isOne, e]; rfl
    · show fX7_write s1 x y v = _
      unfold fX7_write fX7_whyNoPlace; rw [M_isSheet, e]; rfl
  obtain ⟨k, hk, rfl⟩ := inR_ex (h := 3) (by omega) e
  obtain ⟨r1, r2, r3, ⟨m, hm, r4⟩, r5⟩ := hR.2.2.2.2.2 k (by omega)
  have hx : fX6_write s (nI k) y v = if (0 : Int32) ≤ s.1 29 k then (if inR y 0 ((m : Int) - 1) = true then (fX4_set s (nI k) y v).bind (fun y4 => some (((1 : Int32), y4))) else (fX6_finding s (0 : Int32)).bind (fun y5 => some ((y5.1, y5.2)))) else (fX6_finding s (5 : Int32)).bind (fun y7 => some ((y7.1, y7.2))) := by
    unfold fX6_write fX4_isMissing
    rw [C_isOne, e, Option.bind_some, bi_n0, if_pos rfl, gd_in (by omega) (by omega), nI_clamp (by omega), r1, C_has s y (by omega) hm (by rw [r2, r4]), Option.bind_some, bi_n0]
    by_cases q : (0 : Int32) ≤ s.1 29 k
    · rw [if_pos q, if_pos q]; rfl
    · rw [if_neg q, if_neg q]; rfl
  have hy : ∀ s1 : Mem, (∀ a, a = 29 ∨ a = 30 → s1.1 a = s.1 a) → fX7_write s1 (nI k) y v = if (0 : Int32) ≤ s.1 29 k then (if inR y 0 ((m : Int) - 1) = true then gd y 40 (some ((1 : Int32), upL s1 (33 + k) y.toNatClampNeg (cutG (s.1 29 k) v))) else (fX7_finds s1 (0 : Int32)).bind (fun y7 => some ((y7.1, y7.2)))) else (fX7_finds s1 (5 : Int32)).bind (fun y7 => some ((y7.1, y7.2))) := by
    intro s1 h1
    unfold fX7_write
    rw [M_whyNoPlace s1 y (by omega) hm (by rw [h1 30 (by omega)]; exact r4), Option.bind_some, gd_in (by omega) (by omega), gd_in (by omega) (by omega), nI_clamp (by omega), M_cut, Option.bind_some, h1 29 (by omega)]
    unfold plR
    by_cases q : (0 : Int32) ≤ s.1 29 k
    · rw [if_pos q, if_pos q]
      cases inR y 0 ((m : Int) - 1) <;> rfl
    · rw [if_neg q, if_neg q]; rfl
  by_cases q : (0 : Int32) ≤ s.1 29 k
  · cases e2 : inR y 0 ((m : Int) - 1)
    · refine fnd hR 0 (by omega) _ ?_ (fun s1 h1 _ => ?_)
      · rw [hx, if_pos q, e2]; rfl
      · show fX7_write s1 (nI k) y v = _
        rw [hy s1 (fun a ha => h1 a (by omega)), if_pos q, e2]; rfl
    · obtain ⟨i, hi, rfl⟩ : ∃ i, i < m ∧ y = nI i := by
        have := of_decide_eq_true e2
        refine ⟨y.toInt.toNat, by omega, ?_⟩
        apply Int32.toInt_inj.mp
        rw [nI_toInt (by omega)]
        omega
      refine ⟨1, upL s 15 (40 * k + i) (cutG (s.1 29 k) v), upL (upL s 15 (40 * k + i) (cutG (s.1 29 k) v)) (33 + k) i (cutG (s.1 29 k) v), ?_, ?_, ?_⟩
      · rw [hx, if_pos q, e2, if_pos rfl, C_set s v (by omega) (by omega), r1]; rfl
      · show fX7_write (upL s 15 (40 * k + i) (cutG (s.1 29 k) v)) (nI k) (nI i) v = _
        rw [hy (upL s 15 (40 * k + i) (cutG (s.1 29 k) v)) (fun a _ => rfl), if_pos q, e2, if_pos rfl, gd_in (by omega) (by omega), nI_clamp (by omega)]
      · refine Rel_sh hR (fun k' hk' => ?_) (fun a _ _ _ _ => rfl)
        obtain ⟨e1, e2', e3, e4, e5⟩ := hR.2.2.2.2.2 k' hk'
        refine ⟨e1, e2', e3, e4, fun j hj => ?_⟩
        rw [upL_R, upRL_n (show 15 ≠ 33 + k by omega), upL_R, upRL_s]
        by_cases c : k' = k
        · subst c
          rw [upRL_s, upRL_n (by omega)]
          by_cases c2 : j = i
          · rw [c2, pk_uLs, pk_uLs]
          · rw [pk_uLn (by omega), pk_uLn c2]; exact e5 j hj
        · rw [upRL_n (by omega), upRL_n (by omega), pk_uLn (by omega)]; exact e5 j hj
  · refine fnd hR 5 (by omega) _ ?_ (fun s1 h1 _ => ?_)
    · rw [hx, if_neg q]; rfl
    · show fX7_write s1 (nI k) y v = _
      rw [hy s1 (fun a ha => h1 a (by omega)), if_neg q]; rfl
theorem fndL {s : Mem} (hR : Rel s) (k : Nat) (hk : k < 8) {x : Option (Int64 × Mem)} (F : Mem → Option (Int64 × Mem)) (hx : x = (fX6_longFinding s (nI k)).bind (fun y => some (y.1, y.2))) (hy : ∀ s1 : Mem, (∀ a, a ≠ 18 → s1.1 a = s.1 a) → s1.2 = s.2 → F s1 = (fX7_findsLong s1 (nI k)).bind (fun y => some (y.1, y.2))) : OK2 x F := by
  refine ⟨(-1000000000000000001 : Int64) - (nI k).toInt64, up2 s 18 k (s.1 18 k + 1), _, ?_, ?_, Rel_told hR hk⟩
  · rw [hx]; unfold fX6_longFinding; rw [C_finding s hk]; rfl
  · have q1 : ∀ a, a ≠ 18 → (up2 s 18 k (s.1 18 k + 1)).1 a = s.1 a := fun a ha => by rw [up2_1, if_neg ha]
    rw [hy (up2 s 18 k (s.1 18 k + 1)) q1 rfl]
    unfold fX7_findsLong
    rw [gd_in hk (by omega), gd_in hk (by omega), nI_clamp (by omega)]
    rfl
theorem call_item {s : Mem} (hR : Rel s) (x y : Int32) : OK2 (fX6_item s x y) (fun s1 => fX7_item_ s1 x y) := by
  cases e : inR x 0 3
  · refine fndL hR 0 (by omega) _ ?_ (fun s1 h1 _ => ?_)
    · unfold fX6_item; rw [C_isOne, e]; rfl
    · show fX7_item_ s1 x y = _
      unfold fX7_item_ fX7_whyNoPlace; rw [M_isSheet, e]; rfl
  obtain ⟨k, hk, rfl⟩ := inR_ex (h := 3) (by omega) e
  obtain ⟨r1, r2, r3, ⟨m, hm, r4⟩, r5⟩ := hR.2.2.2.2.2 k (by omega)
  have hx : fX6_item s (nI k) y = if (0 : Int32) ≤ s.1 29 k then (if inR y 0 ((m : Int) - 1) = true then (fX4_at s (nI k) y).bind (fun y4 => some ((y4, s))) else (fX6_longFinding s (0 : Int32)).bind (fun y5 => some ((y5.1, y5.2)))) else (fX6_longFinding s (5 : Int32)).bind (fun y7 => some ((y7.1, y7.2))) := by
    unfold fX6_item fX4_isMissing
    rw [C_isOne, e, Option.bind_some, bi_n0, if_pos rfl, gd_in (by omega) (by omega), nI_clamp (by omega), r1, C_has s y (by omega) hm (by rw [r2, r4]), Option.bind_some, bi_n0]
    by_cases q : (0 : Int32) ≤ s.1 29 k
    · rw [if_pos q, if_pos q]; rfl
    · rw [if_neg q, if_neg q]; rfl
  have hy : ∀ s1 : Mem, (∀ a, a = 29 ∨ a = 30 → s1.1 a = s.1 a) → fX7_item_ s1 (nI k) y = if (0 : Int32) ≤ s.1 29 k then (if inR y 0 ((m : Int) - 1) = true then gd y 40 (some (s1.2 (33 + k) y.toNatClampNeg, s1)) else (fX7_findsLong s1 (0 : Int32)).bind (fun y7 => some ((y7.1, y7.2)))) else (fX7_findsLong s1 (5 : Int32)).bind (fun y7 => some ((y7.1, y7.2))) := by
    intro s1 h1
    unfold fX7_item_
    rw [M_whyNoPlace s1 y (by omega) hm (by rw [h1 30 (by omega)]; exact r4), Option.bind_some, gd_in (by omega) (by omega), nI_clamp (by omega), h1 29 (by omega)]
    unfold plR
    by_cases q : (0 : Int32) ≤ s.1 29 k
    · rw [if_pos q, if_pos q]
      cases inR y 0 ((m : Int) - 1) <;> rfl
    · rw [if_neg q, if_neg q]; rfl
  by_cases q : (0 : Int32) ≤ s.1 29 k
  · cases e2 : inR y 0 ((m : Int) - 1)
    · refine fndL hR 0 (by omega) _ ?_ (fun s1 h1 _ => ?_)
      · rw [hx, if_pos q, e2]; rfl
      · show fX7_item_ s1 (nI k) y = _
        rw [hy s1 (fun a ha => h1 a (by omega)), if_pos q, e2]; rfl
    · obtain ⟨i, hi, rfl⟩ : ∃ i, i < m ∧ y = nI i := by
        have := of_decide_eq_true e2
        refine ⟨y.toInt.toNat, by omega, ?_⟩
        apply Int32.toInt_inj.mp
        rw [nI_toInt (by omega)]
        omega
      refine ⟨s.2 15 (40 * k + i), s, s, ?_, ?_, hR⟩
      · rw [hx, if_pos q, e2, if_pos rfl]
        unfold fX4_at
        rw [ix40, gd_in (by omega) (by omega), nI_clamp (by omega)]; rfl
      · show fX7_item_ s (nI k) (nI i) = _
        rw [hy s (fun a _ => rfl), if_pos q, e2, if_pos rfl, gd_in (by omega) (by omega), nI_clamp (by omega), r5 i (by omega)]
  · refine fndL hR 5 (by omega) _ ?_ (fun s1 h1 _ => ?_)
    · rw [hx, if_neg q]; rfl
    · show fX7_item_ s1 (nI k) y = _
      rw [hy s1 (fun a ha => h1 a (by omega)), if_neg q]; rfl
