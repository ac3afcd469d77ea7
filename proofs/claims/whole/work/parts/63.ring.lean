/-! what is kept, told; the relation whole -/
theorem cl0 : (0 : Int32).toNatClampNeg = 0 := by decide +kernel
theorem mn30 {u : Nat} (h : u ≤ 30) : mnI (30 : Int32) (nI (u + 1)) = nI (min 30 (u + 1)) := by
  unfold mnI
  rw [show (30 : Int32) = nI 30 from rfl]
  by_cases e : u + 1 < 30
  · rw [if_pos (nI_lt e (by omega)), show min 30 (u + 1) = u + 1 by omega]
  · rw [if_neg (nI_nlt (by omega) (by omega)), show min 30 (u + 1) = 30 by omega]
theorem C_mark (s : Mem) {sl : Nat} (h : s.1 3 1 = nI sl) (hs : sl < 31) : fX2_mark s = some (upR s 4 (va_cpy (s.1 2) (s.1 4) 0 (sl * 171) 171)) := by
  unfold fX2_mark fX0_copyTo gcp
  rw [h, show (171 : Int32) = nI 171 from rfl, pk_mul, nI_clamp (by omega), nI_clamp (by omega), cl0, if_neg (by
    rintro (q | q | q | q | q)
    · exact absurd q (by decide)
    · exact absurd q (nI_pos (by omega))
    · exact absurd q (nI_pos (by omega))
    · omega
    · omega)]
  rfl
theorem C_bringBack (s : Mem) {sl : Nat} (h : s.1 3 1 = nI sl) (hs : sl < 31) : fX2_bringBack s = some (upR s 2 (va_cpy (s.1 4) (s.1 2) (sl * 171) 0 171)) := by
  unfold fX2_bringBack fX0_copyFrom gcp
  rw [h, show (171 : Int32) = nI 171 from rfl, pk_mul, nI_clamp (by omega), nI_clamp (by omega), cl0, if_neg (by
    rintro (q | q | q | q | q)
    · exact absurd q (nI_pos (by omega))
    · exact absurd q (by decide)
    · exact absurd q (nI_pos (by omega))
    · omega
    · omega)]
  rfl
theorem C_keep (s : Mem) {sl u : Nat} (h : s.1 3 1 = nI sl) (hs : sl < 31) (h2 : s.1 3 2 = nI u) (hu : u ≤ 30) : fX2_keep s = some (up2 (up2 s 3 1 (nI ((sl + 1) % 31))) 3 2 (nI (min 30 (u + 1)))) := by
  unfold fX2_keep
  simp only [lt]
  rw [h, nI_p1, show (31 : Int32) = nI 31 from rfl, pk_rem (by omega) (by omega) (by omega)]
  have e : (up2 s 3 1 (nI ((sl + 1) % 31))).1 3 2 = nI u := by rw [up2_get, if_neg (by omega)]; exact h2
  rw [e, nI_p1, mn30 hu]
def CP (s s1 : Mem) : Prop := ∀ sl u, sl < 31 → u ≤ 30 → s.1 3 1 = nI sl → s.1 3 2 = nI u → s1.1 3 1 = nI ((sl + 1) % 31) ∧ s1.1 3 2 = nI (min 30 (u + 1)) ∧ s1.1 4 = va_cpy (s.1 2) (s.1 4) 0 (sl * 171) 171
/-- the class has done a change -/
def ChC (s s1 : Mem) (f' : Nat → Int32) : Prop := s1.1 2 = f' ∧ CP s s1 ∧ s1.2 = s.2 ∧ ∀ a, a ≠ 2 → a ≠ 3 → a ≠ 4 → (a < 5 ∨ 11 < a) → s1.1 a = s.1 a
theorem ChC_up {s s1 : Mem} {f : Nat → Int32} (f' : Nat → Int32) (h : ChC s s1 f) : ChC s (upR s1 2 f') f' := by
  obtain ⟨h1, h2, h3, h4⟩ := h
  refine ⟨upR_s, ?_, h3, ?_⟩
  · intro sl u a b c d
    have := h2 sl u a b c d
    rw [upR_1, upR_1, if_neg (by omega), if_neg (by omega)]
    exact this
  · intro a q1 q2 q3 q4
    rw [upR_1, if_neg q1]
    exact h4 a q1 q2 q3 q4
def cutF (r : Nat → Int32) (k : Nat) : Nat → Int32 := fun j => r (k * 171 + j)
def Ring (s : Mem) : Prop := ∃ u sl fs, u ≤ 30 ∧ sl < 31 ∧ fs < 30 ∧ s.1 3 1 = nI sl ∧ s.1 3 2 = nI u ∧ s.1 19 2 = nI fs ∧ s.1 19 3 = nI u ∧ ∀ i, i < u → Gd (cutF (s.1 4) ((sl + 31 - u + i) % 31)) (s.1 (37 + (fs + i) % 30))
theorem C_begin (s : Mem) (hR : Ring s) : ∃ s1, fX6_begin s = some s1 ∧ ChC s s1 (s.1 2) ∧ ∀ a, a ≠ 3 → a ≠ 4 → s1.1 a = s.1 a := by
  obtain ⟨u, sl, fs, hu, hsl, hfs, e1, e2, -⟩ := hR
  have h1 := C_mark s e1 hsl
  have h2 := C_keep (upR s 4 (va_cpy (s.1 2) (s.1 4) 0 (sl * 171) 171)) (sl := sl) (u := u) (by rw [upR_1, if_neg (by omega)]; exact e1) hsl (by rw [upR_1, if_neg (by omega)]; exact e2) hu
  refine ⟨up2 (up2 (upR s 4 (va_cpy (s.1 2) (s.1 4) 0 (sl * 171) 171)) 3 1 (nI ((sl + 1) % 31))) 3 2 (nI (min 30 (u + 1))), ?_, ?_, ?_⟩
  · unfold fX6_begin
    rw [h1, Option.bind_some, h2]
    rfl
  · refine ⟨?_, ?_, rfl, ?_⟩
    · rw [up2_1, if_neg (by omega), up2_1, if_neg (by omega), upR_1, if_neg (by omega)]
    · intro sl' u' q1 q2 q3 q4
      rw [e1, nI_eq (by omega) (by omega)] at q3
      rw [e2, nI_eq (by omega) (by omega)] at q4
      subst q3 q4
      refine ⟨?_, ?_, ?_⟩
      · rw [up2_get, if_neg (by omega), up2_get, if_pos (by omega)]
      · rw [up2_get, if_pos (by omega)]
      · rw [up2_1, if_neg (by omega), up2_1, if_neg (by omega), upR_s]
    · intro a q1 q2 q3 _
      rw [up2_1, if_neg q2, up2_1, if_neg q2, upR_1, if_neg q3]
  · intro a q2 q3
    rw [up2_1, if_neg q2, up2_1, if_neg q2, upR_1, if_neg q3]
/-- the reference: a row copied -/
theorem cpy_step {f r : Nat → Int32} (i : Nat) : upd (va_cpy f r 0 0 i) i (f i) = va_cpy f r 0 0 (i + 1) := by
  funext j
  unfold upd va_cpy
  by_cases h : j = i
  · rw [if_pos h, if_pos (by omega), h]; congr 1; omega
  · rw [if_neg h]
    by_cases h2 : j < i
    · rw [if_pos (by omega), if_pos (by omega)]
    · rw [if_neg (by omega), if_neg (by omega)]
theorem cpy_0 {f r : Nat → Int32} : va_cpy f r 0 0 0 = r := by
  funext j
  exact pk_cpy_out (by omega)
theorem nI_c139 {i : Nat} (h : i < 139) : ¬ (139 : Int32) ≤ nI i := by rw [show (139 : Int32) = nI 139 from rfl, nI_leI (by omega) (by omega)]; omega
theorem M_aside (s : Mem) : fX7_laysAside s = some (upR s 23 (va_cpy (s.1 20) (s.1 23) 0 0 139)) := by
  have hs : ∀ i, i < 139 → bX7_laysAside_2 (upR s 23 (va_cpy (s.1 20) (s.1 23) 0 0 i)) (nI i) = some (.inr (nI (i + 1), upR s 23 (va_cpy (s.1 20) (s.1 23) 0 0 (i + 1)))) := by
    intro i hi
    unfold bX7_laysAside_2
    rw [if_neg (nI_c139 hi), gd_in hi (by omega), gd_in hi (by omega), nI_clamp (by omega)]
    simp only [lt, nI_p1]
    rw [upR_1, if_neg (by omega), up2_R, upR_s, upR_R, cpy_step]
  have he : bX7_laysAside_2 (upR s 23 (va_cpy (s.1 20) (s.1 23) 0 0 139)) (nI 139) = some (.inl (upR s 23 (va_cpy (s.1 20) (s.1 23) 0 0 139))) := by
    unfold bX7_laysAside_2
    rw [if_pos (by decide)]
  unfold fX7_laysAside
  rw [lp_at (body := fun a => bX7_laysAside_2 a.2 a.1) (a := ((0 : Int32), s)) (k := 600) (fun i => (nI i, upR s 23 (va_cpy (s.1 20) (s.1 23) 0 0 i))) 139 (by rw [cpy_0, upR_id]; rfl) hs he (by omega)]
  rfl
theorem M_laysBack (s : Mem) : fX7_laysBack s = some (upR s 20 (va_cpy (s.1 23) (s.1 20) 0 0 139)) := by
  have hs : ∀ i, i < 139 → bX7_laysBack_2 (upR s 20 (va_cpy (s.1 23) (s.1 20) 0 0 i)) (nI i) = some (.inr (nI (i + 1), upR s 20 (va_cpy (s.1 23) (s.1 20) 0 0 (i + 1)))) := by
    intro i hi
    unfold bX7_laysBack_2
    rw [if_neg (nI_c139 hi), gd_in hi (by omega), gd_in hi (by omega), nI_clamp (by omega)]
    simp only [lt, nI_p1]
    rw [upR_1, if_neg (by omega), up2_R, upR_s, upR_R, cpy_step]
  have he : bX7_laysBack_2 (upR s 20 (va_cpy (s.1 23) (s.1 20) 0 0 139)) (nI 139) = some (.inl (upR s 20 (va_cpy (s.1 23) (s.1 20) 0 0 139))) := by
    unfold bX7_laysBack_2
    rw [if_pos (by decide)]
  unfold fX7_laysBack
  rw [lp_at (body := fun a => bX7_laysBack_2 a.2 a.1) (a := ((0 : Int32), s)) (k := 600) (fun i => (nI i, upR s 20 (va_cpy (s.1 23) (s.1 20) 0 0 i))) 139 (by rw [cpy_0, upR_id]; rfl) hs he (by omega)]
  rfl
theorem M_chg48 (s : Mem) {k : Nat} (hk : k < 30) : gX7_changes_48 s (nI k) = some (upR s (37 + k) (va_cpy (s.1 23) (s.1 (37 + k)) 0 0 139)) := by
  have hs : ∀ i, i < 139 → bX7_changes_50 (upR s (37 + k) (va_cpy (s.1 23) (s.1 (37 + k)) 0 0 i)) (nI k) (nI i) = some (.inr (nI (i + 1), upR s (37 + k) (va_cpy (s.1 23) (s.1 (37 + k)) 0 0 (i + 1)))) := by
    intro i hi
    unfold bX7_changes_50
    rw [if_neg (nI_c139 hi), gd_in hk (by omega), gd_in hi (by omega), gd_in hi (by omega), nI_clamp (by omega), nI_clamp (by omega)]
    simp only [lt, nI_p1]
    rw [upR_1, if_neg (by omega), up2_R, upR_s, upR_R, cpy_step]
  have he : bX7_changes_50 (upR s (37 + k) (va_cpy (s.1 23) (s.1 (37 + k)) 0 0 139)) (nI k) (nI 139) = some (.inl (upR s (37 + k) (va_cpy (s.1 23) (s.1 (37 + k)) 0 0 139))) := by
    unfold bX7_changes_50
    rw [if_pos (by decide)]
  unfold gX7_changes_48
  rw [lp_at (body := fun a => bX7_changes_50 a.2 (nI k) a.1) (a := ((0 : Int32), s)) (k := 600) (fun i => (nI i, upR s (37 + k) (va_cpy (s.1 23) (s.1 (37 + k)) 0 0 i))) 139 (by rw [cpy_0, upR_id]; rfl) hs he (by omega)]
  rfl
def MP (s s2 : Mem) : Prop := ∀ fs u, fs < 30 → u ≤ 30 → s.1 19 2 = nI fs → s.1 19 3 = nI u → s2.1 19 2 = nI (if u = 30 then (fs + 1) % 30 else fs) ∧ s2.1 19 3 = nI (min 30 (u + 1)) ∧ ∀ k, k < 30 → ∀ j, j < 139 → s2.1 (37 + k) j = if k = (fs + u) % 30 then s.1 20 j else s.1 (37 + k) j
/-- the reference has done a change -/
def ChM (s s2 : Mem) (g' : Nat → Int32) : Prop := s2.1 20 = g' ∧ MP s s2 ∧ s2.1 19 4 = s.1 19 4 ∧ s2.1 19 19 = s.1 19 19 ∧ (∀ a, a ≠ 19 → s2.2 a = s.2 a) ∧ ∀ a, (a < 19 ∨ a = 22 ∨ 28 ≤ a ∧ a < 37) → s2.1 a = s.1 a
theorem M_changes (s0 s' : Mem) {fs u : Nat} (hfs : fs < 30) (hu : u ≤ 30) (e1 : s0.1 19 2 = nI fs) (e2 : s0.1 19 3 = nI u) (h23 : ∀ j, j < 139 → s'.1 23 j = s0.1 20 j) (h2 : s'.1 19 2 = s0.1 19 2) (h3 : s'.1 19 3 = s0.1 19 3) (h4 : s'.1 19 4 = s0.1 19 4) (h19 : s'.1 19 19 = s0.1 19 19) (hL : ∀ a, a ≠ 19 → s'.2 a = s0.2 a) (hr : ∀ a, (a < 19 ∨ a = 22 ∨ 28 ≤ a) → s'.1 a = s0.1 a) : ∃ s2, fX7_changes s' = some s2 ∧ ChM s0 s2 (s'.1 20) ∧ (∀ a, a ≠ 19 → a < 37 → s2.1 a = s'.1 a) ∧ (∀ j, j ≠ 2 → j ≠ 3 → s2.1 19 j = s'.1 19 j) := by
  have f1 : s'.1 19 2 = nI fs := h2.trans e1
  have f2 : s'.1 19 3 = nI u := h3.trans e2
  have hx : (s'.1 19 2 + s'.1 19 3) - (s'.1 19 2 + s'.1 19 3) / (30 : Int32) * (30 : Int32) = nI ((fs + u) % 30) := by
    rw [f1, f2, nI_add, show (30 : Int32) = nI 30 from rfl, pk_rem (by omega) (by omega) (by omega)]
  have hat : (fs + u) % 30 < 30 := Nat.mod_lt _ (by omega)
  have key : ∀ (sA : Mem) (v : Nat), (v = 2 ∨ v = 3) → (∃ x, sA = up2 s' 19 v x) → sA.1 19 2 = nI (if u = 30 then (fs + 1) % 30 else fs) → sA.1 19 3 = nI (min 30 (u + 1)) → fX7_changes s' = gX7_changes_48 sA (nI ((fs + u) % 30)) → ∃ s2, fX7_changes s' = some s2 ∧ ChM s0 s2 (s'.1 20) ∧ (∀ a, a ≠ 19 → a < 37 → s2.1 a = s'.1 a) ∧ (∀ j, j ≠ 2 → j ≠ 3 → s2.1 19 j = s'.1 19 j) := by
    intro sA v hv hA w1 w2 w3
    obtain ⟨x, rfl⟩ := hA
    refine ⟨_, w3.trans (M_chg48 _ hat), ⟨?_, ?_, ?_, ?_, ?_, ?_⟩, ?_, ?_⟩
    · rw [upR_1, if_neg (by omega), up2_1, if_neg (by omega)]
    · intro fs' u' q1 q2 q3 q4
      rw [e1, nI_eq (by omega) (by omega)] at q3
      rw [e2, nI_eq (by omega) (by omega)] at q4
      subst q3 q4
      refine ⟨?_, ?_, fun k hk j hj => ?_⟩
      · rw [upR_1, if_neg (by omega)]; exact w1
      · rw [upR_1, if_neg (by omega)]; exact w2
      · rw [upR_1]
        by_cases e : k = (fs + u) % 30
        · rw [if_pos (by omega), if_pos e, pk_cpy_in (by omega) (by omega), up2_1, if_neg (by omega), show 0 + (j - 0) = j by omega]
          exact h23 j hj
        · rw [if_neg (by omega), if_neg e, up2_1, if_neg (by omega), hr _ (by omega)]
    · rw [upR_1, if_neg (by omega), up2_get, if_neg (by omega)]; exact h4
    · rw [upR_1, if_neg (by omega), up2_get, if_neg (by omega)]; exact h19
    · intro a ha; exact hL a ha
    · intro a ha
      rw [upR_1, if_neg (by omega), up2_1, if_neg (by omega)]
      exact hr a (by omega)
    · intro a q1 q2
      rw [upR_1, if_neg (by omega), up2_1, if_neg q1]
    · intro j q1 q2
      rw [upR_1, if_neg (by omega), up2_get, if_neg (by omega)]
  by_cases h30 : u = 30
  · refine key (up2 s' 19 2 (nI ((fs + 1) % 30))) 2 (Or.inl rfl) ⟨_, rfl⟩ ?_ ?_ ?_
    · rw [up2_get, if_pos (by omega), if_pos h30]
    · rw [up2_get, if_neg (by omega), f2, show min 30 (u + 1) = u by omega]
    · unfold fX7_changes
      simp only [lt]
      rw [hx, if_pos (by rw [f2, h30]; rfl), f1, nI_p1, show (30 : Int32) = nI 30 from rfl, pk_rem (by omega) (by omega) (by omega)]
  · refine key (up2 s' 19 3 (nI (u + 1))) 3 (Or.inr rfl) ⟨_, rfl⟩ ?_ ?_ ?_
    · rw [up2_get, if_neg (by omega), f1, if_neg h30]
    · rw [up2_get, if_pos (by omega), show min 30 (u + 1) = u + 1 by omega]
    · unfold fX7_changes
      simp only [lt]
      rw [hx, if_neg (by rw [f2, show (30 : Int32) = nI 30 from rfl, nI_eq (by omega) (by omega)]; exact h30), f2, nI_p1]
/-- laid aside, the row changed, kept -/
theorem M_chg (s : Mem) (g' : Nat → Int32) (hR : Ring s) : ∃ s2, fX7_changes (upR (upR s 23 (va_cpy (s.1 20) (s.1 23) 0 0 139)) 20 g') = some s2 ∧ ChM s s2 g' ∧ (∀ a, a ≠ 19 → a ≠ 20 → a ≠ 23 → a < 37 → s2.1 a = s.1 a) ∧ (∀ j, j ≠ 2 → j ≠ 3 → s2.1 19 j = s.1 19 j) := by
  obtain ⟨u, sl, fs, hu, hsl, hfs, -, -, e3, e4, -⟩ := hR
  obtain ⟨s2, h1, h2, h3, h4⟩ := M_changes s (upR (upR s 23 (va_cpy (s.1 20) (s.1 23) 0 0 139)) 20 g') hfs hu e3 e4 (fun j hj => by rw [upR_1, if_neg (by omega), upR_s, pk_cpy_in (by omega) (by omega), show 0 + (j - 0) = j by omega]) (by rw [upR_1, if_neg (by omega), upR_1, if_neg (by omega)]) (by rw [upR_1, if_neg (by omega), upR_1, if_neg (by omega)]) (by rw [upR_1, if_neg (by omega), upR_1, if_neg (by omega)]) (by rw [upR_1, if_neg (by omega), upR_1, if_neg (by omega)]) (fun a _ => rfl) (fun a ha => by rw [upR_1, if_neg (by omega), upR_1, if_neg (by omega)])
  refine ⟨s2, h1, ?_, fun a q1 q2 q3 q4 => ?_, fun j q1 q2 => ?_⟩
  · rw [upR_s] at h2; exact h2
  · rw [h3 a q1 q4, upR_1, if_neg q2, upR_1, if_neg q3]
  · rw [h4 j q1 q2, upR_1, if_neg (by omega), upR_1, if_neg (by omega)]
def TpR (s : Mem) : Prop := ∃ L, L ≤ 120 ∧ s.1 12 1 = nI L ∧ s.1 19 19 = nI L ∧ ∀ i, i < L → ∃ b, b < 256 ∧ s.1 28 i = nI b ∧ s.1 13 i = (nI b).toInt8.toInt32
def ShR (s : Mem) : Prop := ∀ k, k < 4 → s.1 16 k = s.1 29 k ∧ s.1 17 k = s.1 30 k ∧ (s.1 29 k = -1 ∨ s.1 29 k = 0 ∨ s.1 29 k = 1 ∨ s.1 29 k = 2) ∧ (∃ m, m ≤ 40 ∧ s.1 30 k = nI m) ∧ ∀ i, i < 40 → s.2 15 (40 * k + i) = s.2 (33 + k) i
def Told (s : Mem) : Prop := ∀ k, k < 8 → s.1 18 k = s.1 22 k
def Rel (s : Mem) : Prop := Gd (s.1 2) (s.1 20) ∧ Ring s ∧ Told s ∧ s.1 0 6 = s.1 19 4 ∧ TpR s ∧ ShR s
theorem Ring_push {s s1 s2 : Mem} {f' g' : Nat → Int32} (hR : Ring s) (hG : Gd (s.1 2) (s.1 20)) (h1 : ChC s s1 f') (h2 : ChM s1 s2 g') : Ring s2 := by
  obtain ⟨u, sl, fs, hu, hsl, hfs, e1, e2, e3, e4, hk⟩ := hR
  obtain ⟨-, c1, -, c2⟩ := h1
  obtain ⟨-, m1, -, -, -, m2⟩ := h2
  have g20 : s1.1 20 = s.1 20 := c2 20 (by omega) (by omega) (by omega) (by omega)
  have g19 : s1.1 19 = s.1 19 := c2 19 (by omega) (by omega) (by omega) (by omega)
  obtain ⟨a1, a2, a3⟩ := c1 sl u hsl hu e1 e2
  obtain ⟨b1, b2, b3⟩ := m1 fs u hfs hu (by rw [g19]; exact e3) (by rw [g19]; exact e4)
  have r3 : s2.1 3 = s1.1 3 := m2 3 (by omega)
  have r4 : s2.1 4 = s1.1 4 := m2 4 (by omega)
  have hnew : ∀ k, k < 30 → k = (fs + u) % 30 → Gd (cutF (s2.1 4) sl) (s2.1 (37 + k)) := by
    intro k hk1 hk2
    refine Gd_cg hG (fun j hj => ?_) (fun j hj => ?_)
    · unfold cutF
      rw [r4, a3, pk_cpy_in (by omega) (by omega), show 0 + (sl * 171 + j - sl * 171) = j by omega]
    · rw [b3 k hk1 j hj, if_pos hk2, g20]
  have hold : ∀ q k i, i < u → q < 31 → k < 30 → q ≠ sl → k ≠ (fs + u) % 30 → q = (sl + 31 - u + i) % 31 → k = (fs + i) % 30 → Gd (cutF (s2.1 4) q) (s2.1 (37 + k)) := by
    intro q k i hi hq hk1 hne1 hne2 eq ek
    have := hk i hi
    rw [← eq, ← ek] at this
    refine Gd_cg this (fun j hj => ?_) (fun j hj => ?_)
    · unfold cutF
      rw [r4, a3]
      exact pk_cpy_out (by omega)
    · rw [b3 k hk1 j hj, if_neg hne2, c2 (37 + k) (by omega) (by omega) (by omega) (by omega)]
  by_cases h30 : u = 30
  · refine ⟨30, (sl + 1) % 31, (fs + 1) % 30, by omega, by omega, by omega, by rw [r3]; exact a1, by rw [r3, a2]; congr 1; omega, by rw [b1, if_pos h30], by rw [b2]; congr 1; omega, fun i hi => ?_⟩
    by_cases hl : i = 29
    · have w1 : ((sl + 1) % 31 + 31 - 30 + i) % 31 = sl := by omega
      rw [w1]
      exact hnew _ (by omega) (by omega)
    · exact hold _ _ (i + 1) (by omega) (by omega) (by omega) (by omega) (by omega) (by omega) (by omega)
  · refine ⟨u + 1, (sl + 1) % 31, fs, by omega, by omega, by omega, by rw [r3]; exact a1, by rw [r3, a2]; congr 1; omega, by rw [b1, if_neg h30], by rw [b2]; congr 1; omega, fun i hi => ?_⟩
    by_cases hl : i = u
    · have w1 : ((sl + 1) % 31 + 31 - (u + 1) + i) % 31 = sl := by omega
      rw [w1]
      exact hnew _ (by omega) (by omega)
    · exact hold _ _ i (by omega) (by omega) (by omega) (by omega) (by omega) (by omega) (by omega)
theorem Rel_step {s s1 s2 : Mem} {f' g' : Nat → Int32} (hR : Rel s) (h1 : ChC s s1 f') (h2 : ChM s1 s2 g') (hG : Gd f' g') : Rel s2 := by
  have hRing := Ring_push hR.2.1 hR.1 h1 h2
  obtain ⟨r1, r2, r3, r4, r5, r6⟩ := hR
  obtain ⟨c0, c1, cL, c2⟩ := h1
  obtain ⟨m0, m1, m4, m19, mL, m2⟩ := h2
  have g19 : s1.1 19 = s.1 19 := c2 19 (by omega) (by omega) (by omega) (by omega)
  have rr : ∀ a, (a < 19 ∨ a = 22 ∨ 28 ≤ a ∧ a < 37) → a ≠ 2 → a ≠ 3 → a ≠ 4 → (a < 5 ∨ 11 < a) → s2.1 a = s.1 a := fun a q q1 q2 q3 q4 => (m2 a q).trans (c2 a q1 q2 q3 q4)
  have rl : ∀ a, a ≠ 19 → s2.2 a = s.2 a := fun a q => by rw [mL a q, cL]
  refine ⟨?_, hRing, ?_, ?_, ?_, ?_⟩
  · rw [m0, m2 2 (by omega), c0]; exact hG
  · intro k hk
    rw [rr 18 (by omega) (by omega) (by omega) (by omega) (by omega), rr 22 (by omega) (by omega) (by omega) (by omega) (by omega)]
    exact r3 k hk
  · rw [rr 0 (by omega) (by omega) (by omega) (by omega) (by omega), m4, g19]; exact r4
  · obtain ⟨L, hL, e1, e2, e3⟩ := r5
    refine ⟨L, hL, ?_, ?_, fun i hi => ?_⟩
    · rw [rr 12 (by omega) (by omega) (by omega) (by omega) (by omega)]; exact e1
    · rw [m19, g19]; exact e2
    · rw [rr 28 (by omega) (by omega) (by omega) (by omega) (by omega), rr 13 (by omega) (by omega) (by omega) (by omega) (by omega)]; exact e3 i hi
  · intro k hk
    obtain ⟨e1, e2, e3, e4, e5⟩ := r6 k hk
    rw [rr 16 (by omega) (by omega) (by omega) (by omega) (by omega), rr 17 (by omega) (by omega) (by omega) (by omega) (by omega), rr 29 (by omega) (by omega) (by omega) (by omega) (by omega), rr 30 (by omega) (by omega) (by omega) (by omega) (by omega)]
    refine ⟨e1, e2, e3, e4, fun i hi => ?_⟩
    rw [rl 15 (by omega), rl (33 + k) (by omega)]
    exact e5 i hi
/-- nothing that is told has changed: only rows that neither remembers -/
theorem Rel_idle {s s2 : Mem} (hR : Rel s) (hr : ∀ a, (a < 5 ∨ 11 < a) → a ≠ 19 → (a < 23 ∨ 27 < a) → s2.1 a = s.1 a) (h19 : ∀ j, j = 2 ∨ j = 3 ∨ j = 4 ∨ j = 19 → s2.1 19 j = s.1 19 j) (hl : ∀ a, a ≠ 19 → a ≠ 32 → s2.2 a = s.2 a) : Rel s2 := by
  obtain ⟨r1, r2, r3, r4, r5, r6⟩ := hR
  have rr : ∀ a, (a < 5 ∨ 11 < a) → a ≠ 19 → (a < 23 ∨ 27 < a) → s2.1 a = s.1 a := hr
  refine ⟨?_, ?_, ?_, ?_, ?_, ?_⟩
  · rw [rr 2 (by omega) (by omega) (by omega), rr 20 (by omega) (by omega) (by omega)]; exact r1
  · obtain ⟨u, sl, fs, hu, hsl, hfs, e1, e2, e3, e4, hk⟩ := r2
    refine ⟨u, sl, fs, hu, hsl, hfs, by rw [rr 3 (by omega) (by omega) (by omega)]; exact e1, by rw [rr 3 (by omega) (by omega) (by omega)]; exact e2, by rw [h19 2 (by omega)]; exact e3, by rw [h19 3 (by omega)]; exact e4, fun i hi => ?_⟩
    rw [rr 4 (by omega) (by omega) (by omega), rr (37 + (fs + i) % 30) (by omega) (by omega) (by omega)]
    exact hk i hi
  · intro k hk
    rw [rr 18 (by omega) (by omega) (by omega), rr 22 (by omega) (by omega) (by omega)]
    exact r3 k hk
  · rw [rr 0 (by omega) (by omega) (by omega), h19 4 (by omega)]; exact r4
  · obtain ⟨L, hL, e1, e2, e3⟩ := r5
    refine ⟨L, hL, ?_, ?_, fun i hi => ?_⟩
    · rw [rr 12 (by omega) (by omega) (by omega)]; exact e1
    · rw [h19 19 (by omega)]; exact e2
    · rw [rr 28 (by omega) (by omega) (by omega), rr 13 (by omega) (by omega) (by omega)]; exact e3 i hi
  · intro k hk
    obtain ⟨e1, e2, e3, e4, e5⟩ := r6 k hk
    rw [rr 16 (by omega) (by omega) (by omega), rr 17 (by omega) (by omega) (by omega), rr 29 (by omega) (by omega) (by omega), rr 30 (by omega) (by omega) (by omega)]
    refine ⟨e1, e2, e3, e4, fun i hi => ?_⟩
    rw [hl 15 (by omega) (by omega), hl (33 + k) (by omega) (by omega)]
    exact e5 i hi
/-! findings -/
def okC {α : Type} (F M : Mem → Option (α × Mem)) : Prop := ∀ s, Rel s → ∃ a s1 s2, F s = some (a, s1) ∧ M s1 = some (a, s2) ∧ Rel s2
theorem C_finding (s : Mem) {k : Nat} (hk : k < 8) : fX6_finding s (nI k) = some ((-1000001 : Int32) - nI k, up2 s 18 k (s.1 18 k + 1)) := by
  unfold fX6_finding
  rw [wi_in (nI k) 0 7 (by decide) (by decide), inR_nI (by omega) (by omega) (by omega), Option.bind_some, bi_t, if_neg (by decide), gd_in hk (by omega), gd_in hk (by omega), nI_clamp (by omega)]
  rfl
theorem M_finds (s : Mem) {k : Nat} (hk : k < 8) : fX7_finds s (nI k) = some ((-1000001 : Int32) - nI k, up2 s 22 k (s.1 22 k + 1)) := by
  unfold fX7_finds
  rw [gd_in hk (by omega), gd_in hk (by omega), nI_clamp (by omega)]
  rfl
theorem Rel_told {s : Mem} (hR : Rel s) {k : Nat} (hk : k < 8) : Rel (up2 (up2 s 18 k (s.1 18 k + 1)) 22 k ((up2 s 18 k (s.1 18 k + 1)).1 22 k + 1)) := by
  obtain ⟨r1, r2, r3, r4, r5, r6⟩ := hR
  generalize hs2 : up2 (up2 s 18 k (s.1 18 k + 1)) 22 k ((up2 s 18 k (s.1 18 k + 1)).1 22 k + 1) = s2
  have rr : ∀ a, a ≠ 18 → a ≠ 22 → s2.1 a = s.1 a := fun a q1 q2 => by rw [← hs2, up2_1, if_neg q2, up2_1, if_neg q1]
  have rl : s2.2 = s.2 := by rw [← hs2]; rfl
  refine ⟨?_, ?_, ?_, ?_, ?_, ?_⟩
  · rw [rr 2 (by omega) (by omega), rr 20 (by omega) (by omega)]; exact r1
  · obtain ⟨u, sl, fs, hu, hsl, hfs, e1, e2, e3, e4, hk⟩ := r2
    refine ⟨u, sl, fs, hu, hsl, hfs, by rw [rr 3 (by omega) (by omega)]; exact e1, by rw [rr 3 (by omega) (by omega)]; exact e2, by rw [rr 19 (by omega) (by omega)]; exact e3, by rw [rr 19 (by omega) (by omega)]; exact e4, fun i hi => ?_⟩
    rw [rr 4 (by omega) (by omega), rr (37 + (fs + i) % 30) (by omega) (by omega)]
    exact hk i hi
  · intro j hj
    have := r3 j hj
    rw [← hs2, up2_get, if_neg (by omega), up2_get, up2_get, up2_get, if_neg (by omega : ¬ ((22 : Nat) = 18 ∧ k = k)), up2_get, if_neg (by omega : ¬ ((22 : Nat) = 18 ∧ j = k))]
    by_cases e : j = k
    · subst e
      rw [if_pos ⟨rfl, rfl⟩, if_pos ⟨rfl, rfl⟩, this]
    · rw [if_neg (fun q => e q.2), if_neg (fun q => e q.2), this]
  · rw [rr 0 (by omega) (by omega), rr 19 (by omega) (by omega)]; exact r4
  · obtain ⟨L, hL, e1, e2, e3⟩ := r5
    refine ⟨L, hL, ?_, ?_, fun i hi => ?_⟩
    · rw [rr 12 (by omega) (by omega)]; exact e1
    · rw [rr 19 (by omega) (by omega)]; exact e2
    · rw [rr 28 (by omega) (by omega), rr 13 (by omega) (by omega)]; exact e3 i hi
  · intro k hk
    obtain ⟨e1, e2, e3, e4, e5⟩ := r6 k hk
    rw [rr 16 (by omega) (by omega), rr 17 (by omega) (by omega), rr 29 (by omega) (by omega), rr 30 (by omega) (by omega)]
    refine ⟨e1, e2, e3, e4, fun i hi => ?_⟩
    rw [rl]
    exact e5 i hi
/-- both find the same -/
theorem fnd {s : Mem} (hR : Rel s) (k : Nat) (hk : k < 8) {x : Option (Int32 × Mem)} (F : Mem → Option (Int32 × Mem)) (hx : x = (fX6_finding s (nI k)).bind (fun y => some (y.1, y.2))) (hy : ∀ s1 : Mem, (∀ a, a ≠ 18 → s1.1 a = s.1 a) → s1.2 = s.2 → F s1 = (fX7_finds s1 (nI k)).bind (fun y => some (y.1, y.2))) : ∃ a s1 s2, x = some (a, s1) ∧ F s1 = some (a, s2) ∧ Rel s2 := by
  refine ⟨(-1000001 : Int32) - nI k, up2 s 18 k (s.1 18 k + 1), _, ?_, ?_, Rel_told hR hk⟩
  · rw [hx, C_finding s hk]; rfl
  · have q1 : ∀ a, a ≠ 18 → (up2 s 18 k (s.1 18 k + 1)).1 a = s.1 a := fun a ha => by rw [up2_1, if_neg ha]
    rw [hy (up2 s 18 k (s.1 18 k + 1)) q1 rfl, M_finds _ hk]; rfl
