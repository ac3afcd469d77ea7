/-! the class: a layer of the table -/
def stE (a b : St) : Prop := a.1 = b.1 ∧ a.2 0 = b.2 0 ∧ a.2 1 = b.2 1 ∧ a.2 2 = b.2 2
theorem stE_A {a b : St} (h : stE a b) (t : Nat) : stE (stA a t) (stA b t) := by
  obtain ⟨h1, h2, h3, h4⟩ := h
  refine ⟨?_, ?_, ?_, ?_⟩
  · show a.1 + 1 = b.1 + 1; omega
  · show a.2 0 + prt t 0 = b.2 0 + prt t 0; omega
  · show a.2 1 + prt t 1 = b.2 1 + prt t 1; omega
  · show a.2 2 + prt t 2 = b.2 2 + prt t 2; omega
theorem hold_ext {c : SCx} {a b : St} (h : stE a b) : hold c a = hold c b := by
  unfold hold hld; rw [h.1, h.2.1, h.2.2.1, h.2.2.2]
theorem gap_ext {c : SCx} {a b : St} (h : stE a b) : gapS c a = gapS c b := by
  unfold gapS; rw [h.1, h.2.1, h.2.2.1, h.2.2.2]
theorem foldB_cg {c : SCx} {k : Nat} {f : St → Option (Int × List Nat)} {a b : St} (h : ∀ dg, thrB c k f a dg = thrB c k f b dg) : ∀ i, foldB c k f a i = foldB c k f b i
  | 0 => rfl
  | i + 1 => by rw [foldB_s, foldB_s, h i, foldB_cg h i]
theorem foldN_cg {c : SCx} {k : Nat} {f : St → Nat} {a b : St} (h : ∀ dg, thrN c k f a dg = thrN c k f b dg) : ∀ i, foldN c k f a i = foldN c k f b i
  | 0 => rfl
  | i + 1 => by rw [foldN_s, foldN_s, h i, foldN_cg h i]
theorem best_ext (c : SCx) : ∀ r a b, stE a b → best c r a = best c r b
  | 0, a, b, h => by
    show some (-(cG c) * (gapS c a : Int), ([] : List Nat)) = some (-(cG c) * (gapS c b : Int), [])
    rw [gap_ext h]
  | r + 1, a, b, h => by
    refine foldB_cg (fun dg => ?_) 9
    unfold thrB thr0
    rw [best_ext c r a b h, best_ext c r _ _ (stE_A h (dg - 1)), hold_ext (stE_A h (dg - 1))]
theorem cnt_ext (c : SCx) : ∀ r a b, stE a b → cnt c r a = cnt c r b
  | 0, a, b, h => rfl
  | r + 1, a, b, h => by
    refine foldN_cg (fun dg => ?_) 9
    unfold thrN
    rw [cnt_ext c r a b h, cnt_ext c r _ _ (stE_A h (dg - 1)), hold_ext (stE_A h (dg - 1))]
def lmt (ps : Nat → Bool) (so s : Nat) : Nat := if ps so then s else 0
theorem lmt_le (ps : Nat → Bool) (so s : Nat) : lmt ps so s ≤ s := by unfold lmt; split <;> omega
theorem reach_l {ps : Nat → Bool} {st : St} (h : reach ps st) : st.2 0 ≤ lmt ps 0 st.1 ∧ st.2 1 ≤ lmt ps 1 st.1 ∧ st.2 2 ≤ lmt ps 2 st.1 := by
  obtain ⟨⟨h0, h1, h2⟩, hz⟩ := h
  refine ⟨?_, ?_, ?_⟩
  · unfold lmt; cases e : ps 0
    · rw [if_neg (by decide), hz 0 (by omega) e]; exact Nat.le_refl 0
    · rw [if_pos rfl]; exact h0
  · unfold lmt; cases e : ps 1
    · rw [if_neg (by decide), hz 1 (by omega) e]; exact Nat.le_refl 0
    · rw [if_pos rfl]; exact h1
  · unfold lmt; cases e : ps 2
    · rw [if_neg (by decide), hz 2 (by omega) e]; exact Nat.le_refl 0
    · rw [if_pos rfl]; exact h2
def mkS (s l b d : Nat) : St := (s, fun so => if so = 0 then l else if so = 1 then b else d)
theorem mkS_reach {ps : Nat → Bool} {s l b d : Nat} (h0 : l ≤ lmt ps 0 s) (h1 : b ≤ lmt ps 1 s) (h2 : d ≤ lmt ps 2 s) : reach ps (mkS s l b d) := by
  have a0 := lmt_le ps 0 s
  have a1 := lmt_le ps 1 s
  have a2 := lmt_le ps 2 s
  refine ⟨⟨?_, ?_, ?_⟩, fun so hs e => ?_⟩
  · show l ≤ s; omega
  · show b ≤ s; omega
  · show d ≤ s; omega
  · obtain rfl | rfl | rfl : so = 0 ∨ so = 1 ∨ so = 2 := by omega
    · show l = 0; unfold lmt at h0; rw [e, if_neg (by decide)] at h0; omega
    · show b = 0; unfold lmt at h1; rw [e, if_neg (by decide)] at h1; omega
    · show d = 0; unfold lmt at h2; rw [e, if_neg (by decide)] at h2; omega
def lx (s l b d : Nat) (st : St) : Prop := st.1 < s ∨ st.1 = s ∧ (st.2 0 < l ∨ st.2 0 = l ∧ (st.2 1 < b ∨ st.2 1 = b ∧ st.2 2 < d))
/-- the table while a layer is filled -/
def LI (m : Mem) (ps : Nat → Bool) (k : Nat) (val : St → Int32) (s l b d : Nat) (m' : Mem) : Prop := (∀ a, a ≠ 6 → m'.1 a = m.1 a) ∧ m'.2 = m.2 ∧ (∀ j, lyr (k + 1) ≤ j → m'.1 6 j = m.1 6 j) ∧ ∀ st, st.1 ≤ k → reach ps st → lx s l b d st → m'.1 6 (plc k st) = val st
section LAYR
variable {m : Mem} {ps : Nat → Bool} {k n : Nat} {val : St → Int32}
theorem C_lay_d (hk : k < 7) (hv : ∀ a b, stE a b → val a = val b) (hcell : ∀ m' s l b d, LI m ps k val s l b d m' → ∀ st, st.1 ≤ k → reach ps st → (if nI k = m'.1 5 6 then fX3_atEnd m' (nI st.1) (nI (st.2 0)) (nI (st.2 1)) (nI (st.2 2)) else fX3_atBest m' (nI k) (nI st.1) (nI (st.2 0)) (nI (st.2 1)) (nI (st.2 2))) = some (val st)) {s l b : Nat} (hs : s ≤ k) (hl : l ≤ lmt ps 0 s) (hb : b ≤ lmt ps 1 s) {m1 : Mem} (h : LI m ps k val s l b 0 m1) (v3 v4 : Int32) : ∃ m2, lp (fun a => bX3_fillLayer_76 a.2 (nI k) (nI s) v3 v4 (nI (lmt ps 2 s)) (nI l) (nI b) a.1) 600 ((0 : Int32), m1) = some m2 ∧ LI m ps k val s l b (lmt ps 2 s + 1) m2 := by
  have a0 := lmt_le ps 0 s
  have a1 := lmt_le ps 1 s
  have a2 := lmt_le ps 2 s
  refine lp_inv (α := Int32 × Mem) (β := Mem) (fun i a => a.1 = nI i ∧ LI m ps k val s l b i a.2) (fun m2 => LI m ps k val s l b (lmt ps 2 s + 1) m2) (lmt ps 2 s + 1) ?_ ?_ (by omega) ⟨rfl, h⟩
  · rintro d ⟨x, m'⟩ hd ⟨h1, h2⟩
    simp only at h1 h2
    subst h1
    left
    have hr := mkS_reach (d := d) hl hb (by omega)
    have hc := hcell m' s l b d h2 (mkS s l b d) hs hr
    have hpl : fX3_place (nI k) (nI s) (nI l) (nI b) (nI d) = some (nI (plc k (mkS s l b d))) := C_place (st := mkS s l b d) hk hs hr.1
    have hpb := plc_1596 (st := mkS s l b d) hk hs hr.1
    have hplt := plc_lt (st := mkS s l b d) hk hs hr.1
    have hc' : (if nI k = m'.1 5 6 then fX3_atEnd m' (nI s) (nI l) (nI b) (nI d) else fX3_atBest m' (nI k) (nI s) (nI l) (nI b) (nI d)) = some (val (mkS s l b d)) := hc
    have e1 : bX3_fillLayer_76 m' (nI k) (nI s) v3 v4 (nI (lmt ps 2 s)) (nI l) (nI b) (nI d) = some (.inr (nI (d + 1), up2 m' 6 (plc k (mkS s l b d)) (val (mkS s l b d)))) := by
      unfold bX3_fillLayer_76 gX3_fillLayer_132
      rw [if_neg (nI_nlt (by omega) (by omega)), hpl, Option.bind_some]
      by_cases q : nI k = m'.1 5 6
      · rw [if_pos q] at hc' ⊢
        rw [hc', Option.bind_some, gd_in hpb (by omega), nI_clamp (by omega), lt_e, lt_e, nI_p1]
      · rw [if_neg q] at hc' ⊢
        rw [hc', Option.bind_some, gd_in hpb (by omega), nI_clamp (by omega), lt_e, lt_e, nI_p1]
    refine ⟨_, e1, rfl, fun a ha => ?_, h2.2.1, fun j hj => ?_, fun st q1 q2 q3 => ?_⟩
    · show (up2 m' 6 _ _).1 a = _
      rw [up2_n ha]; exact h2.1 a ha
    · show (up2 m' 6 _ _).1 6 j = _
      rw [up2_s, pk_un (by omega)]; exact h2.2.2.1 j hj
    · show (up2 m' 6 _ _).1 6 (plc k st) = _
      rw [up2_s]
      by_cases e : plc k st = plc k (mkS s l b d)
      · rw [e, pk_us]
        obtain ⟨-, w1, w2, w3, w4⟩ := plc_inj hk hk q1 hs q2.1 hr.1 e
        exact hv _ _ ⟨w1.symm, w2.symm, w3.symm, w4.symm⟩
      · rw [pk_un e]
        refine h2.2.2.2 st q1 q2 ?_
        rcases q3 with z | ⟨z1, z | ⟨z2, z | ⟨z3, z⟩⟩⟩
        · exact Or.inl z
        · exact Or.inr ⟨z1, Or.inl z⟩
        · exact Or.inr ⟨z1, Or.inr ⟨z2, Or.inl z⟩⟩
        · refine Or.inr ⟨z1, Or.inr ⟨z2, Or.inr ⟨z3, ?_⟩⟩⟩
          by_cases z5 : st.2 2 = d
          · exfalso
            apply e
            unfold plc mkS
            simp only [z1, z2, z3, z5, if_true]
            rfl
          · omega
  · rintro ⟨x, m'⟩ ⟨h1, h2⟩
    simp only at h1 h2
    subst h1
    refine ⟨m', ?_, h2⟩
    show bX3_fillLayer_76 m' (nI k) (nI s) v3 v4 (nI (lmt ps 2 s)) (nI l) (nI b) (nI (lmt ps 2 s + 1)) = _
    unfold bX3_fillLayer_76
    rw [if_pos (nI_lt (by omega) (by omega))]
theorem C_lay_b (hk : k < 7) (hv : ∀ a b, stE a b → val a = val b) (hcell : ∀ m' s l b d, LI m ps k val s l b d m' → ∀ st, st.1 ≤ k → reach ps st → (if nI k = m'.1 5 6 then fX3_atEnd m' (nI st.1) (nI (st.2 0)) (nI (st.2 1)) (nI (st.2 2)) else fX3_atBest m' (nI k) (nI st.1) (nI (st.2 0)) (nI (st.2 1)) (nI (st.2 2))) = some (val st)) {s l : Nat} (hs : s ≤ k) (hl : l ≤ lmt ps 0 s) {m1 : Mem} (h : LI m ps k val s l 0 0 m1) (v3 : Int32) : ∃ m2, lp (fun a => bX3_fillLayer_66 a.2 (nI k) (nI s) v3 (nI (lmt ps 1 s)) (nI (lmt ps 2 s)) (nI l) a.1) 600 ((0 : Int32), m1) = some m2 ∧ LI m ps k val s l (lmt ps 1 s + 1) 0 m2 := by
  have a1 := lmt_le ps 1 s
  refine lp_inv (α := Int32 × Mem) (β := Mem) (fun i a => a.1 = nI i ∧ LI m ps k val s l i 0 a.2) (fun m2 => LI m ps k val s l (lmt ps 1 s + 1) 0 m2) (lmt ps 1 s + 1) ?_ ?_ (by omega) ⟨rfl, h⟩
  · rintro b ⟨x, m'⟩ hb ⟨h1, h2⟩
    simp only at h1 h2
    subst h1
    left
    obtain ⟨m2, k1, k2⟩ := C_lay_d hk hv hcell hs hl (show b ≤ lmt ps 1 s by omega) h2 v3 (nI (lmt ps 1 s))
    have e1 : bX3_fillLayer_66 m' (nI k) (nI s) v3 (nI (lmt ps 1 s)) (nI (lmt ps 2 s)) (nI l) (nI b) = some (.inr (nI (b + 1), m2)) := by
      unfold bX3_fillLayer_66
      rw [if_neg (nI_nlt (by omega) (by omega)), k1, Option.bind_some, lt_e, nI_p1]
    refine ⟨_, e1, rfl, k2.1, k2.2.1, k2.2.2.1, fun st q1 q2 q3 => k2.2.2.2 st q1 q2 ?_⟩
    have hrl := reach_l q2
    unfold lx at q3 ⊢
    rcases q3 with z | ⟨z1, z | ⟨z2, z | ⟨z3, z⟩⟩⟩
    · exact Or.inl z
    · exact Or.inr ⟨z1, Or.inl z⟩
    · by_cases z5 : st.2 1 = b
      · refine Or.inr ⟨z1, Or.inr ⟨z2, Or.inr ⟨z5, ?_⟩⟩⟩
        rw [z1] at hrl; omega
      · exact Or.inr ⟨z1, Or.inr ⟨z2, Or.inl (by omega)⟩⟩
    · omega
  · rintro ⟨x, m'⟩ ⟨h1, h2⟩
    simp only at h1 h2
    subst h1
    refine ⟨m', ?_, h2⟩
    show bX3_fillLayer_66 m' (nI k) (nI s) v3 (nI (lmt ps 1 s)) (nI (lmt ps 2 s)) (nI l) (nI (lmt ps 1 s + 1)) = _
    unfold bX3_fillLayer_66
    rw [if_pos (nI_lt (by omega) (by omega))]
theorem C_lay_l (hk : k < 7) (hv : ∀ a b, stE a b → val a = val b) (hcell : ∀ m' s l b d, LI m ps k val s l b d m' → ∀ st, st.1 ≤ k → reach ps st → (if nI k = m'.1 5 6 then fX3_atEnd m' (nI st.1) (nI (st.2 0)) (nI (st.2 1)) (nI (st.2 2)) else fX3_atBest m' (nI k) (nI st.1) (nI (st.2 0)) (nI (st.2 1)) (nI (st.2 2))) = some (val st)) {s : Nat} (hs : s ≤ k) {m1 : Mem} (h : LI m ps k val s 0 0 0 m1) : ∃ m2, lp (fun a => bX3_fillLayer_57 a.2 (nI k) (nI s) (nI (lmt ps 0 s)) (nI (lmt ps 1 s)) (nI (lmt ps 2 s)) a.1) 600 ((0 : Int32), m1) = some m2 ∧ LI m ps k val s (lmt ps 0 s + 1) 0 0 m2 := by
  have a0 := lmt_le ps 0 s
  refine lp_inv (α := Int32 × Mem) (β := Mem) (fun i a => a.1 = nI i ∧ LI m ps k val s i 0 0 a.2) (fun m2 => LI m ps k val s (lmt ps 0 s + 1) 0 0 m2) (lmt ps 0 s + 1) ?_ ?_ (by omega) ⟨rfl, h⟩
  · rintro l ⟨x, m'⟩ hl ⟨h1, h2⟩
    simp only at h1 h2
    subst h1
    left
    obtain ⟨m2, k1, k2⟩ := C_lay_b hk hv hcell hs (show l ≤ lmt ps 0 s by omega) h2 (nI (lmt ps 0 s))
    have e1 : bX3_fillLayer_57 m' (nI k) (nI s) (nI (lmt ps 0 s)) (nI (lmt ps 1 s)) (nI (lmt ps 2 s)) (nI l) = some (.inr (nI (l + 1), m2)) := by
      unfold bX3_fillLayer_57
      rw [if_neg (nI_nlt (by omega) (by omega)), k1, Option.bind_some, lt_e, nI_p1]
    refine ⟨_, e1, rfl, k2.1, k2.2.1, k2.2.2.1, fun st q1 q2 q3 => k2.2.2.2 st q1 q2 ?_⟩
    have hrl := reach_l q2
    unfold lx at q3 ⊢
    rcases q3 with z | ⟨z1, z | ⟨z2, z | ⟨z3, z⟩⟩⟩
    · exact Or.inl z
    · by_cases z5 : st.2 0 = l
      · refine Or.inr ⟨z1, Or.inr ⟨z5, Or.inl ?_⟩⟩
        rw [z1] at hrl; omega
      · exact Or.inr ⟨z1, Or.inl (by omega)⟩
    · omega
    · omega
  · rintro ⟨x, m'⟩ ⟨h1, h2⟩
    simp only at h1 h2
    subst h1
    refine ⟨m', ?_, h2⟩
    show bX3_fillLayer_57 m' (nI k) (nI s) (nI (lmt ps 0 s)) (nI (lmt ps 1 s)) (nI (lmt ps 2 s)) (nI (lmt ps 0 s + 1)) = _
    unfold bX3_fillLayer_57
    rw [if_pos (nI_lt (by omega) (by omega))]
theorem C_layer (hk : k < 7) (hps : ((m.1 5 7 &&& (4 : Int32)) = 0 ↔ ps 0 = false) ∧ ((m.1 5 7 &&& (2 : Int32)) = 0 ↔ ps 1 = false) ∧ ((m.1 5 7 &&& (1 : Int32)) = 0 ↔ ps 2 = false)) (hv : ∀ a b, stE a b → val a = val b) (hcell : ∀ m' s l b d, LI m ps k val s l b d m' → ∀ st, st.1 ≤ k → reach ps st → (if nI k = m'.1 5 6 then fX3_atEnd m' (nI st.1) (nI (st.2 0)) (nI (st.2 1)) (nI (st.2 2)) else fX3_atBest m' (nI k) (nI st.1) (nI (st.2 0)) (nI (st.2 1)) (nI (st.2 2))) = some (val st)) : ∃ m2, fX3_fillLayer m (nI k) = some m2 ∧ (∀ a, a ≠ 6 → m2.1 a = m.1 a) ∧ m2.2 = m.2 ∧ (∀ j, lyr (k + 1) ≤ j → m2.1 6 j = m.1 6 j) ∧ Tab m2 ps k val := by
  have key : ∃ m2, lp (fun a => bX3_fillLayer_2 a.2 (nI k) a.1) 600 ((0 : Int32), m) = some m2 ∧ LI m ps k val (k + 1) 0 0 0 m2 := by
    refine lp_inv (α := Int32 × Mem) (β := Mem) (fun i a => a.1 = nI i ∧ LI m ps k val i 0 0 0 a.2) (fun m2 => LI m ps k val (k + 1) 0 0 0 m2) (k + 1) ?_ ?_ (by omega) ⟨rfl, fun _ _ => rfl, rfl, fun _ _ => rfl, fun st _ _ q => ?_⟩
    · rintro s ⟨x, m'⟩ hs ⟨h1, h2⟩
      simp only at h1 h2
      subst h1
      left
      obtain ⟨m2, k1, k2⟩ := C_lay_l hk hv hcell (show s ≤ k by omega) h2
      have e57 : m'.1 5 7 = m.1 5 7 := by rw [h2.1 5 (by omega)]
      have hfin : gX3_fillLayer_52 m' (nI k) (nI s) (nI (lmt ps 0 s)) (nI (lmt ps 1 s)) (nI (lmt ps 2 s)) = some (.inr (nI (s + 1), m2)) := by
        unfold gX3_fillLayer_52
        rw [k1, Option.bind_some, lt_e, nI_p1]
      have e1 : bX3_fillLayer_2 m' (nI k) (nI s) = some (.inr (nI (s + 1), m2)) := by
        unfold bX3_fillLayer_2 gX3_fillLayer_21 gX3_fillLayer_36
        rw [if_neg (nI_nlt (by omega) (by omega)), e57]
        unfold lmt at hfin
        cases c0 : ps 0 <;> cases c1 : ps 1 <;> cases c2 : ps 2 <;> simp only [c0, c1, c2, if_true, if_false, Bool.false_eq_true, hps.1, hps.2.1, hps.2.2, Bool.true_eq_false] at hfin ⊢ <;> exact hfin
      refine ⟨_, e1, rfl, k2.1, k2.2.1, k2.2.2.1, fun st q1 q2 q3 => k2.2.2.2 st q1 q2 ?_⟩
      have hrl := reach_l q2
      unfold lx at q3 ⊢
      by_cases z5 : st.1 = s
      · refine Or.inr ⟨z5, Or.inl ?_⟩
        rw [z5] at hrl; omega
      · omega
    · rintro ⟨x, m'⟩ ⟨h1, h2⟩
      simp only at h1 h2
      subst h1
      refine ⟨m', ?_, h2⟩
      show bX3_fillLayer_2 m' (nI k) (nI (k + 1)) = _
      unfold bX3_fillLayer_2
      rw [if_pos (nI_lt (by omega) (by omega))]
    · unfold lx at q; omega
  obtain ⟨m2, k1, k2, k3, k4, k5⟩ := key
  refine ⟨m2, ?_, k2, k3, k4, fun st q1 q2 => k5 st q1 q2 (Or.inl (by omega))⟩
  unfold fX3_fillLayer
  rw [k1]; rfl
end LAYR
