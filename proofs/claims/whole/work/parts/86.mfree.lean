/-! the reference: seats that are free while it tries -/
def kN (g : Nat → Int32) (cs so w : Nat) : Nat := (g (24 * cs + 8 * so + 4 * w + 2)).toNatClampNeg
def cw (st : St) (so w : Nat) : Nat := if w = 1 then st.2 so else st.1 - st.2 so
def FreeR (g : Nat → Int32) (cs : Nat) (m : Mem) (st : St) : Prop := ∀ so, so < 3 → ∀ w, w < 2 → opn g cs so w = true → m.1 26 (2 * so + w) = iI ((kN g cs so w : Int) - (cw st so w : Int))
theorem kN_v {f g : Nat → Int32} (hS : SG f g) {cs so w : Nat} (hc : cs < 4) (hs : so < 3) (hw : w < 2) : kN g cs so w ≤ 9 ∧ g (24 * cs + 8 * so + 4 * w + 2) = nI (kN g cs so w) := by
  obtain ⟨k, hk, e⟩ := (hS.2.2 cs hc so hs w hw).2.2.1
  unfold kN
  rw [e, nI_clamp (by omega)]
  exact ⟨hk, rfl⟩
theorem kN_cap {f g : Nat → Int32} (hS : SG f g) {cs so w : Nat} (hc : cs < 4) (hs : so < 3) (hw : w < 2) (ho : opn g cs so w = true) : capF f cs so w = kN g cs so w := by
  have hcnt : cntF f cs so = true := by
    unfold cntF
    rw [SR_any hS.1 hc hs]
    unfold anyO
    obtain rfl | rfl : w = 0 ∨ w = 1 := by omega
    · rw [ho, Bool.true_or, Bool.or_true]
    · rw [ho, Bool.or_true, Bool.or_true]
  unfold capF kN
  rw [hcnt, if_pos rfl, cap_eq hS.1 hc hs hw ho]
def frS (g : Nat → Int32) (cs : Nat) (m : Mem) (t so : Nat) : Bool := !opn g cs so (prt t so) || decide ((1 : Int32) ≤ m.1 26 (2 * so + prt t so))
theorem M_isFree0 (m : Mem) {cs t : Nat} (hc : cs < 4) (ht : t < 8) : fX7_isFree m (nI cs) (nI t) = some (bi (frS (m.1 20) cs m t 0 && (frS (m.1 20) cs m t 1 && frS (m.1 20) cs m t 2))) := by
  have gB : ∀ so, so < 3 → bX7_isFree_2 m (nI cs) (nI t) (nI so) = if frS (m.1 20) cs m t so = true then some (.inr (nI (so + 1))) else some (.inl (.inl 0)) := by
    intro so hs
    have hq := prt_lt t ht so hs
    unfold bX7_isFree_2 frS
    rw [if_neg (nI_c3 hs), M_counts m hc ht hs, Option.bind_some, bi_n0, M_part t ht so hs, Option.bind_some, nI_mul2, nI_add, gd_in (by omega) (by omega), nI_clamp (by omega)]
    simp only [lt_e, nI_p1]
    cases opn (m.1 20) cs so (prt t so)
    · rfl
    · by_cases q : (1 : Int32) ≤ m.1 26 (2 * so + prt t so)
      · rw [if_pos rfl, if_pos q, decide_eq_true q]; rfl
      · rw [if_pos rfl, if_neg q, decide_eq_false q]; rfl
  have g0 := gB 0 (by omega)
  have g1 := gB 1 (by omega)
  have g2 := gB 2 (by omega)
  have g3 : bX7_isFree_2 m (nI cs) (nI t) (nI 3) = some (.inl (.inr ())) := by unfold bX7_isFree_2; rw [if_pos (by decide)]
  rw [show nI 0 = (0 : Int32) from rfl] at g0
  obtain ⟨k, hk⟩ := f600
  unfold fX7_isFree
  rw [hk]
  cases q0 : frS (m.1 20) cs m t 0
  · rw [q0, if_neg (by decide)] at g0
    rw [lp_l g0]; rfl
  · rw [q0, if_pos rfl] at g0
    rw [lp_r g0]
    cases q1 : frS (m.1 20) cs m t 1
    · rw [q1, if_neg (by decide)] at g1
      rw [lp_l g1]; rfl
    · rw [q1, if_pos rfl] at g1
      rw [lp_r g1]
      cases q2 : frS (m.1 20) cs m t 2
      · rw [q2, if_neg (by decide)] at g2
        rw [lp_l g2]; rfl
      · rw [q2, if_pos rfl] at g2
        rw [lp_r g2, lp_l g3]; rfl
theorem fr_hld {f g : Nat → Int32} {n cs t so : Nat} {w : Int × Int × Int} {m : Mem} {st : St} (hS : SG f g) (hc : cs < 4) (ht : t < 8) (hs : so < 3) (hlw : lawG g cs t = true) (hF : FreeR g cs m st) (hi : st.2 so ≤ st.1) (h6 : st.1 ≤ 6) (hh : hld (baseC f g n cs w) st so = true) : frS g cs m t so = hld (baseC f g n cs w) (stA st t) so := by
  have hq := prt_lt t ht so hs
  have k1 := capF_v hS hc hs (w := 1) (by omega)
  have k0 := capF_v hS hc hs (w := 0) (by omega)
  have hh' : hl (capF f cs so 1) (capF f cs so 0) st.1 (st.2 so) = true := hh
  have e : hld (baseC f g n cs w) (stA st t) so = hl (capF f cs so 1) (capF f cs so 0) (st.1 + 1) (st.2 so + prt t so) := rfl
  rw [e]
  unfold hl at hh' ⊢
  obtain ⟨a1, a0⟩ := Bool.and_eq_true_iff.mp hh'
  have a1 := of_decide_eq_true a1
  have a0 := of_decide_eq_true a0
  unfold frS
  cases ho : opn g cs so (prt t so)
  · have hne : ¬ (so = 0 ∨ anyO g cs so = true) := fun z => by rw [law_opn ht hlw hs z] at ho; cases ho
    have hso : ¬ so = 0 := fun z => hne (Or.inl z)
    have hcn : cntF f cs so = false := by
      unfold cntF
      rw [SR_any hS.1 hc hs, decide_eq_false hso, Bool.false_or]
      cases z : anyO g cs so
      · rfl
      · exact absurd (Or.inr z) hne
    have hz : prt t so = 0 := by
      have hg := law_go hlw hs
      unfold goesG at hg
      cases z : anyO g cs so
      · rw [z, if_neg (by decide)] at hg
        exact of_decide_eq_true (Bool.and_eq_true_iff.mp hg).2
      · exact absurd (Or.inr z) hne
    have c1 : capF f cs so 1 = 9 := by unfold capF; rw [hcn]; rfl
    have c0 : capF f cs so 0 = 9 := by unfold capF; rw [hcn]; rfl
    rw [c1, c0, decide_eq_true (show st.2 so + prt t so ≤ 9 by omega), decide_eq_true (show st.1 + 1 - (st.2 so + prt t so) ≤ 9 by omega)]; rfl
  · have hv := hF so hs (prt t so) hq ho
    have hk := kN_cap hS hc hs hq ho
    have hkl := (kN_v hS hc hs hq).1
    rw [hv]
    unfold cw
    obtain e0 | e1 : prt t so = 0 ∨ prt t so = 1 := by omega
    · rw [e0] at hk hkl ⊢
      rw [if_neg (by omega)]
      have t1 : (iI ((kN g cs so 0 : Int) - ((st.1 - st.2 so : Nat) : Int))).toInt = (kN g cs so 0 : Int) - ((st.1 - st.2 so : Nat) : Int) := iI_t (by omega) (by omega)
      rw [Nat.add_zero, decide_eq_true a1, Bool.true_and, Bool.not_true, Bool.false_or, hk]
      have : ((1 : Int32) ≤ iI ((kN g cs so 0 : Int) - ((st.1 - st.2 so : Nat) : Int))) ↔ (st.1 + 1 - st.2 so ≤ kN g cs so 0) := by
        rw [i32_le, t1]
        show (1 : Int) ≤ _ ↔ _
        omega
      by_cases q : st.1 + 1 - st.2 so ≤ kN g cs so 0
      · rw [decide_eq_true q, decide_eq_true (this.mpr q)]
      · rw [decide_eq_false q, decide_eq_false (fun z => q (this.mp z))]
    · rw [e1] at hk hkl ⊢
      rw [if_pos rfl]
      have t1 : (iI ((kN g cs so 1 : Int) - (st.2 so : Int))).toInt = (kN g cs so 1 : Int) - (st.2 so : Int) := iI_t (by omega) (by omega)
      rw [show st.1 + 1 - (st.2 so + 1) = st.1 - st.2 so by omega, decide_eq_true a0, Bool.and_true, Bool.not_true, Bool.false_or, hk]
      have : ((1 : Int32) ≤ iI ((kN g cs so 1 : Int) - (st.2 so : Int))) ↔ (st.2 so + 1 ≤ kN g cs so 1) := by
        rw [i32_le, t1]
        show (1 : Int) ≤ _ ↔ _
        omega
      by_cases q : st.2 so + 1 ≤ kN g cs so 1
      · rw [decide_eq_true q, decide_eq_true (this.mpr q)]
      · rw [decide_eq_false q, decide_eq_false (fun z => q (this.mp z))]
theorem M_isFree {f : Nat → Int32} {n cs t : Nat} {w : Int × Int × Int} {m : Mem} {st : St} (hS : SG f (m.1 20)) (hc : cs < 4) (ht : t < 8) (hlw : lawG (m.1 20) cs t = true) (hF : FreeR (m.1 20) cs m st) (hi : inS st) (h6 : st.1 ≤ 6) (hh : hold (baseC f (m.1 20) n cs w) st = true) : fX7_isFree m (nI cs) (nI t) = some (bi (hold (baseC f (m.1 20) n cs w) (stA st t))) := by
  obtain ⟨h0, h1⟩ := Bool.and_eq_true_iff.mp hh
  obtain ⟨h1, h2⟩ := Bool.and_eq_true_iff.mp h1
  rw [M_isFree0 m hc ht, fr_hld (n := n) (w := w) hS hc ht (by omega) hlw hF hi.1 h6 h0, fr_hld (n := n) (w := w) hS hc ht (by omega) hlw hF hi.2.1 h6 h1, fr_hld (n := n) (w := w) hS hc ht (by omega) hlw hF hi.2.2 h6 h2]
  rfl
/-- a pupil sits down, gets up -/
theorem M_sits (m : Mem) {cs t : Nat} (v : Int) (hc : cs < 4) (ht : t < 8) : ∃ m2, fX7_sits m (nI cs) (nI t) (iI v) = some m2 ∧ ((∀ a, a ≠ 26 → m2.1 a = m.1 a) ∧ m2.2 = m.2 ∧ ∀ so, so < 3 → ∀ w, w < 2 → m2.1 26 (2 * so + w) = if so < 3 ∧ (w = prt t so ∧ opn (m.1 20) cs so (prt t so) = true) then m.1 26 (2 * so + w) + iI v else m.1 26 (2 * so + w)) := by
  have key : ∃ m2, lp (fun a => bX7_sits_3 a.2 (nI cs) (nI t) (iI v) a.1) 600 ((0 : Int32), m) = some m2 ∧ ((∀ a, a ≠ 26 → m2.1 a = m.1 a) ∧ m2.2 = m.2 ∧ ∀ so, so < 3 → ∀ w, w < 2 → m2.1 26 (2 * so + w) = if so < 3 ∧ (w = prt t so ∧ opn (m.1 20) cs so (prt t so) = true) then m.1 26 (2 * so + w) + iI v else m.1 26 (2 * so + w)) := by
    refine lp_inv (α := Int32 × Mem) (β := Mem) (fun i a => a.1 = nI i ∧ (∀ b, b ≠ 26 → a.2.1 b = m.1 b) ∧ a.2.2 = m.2 ∧ ∀ so, so < 3 → ∀ w, w < 2 → a.2.1 26 (2 * so + w) = if so < i ∧ (w = prt t so ∧ opn (m.1 20) cs so (prt t so) = true) then m.1 26 (2 * so + w) + iI v else m.1 26 (2 * so + w)) (fun m2 => (∀ a, a ≠ 26 → m2.1 a = m.1 a) ∧ m2.2 = m.2 ∧ ∀ so, so < 3 → ∀ w, w < 2 → m2.1 26 (2 * so + w) = if so < 3 ∧ (w = prt t so ∧ opn (m.1 20) cs so (prt t so) = true) then m.1 26 (2 * so + w) + iI v else m.1 26 (2 * so + w)) 3 ?_ ?_ (by omega) ⟨rfl, fun _ _ => rfl, rfl, fun so hs w hw => by rw [if_neg (by omega)]⟩
    · rintro i ⟨x, m'⟩ hi ⟨q1, q2, q3, q4⟩
      simp only at q1 q2 q3 q4
      subst q1
      left
      have hp := prt_lt t ht i hi
      have e20 : m'.1 20 = m.1 20 := q2 20 (by omega)
      have ev : m'.1 26 (2 * i + prt t i) = m.1 26 (2 * i + prt t i) := by rw [q4 i hi _ hp, if_neg (by omega)]
      show ∃ a', bX7_sits_3 m' (nI cs) (nI t) (iI v) (nI i) = some (.inr a') ∧ _
      unfold bX7_sits_3
      rw [if_neg (nI_c3 hi), M_counts m' hc ht hi, Option.bind_some, bi_n0, M_part t ht i hi, Option.bind_some, nI_mul2, nI_add, gd_in (by omega) (by omega), gd_in (by omega) (by omega), nI_clamp (by omega), e20, ev]
      simp only [lt_e, nI_p1]
      cases ho : opn (m.1 20) cs i (prt t i)
      · refine ⟨_, rfl, rfl, q2, q3, fun so hs w hw => ?_⟩
        show m'.1 26 (2 * so + w) = _
        rw [q4 so hs w hw]
        by_cases y : so < i ∧ (w = prt t so ∧ opn (m.1 20) cs so (prt t so) = true)
        · rw [if_pos y, if_pos ⟨by omega, y.2⟩]
        · rw [if_neg y, if_neg]
          rintro ⟨z1, z2, z3⟩
          by_cases z4 : so = i
          · subst z4; rw [ho] at z3; cases z3
          · exact y ⟨by omega, z2, z3⟩
      · refine ⟨_, rfl, rfl, fun b hb => (up2_n hb).trans (q2 b hb), q3, fun so hs w hw => ?_⟩
        show (up2 m' 26 (2 * i + prt t i) (m.1 26 (2 * i + prt t i) + iI v)).1 26 (2 * so + w) = _
        rw [up2_s]
        by_cases z4 : so = i ∧ w = prt t i
        · obtain ⟨rfl, rfl⟩ := z4
          rw [pk_us, if_pos ⟨by omega, rfl, ho⟩]
        · have hp2 := prt_lt t ht so hs
          rw [pk_un (by omega), q4 so hs w hw]
          by_cases y : so < i ∧ (w = prt t so ∧ opn (m.1 20) cs so (prt t so) = true)
          · rw [if_pos y, if_pos ⟨by omega, y.2⟩]
          · rw [if_neg y, if_neg]
            rintro ⟨z1, z2, z3⟩
            by_cases z5 : so = i
            · subst z5; exact z4 ⟨rfl, z2⟩
            · exact y ⟨by omega, z2, z3⟩
    · rintro ⟨x, m'⟩ ⟨q1, q2, q3, q4⟩
      simp only at q1 q2 q3 q4
      subst q1
      refine ⟨m', ?_, q2, q3, q4⟩
      show bX7_sits_3 m' (nI cs) (nI t) (iI v) (nI 3) = _
      unfold bX7_sits_3
      rw [if_pos (by decide)]
  obtain ⟨m2, k1, k2⟩ := key
  refine ⟨m2, ?_, k2⟩
  unfold fX7_sits
  rw [k1]; rfl
theorem cw_A {st : St} {t so w : Nat} (ht : t < 8) (hs : so < 3) (hw : w < 2) (hi : st.2 so ≤ st.1) : cw (stA st t) so w = cw st so w + if w = prt t so then 1 else 0 := by
  have hq := prt_lt t ht so hs
  have e : cw (stA st t) so w = if w = 1 then st.2 so + prt t so else st.1 + 1 - (st.2 so + prt t so) := rfl
  rw [e]
  unfold cw
  obtain rfl | rfl : w = 0 ∨ w = 1 := by omega
  · rw [if_neg (by omega), if_neg (by omega)]
    by_cases q : 0 = prt t so
    · rw [if_pos q]; omega
    · rw [if_neg q]; omega
  · rw [if_pos rfl, if_pos rfl]
    by_cases q : 1 = prt t so
    · rw [if_pos q]; omega
    · rw [if_neg q]; omega
theorem inS_so {st : St} (h : inS st) {so : Nat} (hs : so < 3) : st.2 so ≤ st.1 := by
  obtain rfl | rfl | rfl : so = 0 ∨ so = 1 ∨ so = 2 := by omega
  · exact h.1
  · exact h.2.1
  · exact h.2.2
theorem Free_down {g : Nat → Int32} {cs t : Nat} {m m2 : Mem} {st : St} (ht : t < 8) (hi : inS st) (hF : FreeR g cs m st) (h : ∀ so, so < 3 → ∀ w, w < 2 → m2.1 26 (2 * so + w) = if so < 3 ∧ (w = prt t so ∧ opn g cs so (prt t so) = true) then m.1 26 (2 * so + w) + iI (-1) else m.1 26 (2 * so + w)) : FreeR g cs m2 (stA st t) := by
  intro so hs w hw ho
  rw [h so hs w hw, hF so hs w hw ho, cw_A ht hs hw (inS_so hi hs)]
  by_cases q : w = prt t so
  · rw [if_pos ⟨hs, q, by rw [← q]; exact ho⟩, if_pos q, iI_add]; congr 1; omega
  · rw [if_neg (fun z => q z.2.1), if_neg q]; congr 1
theorem Free_up {g : Nat → Int32} {cs t : Nat} {m m2 : Mem} {st : St} (ht : t < 8) (hi : inS st) (hF : FreeR g cs m (stA st t)) (h : ∀ so, so < 3 → ∀ w, w < 2 → m2.1 26 (2 * so + w) = if so < 3 ∧ (w = prt t so ∧ opn g cs so (prt t so) = true) then m.1 26 (2 * so + w) + iI 1 else m.1 26 (2 * so + w)) : FreeR g cs m2 st := by
  intro so hs w hw ho
  rw [h so hs w hw, hF so hs w hw ho, cw_A ht hs hw (inS_so hi hs)]
  by_cases q : w = prt t so
  · rw [if_pos ⟨hs, q, by rw [← q]; exact ho⟩, if_pos q, iI_add]; congr 1; omega
  · rw [if_neg (fun z => q z.2.1), if_neg q]; congr 1
/-- how uneven it is now -/
theorem M_unevenNow {f : Nat → Int32} {n cs : Nat} {w : Int × Int × Int} {m : Mem} {st : St} (hS : SG f (m.1 20)) (hc : cs < 4) (hF : FreeR (m.1 20) cs m st) (hi : inS st) (h6 : st.1 ≤ 6) : fX7_unevenNow m (nI cs) = some (nI (gapS (baseC f (m.1 20) n cs w) st)) := by
  have hs : ∀ so, so < 3 → ∀ v, bX7_unevenNow_4 m (nI cs) (nI v) (nI so) = some (.inr (nI (v + gp (opn (m.1 20) cs so 0 && opn (m.1 20) cs so 1) st.1 (st.2 so)), nI (so + 1))) := by
    intro so hs v
    have o0 := M_isOpen m hc hs (w := 0) (by omega)
    have o1 := M_isOpen m hc hs (w := 1) (by omega)
    have a0 := M_at cs hc so hs 0 (by omega)
    have a1 := M_at cs hc so hs 1 (by omega)
    have k0 := kN_v hS hc hs (w := 0) (by omega)
    have k1 := kN_v hS hc hs (w := 1) (by omega)
    have hii := inS_so hi hs
    unfold bX7_unevenNow_4
    rw [if_neg (nI_c3 hs), show (0 : Int32) = nI 0 from rfl, show (1 : Int32) = nI 1 from rfl, o0, Option.bind_some, o1, Option.bind_some, a0, Option.bind_some, a1, show nI 0 = (0 : Int32) from rfl, show nI 1 = (1 : Int32) from rfl, bi_n0, bi_n0]
    simp only [lt_e, Option.bind_some, nI_p2, nI_mul2, nI_p1, gd_in (show 24 * cs + 8 * so + 4 * 0 + 2 < 139 by omega) (show 139 < 2 ^ 31 by omega), gd_in (show 24 * cs + 8 * so + 4 * 1 + 2 < 139 by omega) (show 139 < 2 ^ 31 by omega), gd_in (show 2 * so < 6 by omega) (show 6 < 2 ^ 31 by omega), gd_in (show 2 * so + 1 < 6 by omega) (show 6 < 2 ^ 31 by omega), nI_clamp (show 24 * cs + 8 * so + 4 * 0 + 2 < 2 ^ 31 by omega), nI_clamp (show 24 * cs + 8 * so + 4 * 1 + 2 < 2 ^ 31 by omega), nI_clamp (show 2 * so < 2 ^ 31 by omega), nI_clamp (show 2 * so + 1 < 2 ^ 31 by omega)]
    cases e0 : opn (m.1 20) cs so 0
    · rfl
    · cases e1 : opn (m.1 20) cs so 1
      · rfl
      · have f0 := hF so hs 0 (by omega) e0
        have f1 := hF so hs 1 (by omega) e1
        rw [Nat.add_zero] at f0
        rw [if_pos rfl, if_pos rfl, k0.2, k1.2, f0, f1]
        have c0 : cw st so 0 = st.1 - st.2 so := rfl
        have c1 : cw st so 1 = st.2 so := rfl
        rw [c0, c1, iI_n (kN (m.1 20) cs so 0), iI_n (kN (m.1 20) cs so 1), iI_sub, iI_sub, iI_sub]
        have ez : (kN (m.1 20) cs so 0 : Int) - ((kN (m.1 20) cs so 0 : Int) - ((st.1 - st.2 so : Nat) : Int)) - ((kN (m.1 20) cs so 1 : Int) - ((kN (m.1 20) cs so 1 : Int) - (st.2 so : Int))) = (st.1 : Int) - ((2 * st.2 so : Nat) : Int) := by omega
        rw [ez, ← iI_sub, ← iI_n, ← iI_n, abI_nat (by omega) (by omega), nI_add]
        show _ = some (Sum.inr (nI (v + (if true = true then ((st.1 : Int) - 2 * (st.2 so : Int)).natAbs else 0)), nI (so + 1)))
        rw [if_pos rfl]
        congr 5
  have he : ∀ v, bX7_unevenNow_4 m (nI cs) v (nI 3) = some (.inl v) := by
    intro v
    unfold bX7_unevenNow_4
    rw [if_pos (by decide)]
  have l0 := hs 0 (by omega) 0
  have l1 := hs 1 (by omega) (0 + gp (opn (m.1 20) cs 0 0 && opn (m.1 20) cs 0 1) st.1 (st.2 0))
  have l2 := hs 2 (by omega) (0 + gp (opn (m.1 20) cs 0 0 && opn (m.1 20) cs 0 1) st.1 (st.2 0) + gp (opn (m.1 20) cs 1 0 && opn (m.1 20) cs 1 1) st.1 (st.2 1))
  have l3 := he (nI (0 + gp (opn (m.1 20) cs 0 0 && opn (m.1 20) cs 0 1) st.1 (st.2 0) + gp (opn (m.1 20) cs 1 0 && opn (m.1 20) cs 1 1) st.1 (st.2 1) + gp (opn (m.1 20) cs 2 0 && opn (m.1 20) cs 2 1) st.1 (st.2 2)))
  rw [show nI 0 = (0 : Int32) from rfl] at l0
  obtain ⟨k, hk⟩ := f600
  unfold fX7_unevenNow
  rw [hk, lp_r (body := fun a => bX7_unevenNow_4 m (nI cs) a.1 a.2) (a := ((0 : Int32), (0 : Int32))) l0, lp_r (body := fun a => bX7_unevenNow_4 m (nI cs) a.1 a.2) l1, lp_r (body := fun a => bX7_unevenNow_4 m (nI cs) a.1 a.2) l2, lp_l (body := fun a => bX7_unevenNow_4 m (nI cs) a.1 a.2) l3, Option.bind_some, Nat.zero_add]
  rfl
