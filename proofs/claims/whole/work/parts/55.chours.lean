/-! the class: the hours of lawful triples -/
theorem any_opn {g : Nat → Int32} {c so w : Nat} (hw : w < 2) (h : anyO g c so = false) : opn g c so w = false := by
  unfold anyO at h
  obtain ⟨q0, q1⟩ := Bool.or_eq_false_iff.mp h
  obtain rfl | rfl : w = 0 ∨ w = 1 := by omega
  · exact q0
  · exact q1
theorem goes_0 {g : Nat → Int32} {c t : Nat} (ht : t < 8) : goesG g c t 0 = opn g c 0 (prt t 0) := by
  unfold goesG
  cases e : anyO g c 0
  · rw [any_opn (prt_lt t ht 0 (by omega)) e]; rfl
  · simp
def hrsG (g : Nat → Int32) (c t : Nat) : Int32 := if lawG g c t then timeG g c t else -1
theorem C_lawE (s : Mem) (c t l a : Int32) : bX0_lawfulHours_31 s c t l a (nI 3) = some (.inl (.inr a)) := by
  unfold bX0_lawfulHours_31
  rw [if_pos (by decide)]
theorem C_lawfulHours (s : Mem) {g : Nat → Int32} (h : SR (s.1 2) g) {c t : Nat} (hc : c < 4) (ht : t < 8) : fX0_lawfulHours s (nI c) (nI t) = some (hrsG g c t) := by
  have hp0 := prt_lt t ht 0 (by omega)
  have p0 := C_part t ht 0 (by omega)
  have o0 := C_isOpen s hc (so := 0) (by omega) hp0
  have t0 := C_ofSection s hc (so := 0) (by omega) hp0 (j := 1) (by omega)
  rw [show nI 0 = (0 : Int32) from rfl] at p0 o0 t0
  rw [show nI 1 = (1 : Int32) from rfl] at t0
  obtain ⟨k, hk⟩ := f600
  unfold fX0_lawfulHours
  rw [p0, Option.bind_some, o0, Option.bind_some, bi_n0, SR_opn h hc (by omega) hp0, t0, Option.bind_some, hk]
  unfold hrsG lawG
  rw [goes_0 ht]
  cases e0 : opn g c 0 (prt t 0)
  · rfl
  · have e1 : tmG g c t 0 = s.1 2 (24 * c + 8 * 0 + 4 * prt t 0 + 1) := by
      unfold tmG
      rw [if_pos e0, ((h c hc 0 (by omega) _ hp0).2 (opn_1 e0)).1.1]
    have et : timeG g c t = tmG g c t 0 ||| tmG g c t 1 ||| tmG g c t 2 := rfl
    rw [← e1, et, if_pos rfl]
    have g1 := C_lawB s h (tmG g c t 0) hc ht (so := 1) (by omega) (by omega)
    have g2 := C_lawB s h (tmG g c t 0 ||| tmG g c t 1) hc ht (so := 2) (by omega) (by omega)
    have g3 := C_lawE s (nI c) (nI t) (nI (prt t 0)) (tmG g c t 0 ||| tmG g c t 1 ||| tmG g c t 2)
    rw [show nI 1 = (1 : Int32) from rfl] at g1
    have w1 := and_or0 (tmG g c t 0) (tmG g c t 1) (tmG g c t 2)
    generalize tmG g c t 0 = a at *
    generalize tmG g c t 1 = b at *
    generalize tmG g c t 2 = d at *
    by_cases q1 : goesG g c t 1 = true ∧ a &&& b = 0
    · rw [if_pos q1] at g1
      rw [lp_r (a := (a, (1 : Int32))) (a' := (a ||| b, nI (1 + 1))) g1]
      by_cases q2 : goesG g c t 2 = true ∧ (a ||| b) &&& d = 0
      · rw [if_pos q2] at g2
        rw [lp_r (a := (a ||| b, nI (1 + 1))) (a' := (a ||| b ||| d, nI (2 + 1))) g2, lp_l (a := (a ||| b ||| d, nI (2 + 1))) g3]
        simp [q1.1, q1.2, q2.1, (w1.mp q2.2).1, (w1.mp q2.2).2]
      · rw [if_neg q2] at g2
        rw [lp_l (a := (a ||| b, nI (1 + 1))) g2]
        have : ¬ (goesG g c t 2 = true ∧ a &&& d = 0 ∧ b &&& d = 0) := fun z => q2 ⟨z.1, w1.mpr z.2⟩
        have hf : (true && goesG g c t 1 && goesG g c t 2 && (decide (a &&& b = 0) && (decide (a &&& d = 0) && decide (b &&& d = 0)))) = false := by
          rw [Bool.eq_false_iff]
          intro z
          simp at z
          exact this ⟨z.1.2, z.2.2.1, z.2.2.2⟩
        rw [hf]
        rfl
    · rw [if_neg q1] at g1
      rw [lp_l (a := (a, (1 : Int32))) g1]
      have hf : (true && goesG g c t 1 && goesG g c t 2 && (decide (a &&& b = 0) && (decide (a &&& d = 0) && decide (b &&& d = 0)))) = false := by
        rw [Bool.eq_false_iff]
        intro z
        simp at z
        exact q1 ⟨z.1.1, z.2.1⟩
      rw [hf]
      rfl
