/-! the class: lawful triples, over what the sections mean -/
/-- the class's sections mean g's -/
def SR (f g : Nat → Int32) : Prop := ∀ c, c < 4 → ∀ so, so < 3 → ∀ w, w < 2 → f (24 * c + 8 * so + 4 * w) = g (24 * c + 8 * so + 4 * w) ∧ (g (24 * c + 8 * so + 4 * w) = 1 → (f (24 * c + 8 * so + 4 * w + 1) = g (24 * c + 8 * so + 4 * w + 1) ∧ f (24 * c + 8 * so + 4 * w + 2) = g (24 * c + 8 * so + 4 * w + 2) ∧ f (24 * c + 8 * so + 4 * w + 3) = g (24 * c + 8 * so + 4 * w + 3)) ∧ (g (24 * c + 8 * so + 4 * w + 3) = -1 ∨ g (24 * c + 8 * so + 4 * w + 3) = 0 ∨ g (24 * c + 8 * so + 4 * w + 3) = 1))
theorem SR_opn {f g : Nat → Int32} (h : SR f g) {c so w : Nat} (hc : c < 4) (hs : so < 3) (hw : w < 2) : opn f c so w = opn g c so w := by
  unfold opn
  rw [(h c hc so hs w hw).1]
theorem SR_any {f g : Nat → Int32} (h : SR f g) {c so : Nat} (hc : c < 4) (hs : so < 3) : anyO f c so = anyO g c so := by
  unfold anyO
  rw [SR_opn h hc hs (by omega), SR_opn h hc hs (by omega)]
theorem opn_1 {g : Nat → Int32} {c so w : Nat} (h : opn g c so w = true) : g (24 * c + 8 * so + 4 * w) = 1 := by
  unfold opn at h
  exact of_decide_eq_true h
theorem link_eq : ∀ l, l < 2 → ∀ k : Int32, k = -1 ∨ k = 0 ∨ k = 1 → (decide (k = -1) || decide (k = nI l)) = (decide (k < 0) || decide (k = nI l)) := by
  intro l hl k hk
  obtain rfl | rfl : l = 0 ∨ l = 1 := by omega
  · rcases hk with rfl | rfl | rfl <;> decide +kernel
  · rcases hk with rfl | rfl | rfl <;> decide +kernel
theorem SR_goes {f g : Nat → Int32} (h : SR f g) {c t so : Nat} (hc : c < 4) (ht : t < 8) (hs : so < 3) (h0 : 0 < so) : goesG g c t so = if cntF f c so = true then gwF f c so (prt t so) (prt t 0) else decide (prt t so = 0) := by
  have hp := prt_lt t ht so hs
  have hp0 := prt_lt t ht 0 (by omega)
  unfold goesG cntF gwF
  rw [SR_any h hc hs, SR_opn h hc hs hp, decide_eq_false (by omega : ¬ so = 0), Bool.false_or, Bool.false_or]
  cases e : anyO g c so
  · rw [if_neg (by decide), if_neg (by decide), decide_eq_true h0, Bool.true_and]
  · rw [if_pos rfl, if_pos rfl]
    cases e2 : opn g c so (prt t so)
    · rfl
    · obtain ⟨⟨-, -, h3⟩, h4⟩ := (h c hc so hs _ hp).2 (opn_1 e2)
      unfold lnk
      rw [h3, link_eq _ hp0 _ h4]
theorem and_or0 (a b d : Int32) : ((a ||| b) &&& d = 0) ↔ (a &&& d = 0 ∧ b &&& d = 0) := by
  simp only [← Int32.toBitVec_inj, Int32.toBitVec_and, Int32.toBitVec_or]
  show ((a.toBitVec ||| b.toBitVec) &&& d.toBitVec = 0#32) ↔ (a.toBitVec &&& d.toBitVec = 0#32 ∧ b.toBitVec &&& d.toBitVec = 0#32)
  constructor
  · intro h
    constructor
    · apply BitVec.eq_of_getLsbD_eq
      intro i hi
      have := congrArg (fun v => v.getLsbD i) h
      simp at this ⊢
      exact fun q => this (Or.inl q)
    · apply BitVec.eq_of_getLsbD_eq
      intro i hi
      have := congrArg (fun v => v.getLsbD i) h
      simp at this ⊢
      exact fun q => this (Or.inr q)
  · rintro ⟨h1, h2⟩
    apply BitVec.eq_of_getLsbD_eq
    intro i hi
    have e1 := congrArg (fun v => v.getLsbD i) h1
    have e2 := congrArg (fun v => v.getLsbD i) h2
    simp at e1 e2 ⊢
    rintro (q | q)
    · exact e1 q
    · exact e2 q
theorem and_0 (a : Int32) : a &&& (0 : Int32) = 0 := by
  apply Int32.toBitVec_inj.mp
  rw [Int32.toBitVec_and]
  simp
theorem C_lawB (s : Mem) {g : Nat → Int32} (h : SR (s.1 2) g) {c t so : Nat} (a : Int32) (hc : c < 4) (ht : t < 8) (hs : so < 3) (h0 : 0 < so) : bX0_lawfulHours_31 s (nI c) (nI t) (nI (prt t 0)) a (nI so) = if goesG g c t so = true ∧ a &&& tmG g c t so = 0 then some (.inr (a ||| tmG g c t so, nI (so + 1))) else some (.inl (.inl (-1))) := by
  have hp := prt_lt t ht so hs
  have h1 := C_ofSection s hc hs hp (j := 1) (by omega)
  rw [show nI 1 = (1 : Int32) from rfl] at h1
  have e2 : (nI (prt t so) = (0 : Int32)) ↔ prt t so = 0 := by rw [show (0 : Int32) = nI 0 from rfl, nI_eq (by omega) (by omega)]
  unfold bX0_lawfulHours_31 gX0_lawfulHours_95
  rw [if_neg (nI_c3 hs), C_part t ht so hs, Option.bind_some, C_counts s hc hs, Option.bind_some, bi_n0, C_goesWith s (prt t 0) hc hs hp, Option.bind_some, bi_n0, h1, Option.bind_some, SR_goes h hc ht hs h0]
  simp only [lt, nI_p1, and_0, or_0, e2, if_true]
  have hcnt : cntF (s.1 2) c so = anyO g c so := by
    unfold cntF
    rw [SR_any h hc hs, decide_eq_false (by omega : ¬ so = 0), Bool.false_or]
  rw [hcnt]
  cases e3 : anyO g c so
  · have e4 : opn g c so (prt t so) = false := by
      unfold anyO at e3
      obtain ⟨q0, q1⟩ := Bool.or_eq_false_iff.mp e3
      obtain e | e : prt t so = 0 ∨ prt t so = 1 := by omega
      · rw [e]; exact q0
      · rw [e]; exact q1
    have e5 : tmG g c t so = 0 := by unfold tmG; rw [e4]; rfl
    rw [e5, and_0, or_0]
    simp only [Bool.false_eq_true, if_false]
    by_cases e6 : prt t so = 0
    · rw [if_pos e6, decide_eq_true e6, if_pos ⟨rfl, trivial⟩]
    · rw [if_neg e6, decide_eq_false e6, if_neg (fun q => by cases q.1)]
  · rw [if_pos rfl, if_pos rfl]
    cases e4 : gwF (s.1 2) c so (prt t so) (prt t 0)
    · rw [if_neg (by decide), if_neg (fun q => by cases q.1)]
    · have e5 : opn g c so (prt t so) = true := by
        unfold gwF at e4
        rw [← SR_opn h hc hs hp]
        exact (Bool.and_eq_true_iff.mp e4).1
      have e6 : tmG g c t so = s.1 2 (24 * c + 8 * so + 4 * prt t so + 1) := by
        unfold tmG
        rw [if_pos e5, ((h c hc so hs _ hp).2 (opn_1 e5)).1.1]
      rw [if_pos rfl, e6]
      by_cases e7 : a &&& s.1 2 (24 * c + 8 * so + 4 * prt t so + 1) = 0
      · rw [if_pos e7, if_pos ⟨rfl, e7⟩]
      · rw [if_neg e7, if_neg (fun q => e7 q.2)]
