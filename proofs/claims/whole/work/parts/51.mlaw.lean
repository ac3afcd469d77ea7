/-! the reference: lawful triples -/
theorem lp_s {α β : Type} (body : α → Option (β ⊕ α)) (k : Nat) (a : α) : lp body (k + 1) a = (body a).bind (Sum.elim some (lp body k)) := rfl
theorem lp_r {α β : Type} {body : α → Option (β ⊕ α)} {k : Nat} {a a' : α} (h : body a = some (.inr a')) : lp body (k + 1) a = lp body k a' := by rw [lp_s, h]; rfl
theorem lp_l {α β : Type} {body : α → Option (β ⊕ α)} {k : Nat} {a : α} {b : β} (h : body a = some (.inl b)) : lp body (k + 1) a = some b := by rw [lp_s, h]; rfl
theorem f600 : ∃ k, 600 = k + 1 + 1 + 1 + 1 := ⟨596, rfl⟩
theorem nI_c3 {i : Nat} (h : i < 3) : ¬ (3 : Int32) ≤ nI i := by rw [show (3 : Int32) = nI 3 from rfl, nI_leI (by omega) (by omega)]; omega
theorem nI_c8 {i : Nat} (h : i < 8) : ¬ (8 : Int32) ≤ nI i := by rw [show (8 : Int32) = nI 8 from rfl, nI_leI (by omega) (by omega)]; omega
theorem nI_c4 {i : Nat} (h : i < 4) : ¬ (4 : Int32) ≤ nI i := by rw [show (4 : Int32) = nI 4 from rfl, nI_leI (by omega) (by omega)]; omega
theorem nI_c2 {i : Nat} (h : i < 2) : ¬ (2 : Int32) ≤ nI i := by rw [show (2 : Int32) = nI 2 from rfl, nI_leI (by omega) (by omega)]; omega
theorem M_lawB (s : Mem) {c t i : Nat} (hc : c < 4) (ht : t < 8) (hi : i < 3) : bX7_isLawful_2 s (nI c) (nI t) (nI i) = if goesG (s.1 20) c t i = true then some (.inr (nI (i + 1))) else some (.inl (.inl 0)) := by
  unfold bX7_isLawful_2
  rw [if_neg (nI_c3 hi), M_goes s hc ht hi, Option.bind_some, bi_n0]
  simp only [lt, nI_p1]
theorem M_lawE (s : Mem) (c t : Int32) : bX7_isLawful_2 s c t (nI 3) = some (.inl (.inr ())) := by
  unfold bX7_isLawful_2
  rw [if_pos (by decide)]
theorem M_isLawful (s : Mem) {c t : Nat} (hc : c < 4) (ht : t < 8) : fX7_isLawful s (nI c) (nI t) = some (bi (lawG (s.1 20) c t)) := by
  have h0 := M_timeOf s hc ht (so := 0) (by omega)
  have h1 := M_timeOf s hc ht (so := 1) (by omega)
  have h2 := M_timeOf s hc ht (so := 2) (by omega)
  have g0 := M_lawB s hc ht (i := 0) (by omega)
  have g1 := M_lawB s hc ht (i := 1) (by omega)
  have g2 := M_lawB s hc ht (i := 2) (by omega)
  have g3 := M_lawE s (nI c) (nI t)
  rw [show nI 0 = (0 : Int32) from rfl] at h0 g0
  rw [show nI 1 = (1 : Int32) from rfl] at h1
  rw [show nI 2 = (2 : Int32) from rfl] at h2
  obtain ⟨k, hk⟩ := f600
  unfold fX7_isLawful
  rw [h0, h1, h2, hk]
  unfold lawG
  generalize tmG (s.1 20) c t 0 = a
  generalize tmG (s.1 20) c t 1 = b
  generalize tmG (s.1 20) c t 2 = d
  cases q0 : goesG (s.1 20) c t 0
  · rw [q0, if_neg (by decide)] at g0
    rw [lp_l g0]; rfl
  · rw [q0, if_pos rfl] at g0
    rw [lp_r g0]
    cases q1 : goesG (s.1 20) c t 1
    · rw [q1, if_neg (by decide)] at g1
      rw [lp_l g1]; rfl
    · rw [q1, if_pos rfl] at g1
      rw [lp_r g1]
      cases q2 : goesG (s.1 20) c t 2
      · rw [q2, if_neg (by decide)] at g2
        rw [lp_l g2]; rfl
      · rw [q2, if_pos rfl] at g2
        rw [lp_r g2, lp_l g3]
        simp only [Option.bind_some, Sum.elim_inr, Bool.true_and]
        by_cases e1 : a &&& b = 0
        · by_cases e2 : a &&& d = 0
          · by_cases e3 : b &&& d = 0
            · simp [e1, e2, e3, bi]
            · simp [e1, e2, e3, bi]
          · simp [e1, e2, bi]
        · simp [e1, bi]
/-- a set of triples -/
def setG (f : Nat → Bool) : Nat → Int32 := itr (fun t a => if f t then a ||| ((1 : Int32) <<< (nI t &&& 31)) else a) 0
theorem or_0 (a : Int32) : a ||| (0 : Int32) = a := by
  apply Int32.toBitVec_inj.mp
  rw [Int32.toBitVec_or]
  simp
theorem M_lawful (s : Mem) {c : Nat} (hc : c < 4) : fX7_lawful s (nI c) = some (setG (lawG (s.1 20) c) 8) := by
  unfold fX7_lawful
  have key : lp (fun a => bX7_lawful_4 s (nI c) a.1 a.2) 600 ((fun i => (setG (lawG (s.1 20) c) i, nI i)) 0) = some (setG (lawG (s.1 20) c) 8) := by
    refine lp_iter (fun i => (setG (lawG (s.1 20) c) i, nI i)) 8 (fun i hi => ?_) ?_ (by omega)
    · show bX7_lawful_4 s (nI c) (setG (lawG (s.1 20) c) i) (nI i) = some (.inr (setG (lawG (s.1 20) c) (i + 1), nI (i + 1)))
      unfold bX7_lawful_4
      rw [if_neg (nI_c8 hi), M_isLawful s hc hi, Option.bind_some, bi_n0]
      show _ = some (Sum.inr ((if lawG (s.1 20) c i then setG (lawG (s.1 20) c) i ||| ((1 : Int32) <<< (nI i &&& 31)) else setG (lawG (s.1 20) c) i), nI (i + 1)))
      simp only [lt, nI_p1, or_0]
      cases lawG (s.1 20) c i <;> rfl
    · show bX7_lawful_4 s (nI c) (setG (lawG (s.1 20) c) 8) (nI 8) = _
      unfold bX7_lawful_4
      rw [if_pos (by decide)]
  have e0 : ((0 : Int32), (0 : Int32)) = (fun i => (setG (lawG (s.1 20) c) i, nI i)) 0 := rfl
  rw [e0, key]
  rfl
