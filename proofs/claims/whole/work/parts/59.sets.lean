/-! sets of triples, bit by bit -/
theorem sh1 : ∀ k, k < 8 → ((1 : Int32) <<< (nI k &&& 31)).toBitVec = BitVec.twoPow 32 k := by decide +kernel
theorem setG_bit (f : Nat → Bool) : ∀ n, n ≤ 8 → ∀ i, (setG f n).toBitVec.getLsbD i = (decide (i < n) && f i)
  | 0, _, i => by
    show (0 : Int32).toBitVec.getLsbD i = _
    simp
  | n + 1, hn, i => by
    have e : setG f (n + 1) = if f n then setG f n ||| ((1 : Int32) <<< (nI n &&& 31)) else setG f n := rfl
    have ih := setG_bit f n (by omega) i
    rw [e]
    cases h : f n
    · rw [if_neg (by decide), ih]
      by_cases hi : i = n
      · subst hi; simp [h]
      · have : (i < n + 1) ↔ (i < n) := by omega
        simp only [this]
    · rw [if_pos rfl, Int32.toBitVec_or, BitVec.getLsbD_or, ih, sh1 n (by omega), BitVec.getLsbD_twoPow]
      by_cases hi : i = n
      · subst hi
        have h32 : i < 32 := by omega
        simp [h, h32]
      · have : (i < n + 1) ↔ (i < n) := by omega
        have hne : ¬ n = i := fun q => hi q.symm
        simp [this, hne]
theorem setG_congr {f f' : Nat → Bool} (h : ∀ t, t < 8 → f t = f' t) : ∀ n, n ≤ 8 → setG f n = setG f' n
  | 0, _ => rfl
  | n + 1, hn => by
    have e : setG f (n + 1) = if f n then setG f n ||| ((1 : Int32) <<< (nI n &&& 31)) else setG f n := rfl
    have e' : setG f' (n + 1) = if f' n then setG f' n ||| ((1 : Int32) <<< (nI n &&& 31)) else setG f' n := rfl
    rw [e, e', h n (by omega), setG_congr h n (by omega)]
theorem setG_diff (A B : Nat → Bool) : setG A 8 &&& (setG B 8 ^^^ (-1 : Int32)) = setG (fun t => A t && !B t) 8 := by
  apply Int32.toBitVec_inj.mp
  apply BitVec.eq_of_getLsbD_eq
  intro i hi
  rw [Int32.toBitVec_and, Int32.toBitVec_xor, BitVec.getLsbD_and, BitVec.getLsbD_xor, setG_bit A 8 (by omega), setG_bit B 8 (by omega), setG_bit _ 8 (by omega)]
  have e : (-1 : Int32).toBitVec = BitVec.allOnes 32 := by decide +kernel
  rw [e, BitVec.getLsbD_allOnes]
  by_cases h8 : i < 8
  · simp [h8, hi]
  · simp [h8]
theorem setG_and (A B : Nat → Bool) : setG A 8 &&& setG B 8 = setG (fun t => A t && B t) 8 := by
  apply Int32.toBitVec_inj.mp
  apply BitVec.eq_of_getLsbD_eq
  intro i hi
  rw [Int32.toBitVec_and, BitVec.getLsbD_and, setG_bit A 8 (by omega), setG_bit B 8 (by omega), setG_bit _ 8 (by omega)]
  by_cases h8 : i < 8
  · simp [h8]
  · simp [h8]
theorem and31 : ∀ k, k < 8 → (nI k &&& 31 : Int32) = nI k := by decide +kernel
theorem set_ext8 (a b : Int32) (h : ∀ i, i < 32 → a.toBitVec.getLsbD i = b.toBitVec.getLsbD i) : a = b := by
  apply Int32.toBitVec_inj.mp
  apply BitVec.eq_of_getLsbD_eq
  intro i hi
  exact h i hi
