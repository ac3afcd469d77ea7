/-! hours as numbers: bits, days, what a week costs -/
theorem nI_bv (a : Nat) : (nI a).toBitVec = BitVec.ofNat 32 a := rfl
theorem nI_and (a b : Nat) : nI a &&& nI b = nI (a &&& b) := by
  apply Int32.toBitVec_inj.mp
  rw [Int32.toBitVec_and, nI_bv, nI_bv, nI_bv, BitVec.ofNat_and]
theorem nI_or (a b : Nat) : nI a ||| nI b = nI (a ||| b) := by
  apply Int32.toBitVec_inj.mp
  rw [Int32.toBitVec_or, nI_bv, nI_bv, nI_bv, BitVec.ofNat_or]
def hr (x : Int32) : Prop := ∃ k, k < 2 ^ 20 ∧ x = nI k
theorem hr_or {x y : Int32} (hx : hr x) (hy : hr y) : hr (x ||| y) := by
  obtain ⟨a, ha, rfl⟩ := hx
  obtain ⟨b, hb, rfl⟩ := hy
  exact ⟨a ||| b, Nat.or_lt_two_pow ha hb, nI_or a b⟩
theorem hr_0 : hr 0 := ⟨0, by decide, rfl⟩
theorem hr_pos {x : Int32} (h : hr x) : ¬ x < 0 := by
  obtain ⟨a, ha, rfl⟩ := h
  exact nI_pos (by omega)
def bsm (k : Nat) : Nat → Nat := itr (fun j a => a + k / 2 ^ j % 2) 0
theorem bit_at {k j : Nat} (hk : k < 2 ^ 31) (hj : j < 20) : (nI k >>> (nI j &&& 31)) &&& (1 : Int32) = nI (k / 2 ^ j % 2) := by
  have e : (nI j &&& 31 : Int32) = nI j := by
    have : ∀ j, j < 20 → (nI j &&& 31 : Int32) = nI j := by decide +kernel
    exact this j hj
  have es : ((nI j).toBitVec.smod 32).toNat = j := by
    have : ∀ j, j < 20 → ((nI j).toBitVec.smod 32).toNat = j := by decide +kernel
    exact this j hj
  have hk2 : k / 2 ^ j ≤ k := Nat.div_le_self k (2 ^ j)
  rw [e, pk_shrN hk (nI j) j es, pk_andN (by omega) 1 (by decide)]
theorem M_bits {k : Nat} (hk : k < 2 ^ 31) : fX7_bits (nI k) = some (nI (bsm k 20)) := by
  have hs : ∀ i, i < 20 → bX7_bits_4 (nI k) (nI (bsm k i)) (nI i) = some (.inr (nI (bsm k (i + 1)), nI (i + 1))) := by
    intro i hi
    have e : bsm k (i + 1) = bsm k i + k / 2 ^ i % 2 := rfl
    have hc : ¬ (20 : Int32) ≤ nI i := by rw [show (20 : Int32) = nI 20 from rfl, nI_leI (by omega) (by omega)]; omega
    rw [e]
    unfold bX7_bits_4
    rw [if_neg hc, bit_at hk hi]
    simp only [lt, nI_p1, nI_add]
  have he : bX7_bits_4 (nI k) (nI (bsm k 20)) (nI 20) = some (.inl (nI (bsm k 20))) := by
    unfold bX7_bits_4
    rw [if_pos (by decide)]
  unfold fX7_bits
  rw [lp_at (body := fun a => bX7_bits_4 (nI k) a.1 a.2) (a := ((0 : Int32), (0 : Int32))) (k := 600) (fun i => (nI (bsm k i), nI i)) 20 rfl hs he (by omega)]
  rfl
theorem land16 {a b m m' : Nat} (ha : a < 16) (hm : m < 16) : (a + 16 * b) &&& (m + 16 * m') = (a &&& m) + 16 * (b &&& m') := by
  have h1 : ((a + 16 * b) &&& (m + 16 * m')) % 2 ^ 4 = ((a + 16 * b) % 2 ^ 4) &&& ((m + 16 * m') % 2 ^ 4) := Nat.and_mod_two_pow
  have h2 : ((a + 16 * b) &&& (m + 16 * m')) / 2 ^ 4 = ((a + 16 * b) / 2 ^ 4) &&& ((m + 16 * m') / 2 ^ 4) := Nat.and_div_two_pow
  have e1 : (a + 16 * b) % 2 ^ 4 = a := by omega
  have e2 : (m + 16 * m') % 2 ^ 4 = m := by omega
  have e3 : (a + 16 * b) / 2 ^ 4 = b := by omega
  have e4 : (m + 16 * m') / 2 ^ 4 = m' := by omega
  rw [e1, e2] at h1
  rw [e3, e4] at h2
  rw [← h1, ← h2]
  omega
def cn4 (d : Nat) : Nat := d % 2 + d / 2 % 2 + d / 4 % 2 + d / 8 % 2
theorem nb1 : ∀ d, d < 16 → ∀ e, e < 2 → (d / 2 + 8 * e) &&& 5 = d / 2 &&& 5 := by decide +kernel
theorem nb2 : ∀ d, d < 16 → (d / 2 &&& 5) ≤ d ∧ ((d - (d / 2 &&& 5)) &&& 3) + ((d - (d / 2 &&& 5)) / 4 &&& 3) = cn4 d ∧ cn4 d ≤ 4 := by decide +kernel
theorem nb3 : ∀ v, v < 16 → ∀ e, e < 4 → (v / 4 + 4 * e) &&& 3 = v / 4 &&& 3 := by decide +kernel
theorem nb4 : ∀ c, c < 16 → (c &&& 15) = c ∧ (c &&& 0) = 0 := by decide +kernel
/-- the five quarter bytes of twenty bits -/
def mk5 (a b c d e : Nat) : Nat := a + 16 * (b + 16 * (c + 16 * (d + 16 * e)))
theorem land5 {a b c d e m0 m1 m2 m3 m4 m5 : Nat} (ha : a < 16) (hb : b < 16) (hc : c < 16) (hd : d < 16) (he : e < 16) (h0 : m0 < 16) (h1 : m1 < 16) (h2 : m2 < 16) (h3 : m3 < 16) (h4 : m4 < 16) : mk5 a b c d e &&& (m0 + 16 * (m1 + 16 * (m2 + 16 * (m3 + 16 * (m4 + 16 * m5))))) = mk5 (a &&& m0) (b &&& m1) (c &&& m2) (d &&& m3) (e &&& m4) := by
  unfold mk5
  rw [land16 ha h0, land16 hb h1, land16 hc h2, land16 hd h3]
  have e5 : e &&& (m4 + 16 * m5) = (e &&& m4) := by
    have := land16 (a := e) (b := 0) (m := m4) (m' := m5) he h4
    rw [Nat.mul_zero, Nat.add_zero, Nat.zero_and, Nat.mul_zero, Nat.add_zero] at this
    exact this
  rw [e5]
theorem pop_nat {a b c d e : Nat} (ha : a < 16) (hb : b < 16) (hc : c < 16) (hd : d < 16) (he : e < 16) :
    (mk5 a b c d e / 2 &&& 1431655765) = mk5 (a / 2 &&& 5) (b / 2 &&& 5) (c / 2 &&& 5) (d / 2 &&& 5) (e / 2 &&& 5) := by
  have e1 : mk5 a b c d e / 2 = mk5 (a / 2 + 8 * (b % 2)) (b / 2 + 8 * (c % 2)) (c / 2 + 8 * (d % 2)) (d / 2 + 8 * (e % 2)) (e / 2 + 8 * 0) := by unfold mk5; omega
  rw [e1, show (1431655765 : Nat) = 5 + 16 * (5 + 16 * (5 + 16 * (5 + 16 * (5 + 16 * 1365)))) from rfl, land5 (by omega) (by omega) (by omega) (by omega) (by omega) (by omega) (by omega) (by omega) (by omega) (by omega), nb1 a ha _ (by omega), nb1 b hb _ (by omega), nb1 c hc _ (by omega), nb1 d hd _ (by omega), nb1 e he _ (by omega)]
theorem pop2 {a b c d e : Nat} (ha : a < 16) (hb : b < 16) (hc : c < 16) (hd : d < 16) (he : e < 16) :
    (mk5 a b c d e &&& 858993459) + (mk5 a b c d e / 4 &&& 858993459) = mk5 ((a &&& 3) + (a / 4 &&& 3)) ((b &&& 3) + (b / 4 &&& 3)) ((c &&& 3) + (c / 4 &&& 3)) ((d &&& 3) + (d / 4 &&& 3)) ((e &&& 3) + (e / 4 &&& 3)) := by
  have e1 : mk5 a b c d e / 4 = mk5 (a / 4 + 4 * (b % 4)) (b / 4 + 4 * (c % 4)) (c / 4 + 4 * (d % 4)) (d / 4 + 4 * (e % 4)) (e / 4 + 4 * 0) := by unfold mk5; omega
  rw [e1, show (858993459 : Nat) = 3 + 16 * (3 + 16 * (3 + 16 * (3 + 16 * (3 + 16 * 819)))) from rfl, land5 (by omega) (by omega) (by omega) (by omega) (by omega) (by omega) (by omega) (by omega) (by omega) (by omega), land5 (by omega) (by omega) (by omega) (by omega) (by omega) (by omega) (by omega) (by omega) (by omega) (by omega), nb3 a ha _ (by omega), nb3 b hb _ (by omega), nb3 c hc _ (by omega), nb3 d hd _ (by omega), nb3 e he _ (by omega)]
  unfold mk5
  omega
theorem pop3 {a b c d e : Nat} (ha : a ≤ 4) (hb : b ≤ 4) (hc : c ≤ 4) (hd : d ≤ 4) (he : e ≤ 4) :
    (mk5 a b c d e + mk5 a b c d e / 16 &&& 252645135) = mk5 (a + b) 0 (c + d) 0 e := by
  have e1 : mk5 a b c d e + mk5 a b c d e / 16 = mk5 (a + b) (b + c) (c + d) (d + e) e := by unfold mk5; omega
  rw [e1, show (252645135 : Nat) = 15 + 16 * (0 + 16 * (15 + 16 * (0 + 16 * (15 + 16 * 240)))) from rfl, land5 (by omega) (by omega) (by omega) (by omega) (by omega) (by omega) (by omega) (by omega) (by omega) (by omega), (nb4 (a + b) (by omega)).1, (nb4 (b + c) (by omega)).2, (nb4 (c + d) (by omega)).1, (nb4 (d + e) (by omega)).2, (nb4 e (by omega)).1]
theorem bsm_4 {a b : Nat} (ha : a < 16) : ∀ m, bsm (a + 16 * b) (m + 4) = cn4 a + bsm b m
  | 0 => by
    show 0 + (a + 16 * b) / 2 ^ 0 % 2 + (a + 16 * b) / 2 ^ 1 % 2 + (a + 16 * b) / 2 ^ 2 % 2 + (a + 16 * b) / 2 ^ 3 % 2 = cn4 a + 0
    unfold cn4
    omega
  | m + 1 => by
    have e1 : bsm (a + 16 * b) (m + 1 + 4) = bsm (a + 16 * b) (m + 4) + (a + 16 * b) / 2 ^ (m + 4) % 2 := rfl
    have e2 : bsm b (m + 1) = bsm b m + b / 2 ^ m % 2 := rfl
    have e3 : (a + 16 * b) / 2 ^ (m + 4) = b / 2 ^ m := by
      rw [Nat.pow_add, Nat.mul_comm (2 ^ m) (2 ^ 4), ← Nat.div_div_eq_div_mul]
      congr 1
      omega
    rw [e1, e2, e3, bsm_4 ha m]
    omega
theorem bsm5 {a b c d e : Nat} (ha : a < 16) (hb : b < 16) (hc : c < 16) (hd : d < 16) (he : e < 16) : bsm (mk5 a b c d e) 20 = cn4 a + cn4 b + cn4 c + cn4 d + cn4 e := by
  unfold mk5
  rw [bsm_4 ha 16, bsm_4 hb 12, bsm_4 hc 8, bsm_4 hd 4]
  have := bsm_4 (b := 0) he 0
  rw [Nat.mul_zero, Nat.add_zero] at this
  rw [this]
  show _ = _
  have e0 : bsm 0 0 = 0 := rfl
  omega
theorem five {k : Nat} (hk : k < 2 ^ 20) : ∃ a b c d e : Nat, a < 16 ∧ b < 16 ∧ c < 16 ∧ d < 16 ∧ e < 16 ∧ k = mk5 a b c d e := by
  refine ⟨k % 16, k / 16 % 16, k / 256 % 16, k / 4096 % 16, k / 65536, by omega, by omega, by omega, by omega, by omega, ?_⟩
  unfold mk5
  omega
theorem us_k (n k : Nat) (s : Int32) (hn : n < 2 ^ 32) (hs : ((s.toUInt32 &&& Int32.toUInt32 31).toBitVec % 32).toNat = k) : ((nI n).toUInt32 >>> (s.toUInt32 &&& Int32.toUInt32 31)).toInt32 = nI (n / 2 ^ k) := pk_ushrN hn s k hs
theorem C_bitCount {k : Nat} (hk : k < 2 ^ 20) : fJ6_bitCount_0f7a4 (nI k) = some (nI (bsm k 20)) := by
  obtain ⟨a, b, c, d, e, ha, hb, hc, hd, he, rfl⟩ := five hk
  have a1 := nb2 a ha
  have b1 := nb2 b hb
  have c1 := nb2 c hc
  have d1 := nb2 d hd
  have e1 := nb2 e he
  unfold fJ6_bitCount_0f7a4
  simp only [lt]
  have s1 : nI (mk5 a b c d e) - (((nI (mk5 a b c d e)).toUInt32 >>> ((1 : Int32).toUInt32 &&& Int32.toUInt32 31)).toInt32 &&& (1431655765 : Int32)) = nI (mk5 (a - (a / 2 &&& 5)) (b - (b / 2 &&& 5)) (c - (c / 2 &&& 5)) (d - (d / 2 &&& 5)) (e - (e / 2 &&& 5))) := by
    rw [us_k _ 1 1 (by omega) (by decide +kernel), show (1431655765 : Int32) = nI 1431655765 from rfl, nI_and, Nat.pow_one, pop_nat ha hb hc hd he, pk_sub (by unfold mk5; omega)]
    congr 1
    unfold mk5
    omega
  rw [s1]
  generalize hA : a - (a / 2 &&& 5) = A at *
  generalize hB : b - (b / 2 &&& 5) = B at *
  generalize hC : c - (c / 2 &&& 5) = C at *
  generalize hD : d - (d / 2 &&& 5) = D at *
  generalize hE : e - (e / 2 &&& 5) = E at *
  have hm : mk5 A B C D E < 2 ^ 20 := by unfold mk5; omega
  have s2 : (nI (mk5 A B C D E) &&& (858993459 : Int32)) + (((nI (mk5 A B C D E)).toUInt32 >>> ((2 : Int32).toUInt32 &&& Int32.toUInt32 31)).toInt32 &&& (858993459 : Int32)) = nI (mk5 (cn4 a) (cn4 b) (cn4 c) (cn4 d) (cn4 e)) := by
    rw [us_k _ 2 2 (by omega) (by decide +kernel), show (858993459 : Int32) = nI 858993459 from rfl, nI_and, nI_and, nI_add, show (2 : Nat) ^ 2 = 4 from rfl, pop2 (by omega) (by omega) (by omega) (by omega) (by omega), a1.2.1, b1.2.1, c1.2.1, d1.2.1, e1.2.1]
  rw [s2]
  have hm2 : mk5 (cn4 a) (cn4 b) (cn4 c) (cn4 d) (cn4 e) < 2 ^ 20 := by unfold mk5; omega
  have s3 : (nI (mk5 (cn4 a) (cn4 b) (cn4 c) (cn4 d) (cn4 e)) + ((nI (mk5 (cn4 a) (cn4 b) (cn4 c) (cn4 d) (cn4 e))).toUInt32 >>> ((4 : Int32).toUInt32 &&& Int32.toUInt32 31)).toInt32) &&& (252645135 : Int32) = nI (mk5 (cn4 a + cn4 b) 0 (cn4 c + cn4 d) 0 (cn4 e)) := by
    rw [us_k _ 4 4 (by omega) (by decide +kernel), nI_add, show (252645135 : Int32) = nI 252645135 from rfl, nI_and, show (2 : Nat) ^ 4 = 16 from rfl, pop3 a1.2.2 b1.2.2 c1.2.2 d1.2.2 e1.2.2]
  rw [s3, bsm5 ha hb hc hd he]
  generalize cn4 a = x at *
  generalize cn4 b = y at *
  generalize cn4 c = z at *
  generalize cn4 d = u at *
  generalize cn4 e = v at *
  have hm3 : mk5 (x + y) 0 (z + u) 0 v < 2 ^ 20 := by unfold mk5; omega
  have s4 : nI (mk5 (x + y) 0 (z + u) 0 v) + ((nI (mk5 (x + y) 0 (z + u) 0 v)).toUInt32 >>> ((8 : Int32).toUInt32 &&& Int32.toUInt32 31)).toInt32 = nI (x + y + z + u + 256 * (z + u + v) + 65536 * v) := by
    rw [us_k _ 8 8 (by omega) (by decide +kernel), nI_add]
    congr 1
    unfold mk5
    omega
  rw [s4]
  have s5 : nI (x + y + z + u + 256 * (z + u + v) + 65536 * v) + ((nI (x + y + z + u + 256 * (z + u + v) + 65536 * v)).toUInt32 >>> ((16 : Int32).toUInt32 &&& Int32.toUInt32 31)).toInt32 = nI (x + y + z + u + v + 256 * (z + u + v) + 65536 * v) := by
    rw [us_k _ 16 16 (by omega) (by decide +kernel), nI_add]
    congr 1
    omega
  rw [s5, pk_andN (by omega) 6 (by decide)]
  congr 2
  omega
