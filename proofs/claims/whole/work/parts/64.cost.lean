/-! what a week costs -/
theorem nI_c5 {i : Nat} (h : i < 5) : ¬ (5 : Int32) ≤ nI i := by rw [show (5 : Int32) = nI 5 from rfl, nI_leI (by omega) (by omega)]; omega
theorem quart {k d : Nat} (hk : k < 2 ^ 31) (hd : d < 5) : (nI k >>> (((4 : Int32) * nI d) &&& 31)) &&& (15 : Int32) = nI (k / 2 ^ (4 * d) % 16) := by
  have e : (((4 : Int32) * nI d) &&& 31 : Int32) = nI (4 * d) := by
    have : ∀ d, d < 5 → (((4 : Int32) * nI d) &&& 31 : Int32) = nI (4 * d) := by decide +kernel
    exact this d hd
  have es : ((nI (4 * d)).toBitVec.smod 32).toNat = 4 * d := by
    have : ∀ d, d < 5 → ((nI (4 * d)).toBitVec.smod 32).toNat = 4 * d := by decide +kernel
    exact this d hd
  have hk2 : k / 2 ^ (4 * d) ≤ k := Nat.div_le_self k (2 ^ (4 * d))
  rw [e, pk_shrN hk (nI (4 * d)) (4 * d) es, pk_andN (by omega) 4 (by decide)]
def dysN (b : Nat) : Nat → Nat := itr (fun d a => if b / 2 ^ (4 * d) % 16 = 0 then a else a + 1) 0
theorem dysN_s (b d : Nat) : dysN b (d + 1) = if b / 2 ^ (4 * d) % 16 = 0 then dysN b d else dysN b d + 1 := rfl
theorem dysN_le (b : Nat) : ∀ d, dysN b d ≤ d
  | 0 => Nat.le_refl 0
  | d + 1 => by
    have := dysN_le b d
    rw [dysN_s]
    split <;> omega
def lasN (b : Nat) : Nat → Nat := itr (fun d a => a + b / 2 ^ (4 * d + 3) % 2) 0
def begN (b : Nat) : Nat → Nat := itr (fun d a => a + b / 2 ^ (4 * d) % 2) 0
theorem begN_s (b d : Nat) : begN b (d + 1) = begN b d + b / 2 ^ (4 * d) % 2 := rfl
theorem begN_le (b : Nat) : ∀ d, begN b d ≤ d
  | 0 => Nat.le_refl 0
  | d + 1 => by
    have := begN_le b d
    rw [begN_s]
    omega
theorem C_days {k : Nat} (hk : k < 2 ^ 31) : fX1_days (nI k) = some (nI (dysN k 5)) := by
  have hs : ∀ i, i < 5 → bX1_days_4 (nI k) (nI (dysN k i)) (nI i) = some (.inr (nI (dysN k (i + 1)), nI (i + 1))) := by
    intro i hi
    unfold bX1_days_4
    rw [if_neg (nI_c5 hi), quart hk hi, dysN_s]
    simp only [lt, nI_p1]
    have e : (nI (k / 2 ^ (4 * i) % 16) = (0 : Int32)) ↔ k / 2 ^ (4 * i) % 16 = 0 := by rw [show (0 : Int32) = nI 0 from rfl, nI_eq (by omega) (by omega)]
    by_cases h : k / 2 ^ (4 * i) % 16 = 0
    · rw [if_pos (e.mpr h), if_pos h]
    · rw [if_neg (fun q => h (e.mp q)), if_neg h]
  have he : bX1_days_4 (nI k) (nI (dysN k 5)) (nI 5) = some (.inl (nI (dysN k 5))) := by
    unfold bX1_days_4
    rw [if_pos (by decide)]
  unfold fX1_days
  rw [lp_at (body := fun a => bX1_days_4 (nI k) a.1 a.2) (a := ((0 : Int32), (0 : Int32))) (k := 600) (fun i => (nI (dysN k i), nI i)) 5 rfl hs he (by omega)]
  rfl
def costN (k : Int32) (b : Nat) : Nat := if k = 0 then dysN b 5 else if k = 1 then dysN b 5 + lasN b 5 else if k = 2 then dysN b 5 + begN b 5 else if k = 3 then dysN b 5 + lasN b 5 + 2 * bsm (b &&& 3840) 20 else if k = 4 then 20 - dysN b 5 - begN b 5 else 0
theorem M_costN (k : Int32) {b : Nat} (hb : b < 2 ^ 20) : fX7_costOf k (nI b) = some (nI (costN k b)) := by
  have hs1 : ∀ i, i < 5 → bX7_costOf_4 k (nI b) (nI (dysN b i)) (nI i) = some (.inr (nI (dysN b (i + 1)), nI (i + 1))) := by
    intro i hi
    unfold bX7_costOf_4
    rw [if_neg (nI_c5 hi), quart (by omega) hi, dysN_s]
    simp only [lt, nI_p1, nI_p0]
    have e : (nI (b / 2 ^ (4 * i) % 16) = (0 : Int32)) ↔ b / 2 ^ (4 * i) % 16 = 0 := by rw [show (0 : Int32) = nI 0 from rfl, nI_eq (by omega) (by omega)]
    by_cases h : b / 2 ^ (4 * i) % 16 = 0
    · rw [if_pos (e.mpr h), if_pos h]
    · rw [if_neg (fun q => h (e.mp q)), if_neg h]
  have he1 : bX7_costOf_4 k (nI b) (nI (dysN b 5)) (nI 5) = some (.inl (nI (dysN b 5))) := by
    unfold bX7_costOf_4
    rw [if_pos (by decide)]
  have hs2 : ∀ i, i < 5 → bX7_costOf_42 k (nI b) (nI (dysN b 5)) (nI (lasN b i)) (nI (begN b i)) (nI i) = some (.inr (nI (lasN b (i + 1)), nI (begN b (i + 1)), nI (i + 1))) := by
    intro i hi
    have e1 : lasN b (i + 1) = lasN b i + b / 2 ^ (4 * i + 3) % 2 := rfl
    unfold bX7_costOf_42
    rw [if_neg (nI_c5 hi), show (4 : Int32) = nI 4 from rfl, pk_mul, nI_p3, bit_at (by omega) (by omega), bit_at (by omega) (by omega), e1, begN_s]
    simp only [lt, nI_p1, nI_add]
  have he2 : bX7_costOf_42 k (nI b) (nI (dysN b 5)) (nI (lasN b 5)) (nI (begN b 5)) (nI 5) = some (.inl (nI (lasN b 5), nI (begN b 5))) := by
    unfold bX7_costOf_42
    rw [if_pos (by decide)]
  have hd := dysN_le b 5
  have hg := begN_le b 5
  unfold fX7_costOf costN
  rw [lp_at (body := fun a => bX7_costOf_4 k (nI b) a.1 a.2) (a := ((0 : Int32), (0 : Int32))) (k := 600) (fun i => (nI (dysN b i), nI i)) 5 rfl hs1 he1 (by omega), Option.bind_some, lp_at (body := fun a => bX7_costOf_42 k (nI b) (nI (dysN b 5)) a.1 a.2.1 a.2.2) (a := ((0 : Int32), (0 : Int32), (0 : Int32))) (k := 600) (fun i => (nI (lasN b i), nI (begN b i), nI i)) 5 rfl hs2 he2 (by omega), Option.bind_some]
  by_cases h0 : k = 0
  · rw [if_pos h0, if_pos h0]
  · rw [if_neg h0, if_neg h0]
    by_cases h1 : k = 1
    · rw [if_pos h1, if_pos h1, nI_add]
    · rw [if_neg h1, if_neg h1]
      by_cases h2 : k = 2
      · rw [if_pos h2, if_pos h2, nI_add]
      · rw [if_neg h2, if_neg h2]
        by_cases h3 : k = 3
        · have hb2 : b &&& 3840 ≤ b := Nat.and_le_left
          rw [if_pos h3, if_pos h3, show (3840 : Int32) = nI 3840 from rfl, nI_and, M_bits (by omega), Option.bind_some, nI_add, show (2 : Int32) = nI 2 from rfl, pk_mul, nI_add]
        · rw [if_neg h3, if_neg h3]
          by_cases h4 : k = 4
          · rw [if_pos h4, if_pos h4, show (20 : Int32) = nI 20 from rfl, pk_sub (by omega), pk_sub (by omega)]
          · rw [if_neg h4, if_neg h4]; rfl
theorem cn_8 : ∀ a, a < 16 → cn4 (a &&& 8) = a / 8 % 2 := by decide +kernel
theorem cn_1 : ∀ a, a < 16 → cn4 (a &&& 1) = a % 2 := by decide +kernel
theorem and_lt16 (a m : Nat) (h : a < 16) : a &&& m < 16 := Nat.lt_of_le_of_lt Nat.and_le_left h
theorem las_4 {a b : Nat} (ha : a < 16) : ∀ m, lasN (a + 16 * b) (m + 1) = a / 8 % 2 + lasN b m
  | 0 => by
    show 0 + (a + 16 * b) / 2 ^ 3 % 2 = a / 8 % 2 + 0
    omega
  | m + 1 => by
    have e1 : lasN (a + 16 * b) (m + 1 + 1) = lasN (a + 16 * b) (m + 1) + (a + 16 * b) / 2 ^ (4 * (m + 1) + 3) % 2 := rfl
    have e2 : lasN b (m + 1) = lasN b m + b / 2 ^ (4 * m + 3) % 2 := rfl
    have e3 : (a + 16 * b) / 2 ^ (4 * (m + 1) + 3) = b / 2 ^ (4 * m + 3) := by
      rw [show 4 * (m + 1) + 3 = 4 + (4 * m + 3) by omega, Nat.pow_add, ← Nat.div_div_eq_div_mul]
      congr 1
      omega
    rw [e1, e2, e3, las_4 ha m]
    omega
theorem beg_4 {a b : Nat} (ha : a < 16) : ∀ m, begN (a + 16 * b) (m + 1) = a % 2 + begN b m
  | 0 => by
    show 0 + (a + 16 * b) / 2 ^ 0 % 2 = a % 2 + 0
    omega
  | m + 1 => by
    have e1 : begN (a + 16 * b) (m + 1 + 1) = begN (a + 16 * b) (m + 1) + (a + 16 * b) / 2 ^ (4 * (m + 1)) % 2 := rfl
    have e2 : begN b (m + 1) = begN b m + b / 2 ^ (4 * m) % 2 := rfl
    have e3 : (a + 16 * b) / 2 ^ (4 * (m + 1)) = b / 2 ^ (4 * m) := by
      rw [show 4 * (m + 1) = 4 + 4 * m by omega, Nat.pow_add, ← Nat.div_div_eq_div_mul]
      congr 1
      omega
    rw [e1, e2, e3, beg_4 ha m]
    omega
theorem las_bits {b : Nat} (hb : b < 2 ^ 20) : bsm (b &&& 559240) 20 = lasN b 5 := by
  obtain ⟨a, b1, c, d, e, ha, hb1, hc, hd, he, rfl⟩ := five hb
  have h8 : (559240 : Nat) = 8 + 16 * (8 + 16 * (8 + 16 * (8 + 16 * (8 + 16 * 0)))) := by decide
  have h0 : lasN e 1 = e / 8 % 2 := by
    have := las_4 (b := 0) he 0
    rw [Nat.mul_zero, Nat.add_zero] at this
    exact this
  have h1 : lasN (mk5 a b1 c d e) 5 = a / 8 % 2 + (b1 / 8 % 2 + (c / 8 % 2 + (d / 8 % 2 + e / 8 % 2))) := by
    unfold mk5
    rw [las_4 ha 4, las_4 hb1 3, las_4 hc 2, las_4 hd 1, h0]
  rw [h1, h8, land5 ha hb1 hc hd he (by omega) (by omega) (by omega) (by omega) (by omega), bsm5 (and_lt16 _ _ ha) (and_lt16 _ _ hb1) (and_lt16 _ _ hc) (and_lt16 _ _ hd) (and_lt16 _ _ he), cn_8 a ha, cn_8 b1 hb1, cn_8 c hc, cn_8 d hd, cn_8 e he]
  omega
theorem beg_bits {b : Nat} (hb : b < 2 ^ 20) : bsm (b &&& 69905) 20 = begN b 5 := by
  obtain ⟨a, b1, c, d, e, ha, hb1, hc, hd, he, rfl⟩ := five hb
  have h8 : (69905 : Nat) = 1 + 16 * (1 + 16 * (1 + 16 * (1 + 16 * (1 + 16 * 0)))) := by decide
  have h0 : begN e 1 = e % 2 := by
    have := beg_4 (b := 0) he 0
    rw [Nat.mul_zero, Nat.add_zero] at this
    exact this
  have h1 : begN (mk5 a b1 c d e) 5 = a % 2 + (b1 % 2 + (c % 2 + (d % 2 + e % 2))) := by
    unfold mk5
    rw [beg_4 ha 4, beg_4 hb1 3, beg_4 hc 2, beg_4 hd 1, h0]
  rw [h1, h8, land5 ha hb1 hc hd he (by omega) (by omega) (by omega) (by omega) (by omega), bsm5 (and_lt16 _ _ ha) (and_lt16 _ _ hb1) (and_lt16 _ _ hc) (and_lt16 _ _ hd) (and_lt16 _ _ he), cn_1 a ha, cn_1 b1 hb1, cn_1 c hc, cn_1 d hd, cn_1 e he]
  omega
theorem C_priceN (k : Int32) {b : Nat} (hb : b < 2 ^ 20) : fX1_price k (nI b) = some (nI (costN k b)) := by
  have hd := dysN_le b 5
  have hg := begN_le b 5
  have b1 : b &&& 559240 ≤ b := Nat.and_le_left
  have b2 : b &&& 69905 ≤ b := Nat.and_le_left
  have b3 : b &&& 3840 ≤ b := Nat.and_le_left
  unfold fX1_price costN
  simp only [lt]
  rw [show (559240 : Int32) = nI 559240 from rfl, show (69905 : Int32) = nI 69905 from rfl, show (3840 : Int32) = nI 3840 from rfl, nI_and, nI_and, nI_and, C_days (by omega), Option.bind_some, C_bitCount (by omega), Option.bind_some, Option.bind_some, C_bitCount (by omega), Option.bind_some, C_bitCount (by omega), las_bits hb, beg_bits hb]
  by_cases h0 : k = 0
  · rw [if_pos h0, if_pos h0]; rfl
  · rw [if_neg h0, if_neg h0]
    by_cases h1 : k = 1
    · rw [if_pos h1, if_pos h1, nI_add]
    · rw [if_neg h1, if_neg h1]
      by_cases h2 : k = 2
      · rw [if_pos h2, if_pos h2, nI_add]
      · rw [if_neg h2, if_neg h2]
        by_cases h3 : k = 3
        · rw [if_pos h3, if_pos h3, Option.bind_some, nI_add, show (2 : Int32) = nI 2 from rfl, pk_mul, nI_add]
        · rw [if_neg h3, if_neg h3]
          by_cases h4 : k = 4
          · rw [if_pos h4, if_pos h4, show (20 : Int32) = nI 20 from rfl, nI_add, pk_sub (by omega)]
            congr 2; omega
          · rw [if_neg h4, if_neg h4]; rfl
def costI (k x : Int32) : Int32 := nI (costN k x.toNatClampNeg)
def bitI (x : Int32) : Int32 := nI (bsm x.toNatClampNeg 20)
theorem C_price (k : Int32) {x : Int32} (h : hr x) : fX1_price k x = some (costI k x) := by
  obtain ⟨b, hb, rfl⟩ := h
  unfold costI
  rw [nI_clamp (by omega)]; exact C_priceN k hb
theorem M_cost (k : Int32) {x : Int32} (h : hr x) : fX7_costOf k x = some (costI k x) := by
  obtain ⟨b, hb, rfl⟩ := h
  unfold costI
  rw [nI_clamp (by omega)]; exact M_costN k hb
theorem C_bitI {x : Int32} (h : hr x) : fJ6_bitCount_0f7a4 x = some (bitI x) := by
  obtain ⟨b, hb, rfl⟩ := h
  unfold bitI
  rw [nI_clamp (by omega)]; exact C_bitCount hb
theorem M_bitI {x : Int32} (h : hr x) : fX7_bits x = some (bitI x) := by
  obtain ⟨b, hb, rfl⟩ := h
  unfold bitI
  rw [nI_clamp (by omega)]; exact M_bits (by omega)
