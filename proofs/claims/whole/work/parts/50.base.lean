/-! the pure side: numbers, loops, what both sides mean -/
theorem gd_in {α : Type} {i n : Nat} {x : Option α} (h : i < n) (hn : n < 2 ^ 31) : gd (nI i) n x = x := by
  unfold gd
  rw [if_neg (nI_in h hn)]
theorem gd_i {α : Type} {v : Int32} {i n : Nat} {x : Option α} (hv : v = nI i) (h : i < n) (hn : n < 2 ^ 31) : gd v n x = x := by
  rw [hv]; exact gd_in h hn
/-- loops: a sequence of states -/
theorem lp_iter {α β : Type} {body : α → Option (β ⊕ α)} (st : Nat → α) (n : Nat) {b : β} (hs : ∀ i, i < n → body (st i) = some (.inr (st (i + 1)))) (he : body (st n) = some (.inl b)) {k : Nat} (hk : n < k) : lp body k (st 0) = some b := by
  have key : ∀ (m i k : Nat), i + m = n → m < k → lp body k (st i) = some b := by
    intro m
    induction m with
    | zero =>
      intro i k hi hk
      obtain ⟨k', rfl⟩ : ∃ k', k = k' + 1 := ⟨k - 1, by omega⟩
      obtain rfl : i = n := by omega
      show (body (st i)).bind _ = _
      rw [he]
      rfl
    | succ m ih =>
      intro i k hi hk
      obtain ⟨k', rfl⟩ : ∃ k', k = k' + 1 := ⟨k - 1, by omega⟩
      show (body (st i)).bind _ = _
      rw [hs i (by omega)]
      exact ih (i + 1) k' (by omega) (by omega)
  exact key n 0 k (by omega) hk
/-- fold forward -/
def itr {α : Type} (f : Nat → α → α) (a : α) : Nat → α
  | 0 => a
  | n + 1 => f n (itr f a n)
def bi (b : Bool) : Int32 := if b then 1 else 0
theorem bi_01 (b : Bool) : bi b = 0 ∨ bi b = 1 := by cases b <;> decide
theorem bi_t : bi true = 1 := rfl
theorem bi_f : bi false = 0 := rfl
theorem gz_bi {α : Type} {b : Bool} {x : Option α} : gz (bi b) x = x := by unfold gz; rw [if_pos (bi_01 b)]
theorem bi_ite {p : Prop} [Decidable p] : (if p then some (1 : Int32) else some (0 : Int32)) = some (bi (decide p)) := by
  by_cases h : p <;> simp [h, bi]
theorem bi_eq0 {b : Bool} : (bi b = 0) ↔ b = false := by cases b <;> decide
theorem bi_n0 {α : Type} {b : Bool} {x y : α} : (if bi b = (0 : Int32) then x else y) = if b = true then y else x := by cases b <;> rfl
theorem nI_lit (n : Nat) : nI n = Int32.ofNat n := rfl
theorem nI_p0 (a : Nat) : nI a + (0 : Int32) = nI a := by rw [show (0 : Int32) = nI 0 from rfl, nI_add, Nat.add_zero]
theorem nI_p1 (a : Nat) : nI a + (1 : Int32) = nI (a + 1) := by rw [show (1 : Int32) = nI 1 from rfl, nI_add]
theorem nI_p2 (a : Nat) : nI a + (2 : Int32) = nI (a + 2) := by rw [show (2 : Int32) = nI 2 from rfl, nI_add]
theorem nI_p3 (a : Nat) : nI a + (3 : Int32) = nI (a + 3) := by rw [show (3 : Int32) = nI 3 from rfl, nI_add]
theorem nI_p4 (a : Nat) : nI a + (4 : Int32) = nI (a + 4) := by rw [show (4 : Int32) = nI 4 from rfl, nI_add]
/-- which section of a sort a triple has -/
def prt (t so : Nat) : Nat := if so = 0 then t / 4 else if so = 1 then t / 2 % 2 else t % 2
theorem prt_lt : ∀ t, t < 8 → ∀ so, so < 3 → prt t so < 2 := by decide +kernel
theorem M_part : ∀ t, t < 8 → ∀ so, so < 3 → fX7_part (nI t) (nI so) = some (nI (prt t so)) := by decide +kernel
theorem C_part : ∀ t, t < 8 → ∀ so, so < 3 → fX0_partOf (nI t) (nI so) = some (nI (prt t so)) := by decide +kernel
theorem M_at : ∀ c, c < 4 → ∀ so, so < 3 → ∀ w, w < 2 → fX7_at (nI c) (nI so) (nI w) = some (nI (24 * c + 8 * so + 4 * w)) := by decide +kernel
def opn (g : Nat → Int32) (c so w : Nat) : Bool := decide (g (24 * c + 8 * so + 4 * w) = 1)
def anyO (g : Nat → Int32) (c so : Nat) : Bool := opn g c so 0 || opn g c so 1
theorem ixM : ∀ c, c < 4 → ∀ so, so < 3 → ∀ w, w < 2 → ∀ j, j < 4 → 24 * c + 8 * so + 4 * w + j < 96 := by intros; omega
theorem M_isOpen (s : Mem) {c so w : Nat} (hc : c < 4) (hs : so < 3) (hw : w < 2) : fX7_isOpen s (nI c) (nI so) (nI w) = some (bi (opn (s.1 20) c so w)) := by
  unfold fX7_isOpen
  rw [M_at c hc so hs w hw]
  have e : nI (24 * c + 8 * so + 4 * w) + (0 : Int32) = nI (24 * c + 8 * so + 4 * w) := nI_p0 _
  show gd (nI (24 * c + 8 * so + 4 * w) + (0 : Int32)) 139 _ = _
  rw [e, gd_in (by omega) (by omega), nI_clamp (by omega), bi_ite]
  rfl
theorem M_isAny (s : Mem) {c so : Nat} (hc : c < 4) (hs : so < 3) : fX7_isAny s (nI c) (nI so) = some (bi (anyO (s.1 20) c so)) := by
  unfold fX7_isAny
  have h0 := M_isOpen s hc hs (w := 0) (by omega)
  have h1 := M_isOpen s hc hs (w := 1) (by omega)
  rw [show (0 : Int32) = nI 0 from rfl, show (1 : Int32) = nI 1 from rfl, h0, h1]
  unfold anyO
  cases opn (s.1 20) c so 0 <;> cases opn (s.1 20) c so 1 <;> rfl
theorem M_counts (s : Mem) {c t so : Nat} (hc : c < 4) (ht : t < 8) (hs : so < 3) : fX7_counts s (nI c) (nI t) (nI so) = some (bi (opn (s.1 20) c so (prt t so))) := by
  unfold fX7_counts
  rw [M_part t ht so hs]
  show (fX7_isOpen s (nI c) (nI so) (nI (prt t so))).bind _ = _
  rw [M_isOpen s hc hs (prt_lt t ht so hs)]
  show gz _ _ = _
  rw [gz_bi]
def lnk (g : Nat → Int32) (c so w : Nat) : Int32 := g (24 * c + 8 * so + 4 * w + 3)
def goesG (g : Nat → Int32) (c t so : Nat) : Bool := if anyO g c so then opn g c so (prt t so) && (decide (so = 0) || decide (lnk g c so (prt t so) < 0) || decide (lnk g c so (prt t so) = nI (prt t 0))) else decide (0 < so) && decide (prt t so = 0)
def tmG (g : Nat → Int32) (c t so : Nat) : Int32 := if opn g c so (prt t so) then g (24 * c + 8 * so + 4 * prt t so + 1) else 0
def timeG (g : Nat → Int32) (c t : Nat) : Int32 := tmG g c t 0 ||| tmG g c t 1 ||| tmG g c t 2
def lawG (g : Nat → Int32) (c t : Nat) : Bool := goesG g c t 0 && goesG g c t 1 && goesG g c t 2 && (decide (tmG g c t 0 &&& tmG g c t 1 = 0) && (decide (tmG g c t 0 &&& tmG g c t 2 = 0) && decide (tmG g c t 1 &&& tmG g c t 2 = 0)))
theorem M_timeOf (s : Mem) {c t so : Nat} (hc : c < 4) (ht : t < 8) (hs : so < 3) : fX7_timeOf s (nI c) (nI t) (nI so) = some (tmG (s.1 20) c t so) := by
  have hp := prt_lt t ht so hs
  have e1 : nI (24 * c + 8 * so + 4 * prt t so) + (1 : Int32) = nI (24 * c + 8 * so + 4 * prt t so + 1) := nI_p1 _
  have h3 : gd (nI (24 * c + 8 * so + 4 * prt t so + 1)) 139 (some (s.1 20 (nI (24 * c + 8 * so + 4 * prt t so + 1)).toNatClampNeg)) = some (s.1 20 (24 * c + 8 * so + 4 * prt t so + 1)) := by
    rw [gd_in (by omega) (by omega), nI_clamp (by omega)]
  unfold fX7_timeOf
  rw [M_counts s hc ht hs, Option.bind_some, bi_n0, M_part t ht so hs, Option.bind_some, M_at c hc so hs _ hp, Option.bind_some, e1, h3]
  unfold tmG
  generalize s.1 20 (24 * c + 8 * so + 4 * prt t so + 1) = k
  cases opn (s.1 20) c so (prt t so) <;> rfl
theorem M_time (s : Mem) {c t : Nat} (hc : c < 4) (ht : t < 8) : fX7_timeOf_ s (nI c) (nI t) = some (timeG (s.1 20) c t) := by
  unfold fX7_timeOf_ timeG
  have h0 := M_timeOf s hc ht (so := 0) (by omega)
  have h1 := M_timeOf s hc ht (so := 1) (by omega)
  have h2 := M_timeOf s hc ht (so := 2) (by omega)
  rw [show (0 : Int32) = nI 0 from rfl, show (1 : Int32) = nI 1 from rfl, show (2 : Int32) = nI 2 from rfl, h0, h1, h2]
  rfl
theorem M_goes (s : Mem) {c t so : Nat} (hc : c < 4) (ht : t < 8) (hs : so < 3) : fX7_goes s (nI c) (nI t) (nI so) = some (bi (goesG (s.1 20) c t so)) := by
  unfold fX7_goes goesG lnk
  have hp := prt_lt t ht so hs
  have e : nI (24 * c + 8 * so + 4 * prt t so) + (3 : Int32) = nI (24 * c + 8 * so + 4 * prt t so + 3) := nI_p3 _
  have h0 := M_part t ht 0 (by omega)
  rw [show nI 0 = (0 : Int32) from rfl] at h0
  simp only [M_part t ht so hs, M_isAny s hc hs, Option.bind_some, bi_n0, M_at c hc so hs _ hp, e, M_isOpen s hc hs hp, h0, lt]
  rw [gd_in (by omega) (by omega), nI_clamp (by omega)]
  have e1 : (nI so ≤ (0 : Int32)) ↔ so = 0 := by
    rw [show (0 : Int32) = nI 0 from rfl, nI_leI (by omega) (by omega)]; omega
  have e2 : (nI (prt t so) = (0 : Int32)) ↔ prt t so = 0 := by
    rw [show (0 : Int32) = nI 0 from rfl, nI_eq (by omega) (by omega)]
  have e3 : (nI so = (0 : Int32)) ↔ so = 0 := by
    rw [show (0 : Int32) = nI 0 from rfl, nI_eq (by omega) (by omega)]
  simp only [e1, e2, e3]
  generalize s.1 20 (24 * c + 8 * so + 4 * prt t so + 3) = k
  cases anyO (s.1 20) c so
  · by_cases h : so = 0
    · simp [h, bi]
    · by_cases h2 : prt t so = 0
      · simp [h, h2, bi, Nat.pos_of_ne_zero h]
      · simp [h, h2, bi]
  · cases opn (s.1 20) c so (prt t so)
    · simp [bi]
    · by_cases h : so = 0
      · simp [h, bi]
      · by_cases h2 : k < 0
        · simp [h, h2, bi]
        · by_cases h3 : k = nI (prt t 0)
          · simp [h, h2, h3, bi]
          · simp [h, h2, h3, bi]
