/-! the seatings of a course: what both mean; the class's small parts -/
abbrev St := Nat × (Nat → Nat)
abbrev SCx := Nat × (Nat → Nat → Bool) × (Nat → Nat) × (Nat → Nat → Nat) × (Nat → Bool) × Int × Int × Int
def cN (c : SCx) : Nat := c.1
def cAl (c : SCx) : Nat → Nat → Bool := c.2.1
def cH (c : SCx) : Nat → Nat := c.2.2.1
def cK (c : SCx) : Nat → Nat → Nat := c.2.2.2.1
def cP (c : SCx) : Nat → Bool := c.2.2.2.2.1
def cS (c : SCx) : Int := c.2.2.2.2.2.1
def cG (c : SCx) : Int := c.2.2.2.2.2.2.1
def cM (c : SCx) : Int := c.2.2.2.2.2.2.2
def iI (v : Int) : Int32 := Int32.ofInt v
theorem iI_n (n : Nat) : nI n = iI (n : Int) := Int32.ofInt_eq_ofNat.symm
theorem iI_add (a b : Int) : iI a + iI b = iI (a + b) := (Int32.ofInt_add a b).symm
theorem iI_sub (a b : Int) : iI a - iI b = iI (a - b) := (Int32.ofInt_sub a b).symm
theorem iI_mul (a b : Int) : iI a * iI b = iI (a * b) := (Int32.ofInt_mul a b).symm
theorem iI_neg (a : Int) : -iI a = iI (-a) := (Int32.ofInt_neg a).symm
theorem iI_t {v : Int} (h1 : -2147483648 ≤ v) (h2 : v < 2147483648) : (iI v).toInt = v := Int32.toInt_ofInt_of_le (by omega) (by omega)
theorem iI_eq {a b : Int} (ha : -2147483648 ≤ a ∧ a < 2147483648) (hb : -2147483648 ≤ b ∧ b < 2147483648) : (iI a = iI b) ↔ a = b := by
  constructor
  · intro h
    have := congrArg Int32.toInt h
    rw [iI_t ha.1 ha.2, iI_t hb.1 hb.2] at this
    exact this
  · intro h; rw [h]
def stA (st : St) (t : Nat) : St := (st.1 + 1, fun so => st.2 so + prt t so)
def hl (K1 K0 s x : Nat) : Bool := decide (x ≤ K1) && decide (s - x ≤ K0)
def hld (c : SCx) (st : St) (so : Nat) : Bool := hl (cK c so 1) (cK c so 0) st.1 (st.2 so)
def hold (c : SCx) (st : St) : Bool := hld c st 0 && (hld c st 1 && hld c st 2)
def gp (p : Bool) (s x : Nat) : Nat := if p then ((s : Int) - 2 * (x : Int)).natAbs else 0
def gapS (c : SCx) (st : St) : Nat := gp (cP c 0) st.1 (st.2 0) + gp (cP c 1) st.1 (st.2 1) + gp (cP c 2) st.1 (st.2 2)
def joinC (c : SCx) (k dg : Nat) : Int := (if dg = 0 then 0 else cS c) - (if cH c k = 0 ∨ cH c k = dg then 0 else cM c)
def ext (v : Int) (dg : Nat) : Option (Int × List Nat) → Option (Int × List Nat)
  | none => none
  | some u => some (v + u.1, dg :: u.2)
def pck (a b : Option (Int × List Nat)) : Option (Int × List Nat) := match a, b with
  | none, b => b
  | some a, none => some a
  | some a, some b => if a.1 < b.1 then some b else some a
def thr0 (c : SCx) (k : Nat) (f : St → Option (Int × List Nat)) (st : St) (dg : Nat) : Option (Int × List Nat) := if dg = 0 then ext (joinC c k 0) 0 (f st) else if hold c (stA st (dg - 1)) then ext (joinC c k dg) dg (f (stA st (dg - 1))) else none
def thrB (c : SCx) (k : Nat) (f : St → Option (Int × List Nat)) (st : St) (dg : Nat) : Option (Int × List Nat) := if cAl c k dg then thr0 c k f st dg else none
def foldB (c : SCx) (k : Nat) (f : St → Option (Int × List Nat)) (st : St) : Nat → Option (Int × List Nat) := itr (fun dg a => pck a (thrB c k f st dg)) none
theorem foldB_s (c : SCx) (k : Nat) (f : St → Option (Int × List Nat)) (st : St) (i : Nat) : foldB c k f st (i + 1) = pck (foldB c k f st i) (thrB c k f st i) := itr_s (fun dg a => pck a (thrB c k f st dg)) none i
/-- the first best of the rest, r pupils being left -/
def best (c : SCx) : Nat → St → Option (Int × List Nat)
  | 0, st => some (-(cG c) * (gapS c st : Int), [])
  | r + 1, st => foldB c (cN c - (r + 1)) (best c r) st 9
def thrN (c : SCx) (k : Nat) (f : St → Nat) (st : St) (dg : Nat) : Nat := if cAl c k dg then (if dg = 0 then f st else if hold c (stA st (dg - 1)) then f (stA st (dg - 1)) else 0) else 0
def foldN (c : SCx) (k : Nat) (f : St → Nat) (st : St) : Nat → Nat := itr (fun dg a => a + thrN c k f st dg) 0
theorem foldN_s (c : SCx) (k : Nat) (f : St → Nat) (st : St) (i : Nat) : foldN c k f st (i + 1) = foldN c k f st i + thrN c k f st i := itr_s (fun dg a => a + thrN c k f st dg) 0 i
/-- how many rests there are -/
def cnt (c : SCx) : Nat → St → Nat
  | 0, _ => 1
  | r + 1, st => foldN c (cN c - (r + 1)) (cnt c r) st 9
def encB : Option (Int × List Nat) → Int32
  | none => -1000000000
  | some u => iI u.1
/-- the class's place in its table -/
def lyr (k : Nat) : Nat := [0, 1, 10, 46, 146, 371, 812, 1596].getD k 0
def blk (s : Nat) : Nat := [0, 1, 9, 36, 100, 225, 441, 784].getD s 0
def plc (k : Nat) (st : St) : Nat := lyr k + blk st.1 + (st.2 0 * (st.1 + 1) + st.2 1) * (st.1 + 1) + st.2 2
theorem lay_c : ∀ k, k < 7 → LAYf k = nI (lyr k) := by decide +kernel
theorem blk_c : ∀ s, s < 7 → BLKf s = nI (blk s) := by decide +kernel
theorem lay_blk : ∀ k, k < 7 → ∀ s, s < k + 1 → lyr k + blk (s + 1) ≤ lyr (k + 1) := by decide +kernel
theorem lay_mono : ∀ k, k < 7 → ∀ j, j < k + 1 → lyr j ≤ lyr k := by decide +kernel
theorem blk_mono : ∀ k, k < 8 → ∀ j, j < k + 1 → blk j ≤ blk k := by decide +kernel
theorem lay_7 : lyr 7 = 1596 := by decide
theorem lay_le : ∀ k, k < 7 → lyr (k + 1) ≤ 1596 := by decide +kernel
def inS (st : St) : Prop := st.2 0 ≤ st.1 ∧ st.2 1 ≤ st.1 ∧ st.2 2 ≤ st.1
theorem pl_in {s l b d : Nat} (hs : s < 7) (h0 : l ≤ s) (h1 : b ≤ s) (h2 : d ≤ s) : blk s + (l * (s + 1) + b) * (s + 1) + d < blk (s + 1) := by
  obtain rfl | rfl | rfl | rfl | rfl | rfl | rfl : s = 0 ∨ s = 1 ∨ s = 2 ∨ s = 3 ∨ s = 4 ∨ s = 5 ∨ s = 6 := by omega
  all_goals simp only [blk, List.getD_cons_succ, List.getD_cons_zero]; omega
theorem pl_inj {s l b d l' b' d' : Nat} (hs : s < 7) (h0 : l ≤ s) (h1 : b ≤ s) (h2 : d ≤ s) (k0 : l' ≤ s) (k1 : b' ≤ s) (k2 : d' ≤ s) (e : (l * (s + 1) + b) * (s + 1) + d = (l' * (s + 1) + b') * (s + 1) + d') : l = l' ∧ b = b' ∧ d = d' := by
  obtain rfl | rfl | rfl | rfl | rfl | rfl | rfl : s = 0 ∨ s = 1 ∨ s = 2 ∨ s = 3 ∨ s = 4 ∨ s = 5 ∨ s = 6 := by omega
  all_goals omega
theorem plc_lt {k : Nat} {st : St} (hk : k < 7) (hs : st.1 ≤ k) (h : inS st) : plc k st < lyr (k + 1) := by
  have h1 := lay_blk k hk st.1 (by omega)
  have h2 := pl_in (s := st.1) (by omega) h.1 h.2.1 h.2.2
  unfold plc
  omega
theorem plc_ge {k : Nat} {st : St} : lyr k ≤ plc k st := by unfold plc; omega
theorem plc_1596 {k : Nat} {st : St} (hk : k < 7) (hs : st.1 ≤ k) (h : inS st) : plc k st < 1596 := Nat.lt_of_lt_of_le (plc_lt hk hs h) (lay_le k hk)
theorem plc_k {k k' : Nat} {st st' : St} (hk : k < 7) (hk' : k' < 7) (hs : st.1 ≤ k) (hs' : st'.1 ≤ k') (h : inS st) (h' : inS st') (e : plc k st = plc k' st') : k = k' := by
  have a1 := plc_lt hk hs h
  have a2 := plc_lt hk' hs' h'
  have b1 := plc_ge (k := k) (st := st)
  have b2 := plc_ge (k := k') (st := st')
  by_cases q : k < k'
  · have := lay_mono k' hk' (k + 1) (by omega); omega
  · by_cases q2 : k' < k
    · have := lay_mono k hk (k' + 1) (by omega); omega
    · omega
theorem plc_inj {k k' : Nat} {st st' : St} (hk : k < 7) (hk' : k' < 7) (hs : st.1 ≤ k) (hs' : st'.1 ≤ k') (h : inS st) (h' : inS st') (e : plc k st = plc k' st') : k = k' ∧ st.1 = st'.1 ∧ st.2 0 = st'.2 0 ∧ st.2 1 = st'.2 1 ∧ st.2 2 = st'.2 2 := by
  have ek := plc_k hk hk' hs hs' h h' e
  subst ek
  have a1 := pl_in (s := st.1) (by omega) h.1 h.2.1 h.2.2
  have a2 := pl_in (s := st'.1) (by omega) h'.1 h'.2.1 h'.2.2
  have es : st.1 = st'.1 := by
    unfold plc at e
    by_cases q : st.1 < st'.1
    · have := blk_mono st'.1 (by omega) (st.1 + 1) (by omega); omega
    · by_cases q2 : st'.1 < st.1
      · have := blk_mono st.1 (by omega) (st'.1 + 1) (by omega); omega
      · omega
  refine ⟨rfl, es, ?_⟩
  unfold plc at e
  rw [← es] at e
  obtain ⟨h'1, h'2, h'3⟩ := h'
  rw [← es] at h'1 h'2 h'3
  exact pl_inj (s := st.1) (by omega) h.1 h.2.1 h.2.2 h'1 h'2 h'3 (by omega)
theorem C_place {k : Nat} {st : St} (hk : k < 7) (hs : st.1 ≤ k) (h : inS st) : fX3_place (nI k) (nI st.1) (nI (st.2 0)) (nI (st.2 1)) (nI (st.2 2)) = some (nI (plc k st)) := by
  unfold fX3_place plc
  rw [gd_in (by omega) (by omega), gd_in (by omega) (by omega), nI_clamp (by omega), nI_clamp (by omega), lay_c k hk, blk_c st.1 (by omega), nI_p1, nI_add, pk_mul, nI_add, pk_mul, nI_add, nI_add]
/-- what stands in the class's rows for a search -/
def SeatM (m : Mem) (c : SCx) (md : Int32) : Prop := cN c ≤ 6 ∧ m.1 5 6 = nI (cN c) ∧ m.1 5 8 = md ∧ (md = 0 → m.1 5 9 = iI (cS c) ∧ m.1 5 10 = iI (cG c) ∧ m.1 5 11 = iI (cM c)) ∧ (∀ k, k < cN c → ∀ dg, dg < 9 → (((m.1 7 k >>> (nI dg &&& 31)) &&& (1 : Int32)) = 0 ↔ cAl c k dg = false)) ∧ (∀ k, k < cN c → m.1 8 k = nI (cH c k) ∧ cH c k < 9) ∧ (∀ so, so < 3 → ∀ w, w < 2 → m.1 10 (2 * so + w) = nI (cK c so w) ∧ cK c so w ≤ 9) ∧ (∀ so, so < 3 → m.1 11 so = bi (cP c so)) ∧ (0 ≤ cS c ∧ cS c ≤ 10000) ∧ (0 ≤ cG c ∧ cG c ≤ 100) ∧ (0 ≤ cM c ∧ cM c ≤ 1)
theorem nI_mul2 (so : Nat) : (2 : Int32) * nI so = nI (2 * so) := by rw [show (2 : Int32) = nI 2 from rfl, pk_mul]
theorem C_held {m : Mem} {c : SCx} {md : Int32} (hM : SeatM m c md) {so s x : Nat} (hs : so < 3) (h7 : s ≤ 7) (hx : x ≤ s) : fX3_held m (nI so) (nI s) (nI x) = some (bi (hl (cK c so 1) (cK c so 0) s x)) := by
  obtain ⟨-, -, -, -, -, -, h, -⟩ := hM
  obtain ⟨e1, b1⟩ := h so hs 1 (by omega)
  obtain ⟨e0, b0⟩ := h so hs 0 (by omega)
  rw [Nat.add_zero] at e0
  unfold fX3_held hl
  rw [nI_mul2, nI_p1, gd_in (by omega) (by omega), gd_in (by omega) (by omega), nI_clamp (by omega), nI_clamp (by omega), e1, e0, pk_sub hx]
  have k1 : (nI (cK c so 1) < nI x) ↔ cK c so 1 < x := nI_ltI (by omega) (by omega)
  have k0 : (nI (cK c so 0) < nI (s - x)) ↔ cK c so 0 < s - x := nI_ltI (by omega) (by omega)
  simp only [k1, k0]
  by_cases q1 : cK c so 1 < x
  · rw [if_pos q1, decide_eq_false (by omega)]; rfl
  · rw [if_neg q1, decide_eq_true (by omega : x ≤ cK c so 1)]
    by_cases q0 : cK c so 0 < s - x
    · rw [if_pos q0, decide_eq_false (by omega)]; rfl
    · rw [if_neg q0, decide_eq_true (by omega : s - x ≤ cK c so 0)]; rfl
theorem abI_nat {a b : Nat} (ha : a < 1000) (hb : b < 1000) : abI (nI a - nI b) = nI ((a : Int) - (b : Int)).natAbs := by
  have e : nI a - nI b = iI ((a : Int) - b) := by rw [iI_n, iI_n, iI_sub]
  rw [e, iI_n]
  unfold abI
  have t : (iI ((a : Int) - b)).toInt = (a : Int) - b := iI_t (by omega) (by omega)
  by_cases q : (0 : Int) ≤ (a : Int) - b
  · rw [if_pos (by rw [i32_le, t]; exact q)]; congr 1; omega
  · rw [if_neg (by rw [i32_le, t]; exact q), show (0 : Int32) = iI 0 from rfl, iI_sub]; congr 1; omega
theorem C_gap {m : Mem} {c : SCx} {md : Int32} (hM : SeatM m c md) {so s x : Nat} (hs : so < 3) (h7 : s ≤ 7) (hx : x ≤ 7) : fX3_gap m (nI so) (nI s) (nI x) = some (nI (gp (cP c so) s x)) := by
  obtain ⟨-, -, -, -, -, -, -, h, -⟩ := hM
  unfold fX3_gap gp
  rw [gd_in hs (by omega), nI_clamp (by omega), h so hs, bi_n0, nI_mul2, abI_nat (by omega) (by omega)]
  cases cP c so
  · rfl
  · rw [if_pos rfl, if_pos rfl]
    congr 3
theorem gp_le {p : Bool} {s x : Nat} (h : x ≤ s) : gp p s x ≤ s := by
  unfold gp
  split <;> omega
theorem C_atEnd {m : Mem} {c : SCx} (hM : SeatM m c 0) {st : St} (hs : st.1 ≤ 6) (h : inS st) : fX3_atEnd m (nI st.1) (nI (st.2 0)) (nI (st.2 1)) (nI (st.2 2)) = some (encB (best c 0 st)) := by
  have g0 := C_gap hM (so := 0) (s := st.1) (x := st.2 0) (by omega) (by omega) (by have := h.1; omega)
  have g1 := C_gap hM (so := 1) (s := st.1) (x := st.2 1) (by omega) (by omega) (by have := h.2.1; omega)
  have g2 := C_gap hM (so := 2) (s := st.1) (x := st.2 2) (by omega) (by omega) (by have := h.2.2; omega)
  obtain ⟨-, -, e8, hw, -⟩ := hM
  obtain ⟨-, e10, -⟩ := hw rfl
  unfold fX3_atEnd
  rw [e8, if_pos rfl, show (0 : Int32) = nI 0 from rfl, show (1 : Int32) = nI 1 from rfl, show (2 : Int32) = nI 2 from rfl, g0, g1, g2, Option.bind_some, Option.bind_some, Option.bind_some, e10, nI_add, nI_add, iI_neg, iI_n, iI_mul]
  rfl
/-- bounds -/
def bdW (r : Nat) (v : Int) : Prop := -1800 - (r : Int) ≤ v ∧ v ≤ 10000 * (r : Int)
theorem join_bd {c : SCx} (hS : 0 ≤ cS c ∧ cS c ≤ 10000) (hM : 0 ≤ cM c ∧ cM c ≤ 1) (k dg : Nat) : -1 ≤ joinC c k dg ∧ joinC c k dg ≤ 10000 := by
  unfold joinC
  by_cases q : dg = 0 <;> by_cases q2 : cH c k = 0 ∨ cH c k = dg <;> simp only [q, q2, if_true, if_false] <;> omega
theorem pck_cases (a b : Option (Int × List Nat)) : pck a b = a ∨ pck a b = b := by
  cases a with
  | none => exact Or.inr rfl
  | some a =>
    cases b with
    | none => exact Or.inl rfl
    | some b =>
      show (if a.1 < b.1 then some b else some a) = some a ∨ (if a.1 < b.1 then some b else some a) = some b
      by_cases q : a.1 < b.1
      · rw [if_pos q]; exact Or.inr rfl
      · rw [if_neg q]; exact Or.inl rfl
theorem foldB_ex (c : SCx) (k : Nat) (f : St → Option (Int × List Nat)) (st : St) : ∀ i u, foldB c k f st i = some u → ∃ dg, dg < i ∧ thrB c k f st dg = some u
  | 0, u, h => by cases h
  | i + 1, u, h => by
    rw [foldB_s] at h
    rcases pck_cases (foldB c k f st i) (thrB c k f st i) with q | q
    · rw [q] at h
      obtain ⟨dg, h1, h2⟩ := foldB_ex c k f st i u h
      exact ⟨dg, by omega, h2⟩
    · rw [q] at h
      exact ⟨i, by omega, h⟩
theorem thrB_ex {c : SCx} {k : Nat} {f : St → Option (Int × List Nat)} {st : St} {dg : Nat} {u : Int × List Nat} (h : thrB c k f st dg = some u) : cAl c k dg = true ∧ ∃ st' u', (dg = 0 ∧ st' = st ∨ dg ≠ 0 ∧ st' = stA st (dg - 1) ∧ hold c (stA st (dg - 1)) = true) ∧ f st' = some u' ∧ u = (joinC c k dg + u'.1, dg :: u'.2) := by
  unfold thrB thr0 at h
  cases e : cAl c k dg
  · rw [e] at h; cases h
  · rw [e, if_pos rfl] at h
    refine ⟨rfl, ?_⟩
    by_cases q : dg = 0
    · rw [if_pos q] at h
      cases e2 : f st with
      | none => rw [e2] at h; cases h
      | some u' =>
        rw [e2] at h
        exact ⟨st, u', Or.inl ⟨q, rfl⟩, e2, by rw [q]; exact (Option.some.inj h).symm⟩
    · rw [if_neg q] at h
      cases e3 : hold c (stA st (dg - 1))
      · rw [e3] at h; cases h
      · rw [e3, if_pos rfl] at h
        cases e2 : f (stA st (dg - 1)) with
        | none => rw [e2] at h; cases h
        | some u' =>
          rw [e2] at h
          exact ⟨_, u', Or.inr ⟨q, rfl, rfl⟩, e2, (Option.some.inj h).symm⟩
theorem inS_A {st : St} (h : inS st) {t : Nat} (ht : t < 8) : inS (stA st t) := by
  have p0 := prt_lt t ht 0 (by omega)
  have p1 := prt_lt t ht 1 (by omega)
  have p2 := prt_lt t ht 2 (by omega)
  obtain ⟨h0, h1, h2⟩ := h
  refine ⟨?_, ?_, ?_⟩
  · show st.2 0 + prt t 0 ≤ st.1 + 1; omega
  · show st.2 1 + prt t 1 ≤ st.1 + 1; omega
  · show st.2 2 + prt t 2 ≤ st.1 + 1; omega
theorem best_bd {c : SCx} (hS : 0 ≤ cS c ∧ cS c ≤ 10000) (hG : 0 ≤ cG c ∧ cG c ≤ 100) (hM : 0 ≤ cM c ∧ cM c ≤ 1) : ∀ r st, inS st → st.1 + r ≤ 6 → ∀ u, best c r st = some u → bdW r u.1
  | 0, st, h, h6, u, e => by
    have e' : u = (-(cG c) * (gapS c st : Int), []) := (Option.some.inj e).symm
    have g : gapS c st ≤ 18 := by
      have a0 := gp_le (p := cP c 0) h.1
      have a1 := gp_le (p := cP c 1) h.2.1
      have a2 := gp_le (p := cP c 2) h.2.2
      unfold gapS; omega
    rw [e']
    have hb : 0 ≤ cG c * (gapS c st : Int) ∧ cG c * (gapS c st : Int) ≤ 100 * 18 := ⟨Int.mul_nonneg hG.1 (by omega), Int.mul_le_mul hG.2 (by omega) (by omega) (by omega)⟩
    have hn : -(cG c) * (gapS c st : Int) = -(cG c * (gapS c st : Int)) := Int.neg_mul _ _
    unfold bdW
    simp only [hn]
    omega
  | r + 1, st, h, h6, u, e => by
    obtain ⟨dg, hd, h2⟩ := foldB_ex c _ _ st 9 u e
    obtain ⟨-, st', u', h3, h4, h5⟩ := thrB_ex h2
    have hj := join_bd hS hM (cN c - (r + 1)) dg
    have ih : bdW r u'.1 := by
      rcases h3 with ⟨q, rfl⟩ | ⟨q, rfl, -⟩
      · exact best_bd hS hG hM r st' h (by omega) u' h4
      · exact best_bd hS hG hM r _ (inS_A h (by omega)) (by show st.1 + 1 + r ≤ 6; omega) u' h4
    rw [h5]
    unfold bdW at *
    simp only
    omega
theorem bd_n {r : Nat} {v : Int} (h : bdW r v) (hr : r ≤ 6) : -2147483648 ≤ v ∧ v < 2147483648 ∧ -1000000000 < v := by
  unfold bdW at h; omega
theorem enc_n {r : Nat} {v : Int} (h : bdW r v) (hr : r ≤ 6) : ¬ iI v = (-1000000000 : Int32) := by
  have := bd_n h hr
  rw [show (-1000000000 : Int32) = iI (-1000000000) from rfl, iI_eq ⟨this.1, this.2.1⟩ (by omega)]
  omega
