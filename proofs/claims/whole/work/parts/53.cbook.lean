/-! the class: single cells, lawful triples -/
theorem ixS {c so w j : Nat} : (24 : Int32) * nI c + (8 : Int32) * nI so + (4 : Int32) * nI w + nI j = nI (24 * c + 8 * so + 4 * w + j) := by
  rw [show (24 : Int32) = nI 24 from rfl, show (8 : Int32) = nI 8 from rfl, show (4 : Int32) = nI 4 from rfl, pk_mul, pk_mul, pk_mul, nI_add, nI_add, nI_add]
theorem C_ofSection (s : Mem) {c so w j : Nat} (hc : c < 4) (hs : so < 3) (hw : w < 2) (hj : j < 4) : fX0_ofSection s (nI c) (nI so) (nI w) (nI j) = some (s.1 2 (24 * c + 8 * so + 4 * w + j)) := by
  unfold fX0_ofSection
  rw [ixS, gd_in (by omega) (by omega), nI_clamp (by omega)]
theorem C_isOpen (s : Mem) {c so w : Nat} (hc : c < 4) (hs : so < 3) (hw : w < 2) : fX0_isOpen s (nI c) (nI so) (nI w) = some (bi (opn (s.1 2) c so w)) := by
  unfold fX0_isOpen
  rw [show (0 : Int32) = nI 0 from rfl, ixS, gd_in (by omega) (by omega), nI_clamp (by omega), show nI 0 = (0 : Int32) from rfl, bi_ite]
  rfl
theorem C_hoursOf (s : Mem) {c t : Nat} (hc : c < 4) (ht : t < 8) : fX0_hoursOf s (nI c) (nI t) = some (s.1 2 (139 + 8 * c + t)) := by
  have e : (139 : Int32) + (8 : Int32) * nI c + nI t = nI (139 + 8 * c + t) := by rw [show (139 : Int32) = nI 139 from rfl, show (8 : Int32) = nI 8 from rfl, pk_mul, nI_add, nI_add]
  unfold fX0_hoursOf
  rw [e, gd_in (by omega) (by omega), nI_clamp (by omega)]
theorem cl138 : (138 : Int32).toNatClampNeg = 138 := by decide +kernel
theorem gd138 {α : Type} {x : Option α} : gd (138 : Int32) 171 x = x := gd_in (i := 138) (by omega) (by omega)
theorem C_pupils (s : Mem) : fX0_pupils s = some (s.1 2 138) := by
  unfold fX0_pupils
  rw [gd138, cl138]
theorem C_ofPupil (s : Mem) {p j : Nat} (hp : p < 6) (hj : j < 7) : fX0_ofPupil s (nI p) (nI j) = some (s.1 2 (96 + 7 * p + j)) := by
  have e : (96 : Int32) + (7 : Int32) * nI p + nI j = nI (96 + 7 * p + j) := by rw [show (96 : Int32) = nI 96 from rfl, show (7 : Int32) = nI 7 from rfl, pk_mul, nI_add, nI_add]
  unfold fX0_ofPupil
  rw [e, gd_in (by omega) (by omega), nI_clamp (by omega)]
theorem ixP {p c : Nat} : (96 : Int32) + (7 : Int32) * nI p + (3 : Int32) + nI c = nI (99 + 7 * p + c) := by rw [show (96 : Int32) = nI 96 from rfl, show (7 : Int32) = nI 7 from rfl, pk_mul, nI_add, nI_p3, nI_add, show 96 + 7 * p + 3 + c = 99 + 7 * p + c by omega]
theorem C_sits (s : Mem) {p c : Nat} (hp : p < 6) (hc : c < 4) : fX0_sits s (nI p) (nI c) = some (s.1 2 (99 + 7 * p + c)) := by
  unfold fX0_sits
  rw [ixP, gd_in (by omega) (by omega), nI_clamp (by omega)]
theorem C_sitsNow (s : Mem) {p c : Nat} (v : Int32) (hp : p < 6) (hc : c < 4) : fX0_sitsNow s (nI p) (nI c) v = some (s.1 2 (99 + 7 * p + c), up2 s 2 (99 + 7 * p + c) v) := by
  unfold fX0_sitsNow
  simp only [lt]
  rw [ixP, gd_in (by omega) (by omega), gd_in (by omega) (by omega), nI_clamp (by omega)]
theorem C_wishes (s : Mem) {p : Nat} (c : Int32) (hp : p < 6) : fX0_wishes s (nI p) c = some (bi (decide ((s.1 2 (98 + 7 * p) >>> (c &&& 31)) &&& 1 = 1))) := by
  have e : (96 : Int32) + (7 : Int32) * nI p + (2 : Int32) = nI (98 + 7 * p) := by rw [show (96 : Int32) = nI 96 from rfl, show (7 : Int32) = nI 7 from rfl, pk_mul, nI_add, nI_p2, show 96 + 7 * p + 2 = 98 + 7 * p by omega]
  unfold fX0_wishes
  rw [e, gd_in (by omega) (by omega), nI_clamp (by omega), bi_ite]
def cntF (f : Nat → Int32) (c so : Nat) : Bool := decide (so = 0) || anyO f c so
theorem C_counts (s : Mem) {c so : Nat} (hc : c < 4) (hs : so < 3) : fX0_counts s (nI c) (nI so) = some (bi (cntF (s.1 2) c so)) := by
  have e : (24 : Int32) * nI c + (8 : Int32) * nI so + (0 : Int32) = nI (24 * c + 8 * so) := by rw [show (24 : Int32) = nI 24 from rfl, show (8 : Int32) = nI 8 from rfl, pk_mul, pk_mul, nI_add, nI_p0]
  have e3 : (nI so = (0 : Int32)) ↔ so = 0 := by rw [show (0 : Int32) = nI 0 from rfl, nI_eq (by omega) (by omega)]
  unfold fX0_counts
  simp only [lt, e, e3, nI_p4]
  rw [gd_in (by omega) (by omega), gd_in (by omega) (by omega), nI_clamp (by omega), nI_clamp (by omega)]
  unfold cntF anyO opn
  rw [show 24 * c + 8 * so + 4 * 0 = 24 * c + 8 * so by omega, show 24 * c + 8 * so + 4 * 1 = 24 * c + 8 * so + 4 by omega]
  by_cases h : so = 0
  · simp [h, bi]
  · by_cases h1 : s.1 2 (24 * c + 8 * so) = 1
    · simp [h, h1, bi]
    · by_cases h2 : s.1 2 (24 * c + 8 * so + 4) = 1
      · simp [h, h1, h2, bi]
      · simp [h, h1, h2, bi]
def gwF (f : Nat → Int32) (c so w l : Nat) : Bool := opn f c so w && (decide (lnk f c so w = -1) || decide (lnk f c so w = nI l))
theorem C_goesWith (s : Mem) {c so w : Nat} (l : Nat) (hc : c < 4) (hs : so < 3) (hw : w < 2) : fX0_goesWith s (nI c) (nI so) (nI w) (nI l) = some (bi (gwF (s.1 2) c so w l)) := by
  have h3 := C_ofSection s hc hs hw (j := 3) (by omega)
  rw [show nI 3 = (3 : Int32) from rfl] at h3
  unfold fX0_goesWith
  rw [h3, Option.bind_some, C_isOpen s hc hs hw, Option.bind_some, bi_n0]
  unfold gwF lnk
  generalize s.1 2 (24 * c + 8 * so + 4 * w + 3) = k
  cases opn (s.1 2) c so w
  · rfl
  · by_cases h1 : k = -1
    · simp [h1, bi]
    · by_cases h2 : k = nI l
      · simp [h2, bi]
      · simp [h1, h2, bi]
