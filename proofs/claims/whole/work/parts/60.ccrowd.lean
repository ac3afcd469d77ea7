/-! the class: what is crowded, what fits -/
theorem lp_at {α β : Type} {body : α → Option (β ⊕ α)} {a : α} {b : β} {k : Nat} (st : Nat → α) (n : Nat) (h0 : a = st 0) (hs : ∀ i, i < n → body (st i) = some (.inr (st (i + 1)))) (he : body (st n) = some (.inl b)) (hk : n < k) : lp body k a = some b := by
  rw [h0]
  exact lp_iter st n hs he hk
theorem i32_lt {a b : Int32} : a < b ↔ a.toInt < b.toInt := Int32.lt_iff_toInt_lt
theorem i32_le {a b : Int32} : a ≤ b ↔ a.toInt ≤ b.toInt := Int32.le_iff_toInt_le
theorem mnI_int (x y : Int32) : (mnI x y).toInt = min x.toInt y.toInt := by
  unfold mnI
  by_cases h : y < x
  · rw [if_pos h]; rw [i32_lt] at h; omega
  · rw [if_neg h]; rw [i32_lt] at h; omega
theorem mxI_int (x y : Int32) : (mxI x y).toInt = max x.toInt y.toInt := by
  unfold mxI
  by_cases h : x < y
  · rw [if_pos h]; rw [i32_lt] at h; omega
  · rw [if_neg h]; rw [i32_lt] at h; omega
def lstF (f g : Nat → Int32) (n c t : Nat) (b : Int32) : Nat → Int32 := itr (fun so a => if cntF f c so then mnI a (f (24 * c + 8 * so + 4 * prt t so + 2) - nI (takG g c so (prt t so) b n)) else a) 9
theorem cnt_any {f g : Nat → Int32} (h : SR f g) {c so : Nat} (hc : c < 4) (hs : so < 3) (hf : cntF f c so = true) : so = 0 ∨ anyO g c so = true := by
  unfold cntF at hf
  rw [SR_any h hc hs] at hf
  rcases Bool.or_eq_true_iff.mp hf with q | q
  · exact Or.inl (of_decide_eq_true q)
  · exact Or.inr q
theorem cnt_law {f g : Nat → Int32} (h : SR f g) {c t so : Nat} (hc : c < 4) (ht : t < 8) (hs : so < 3) (hl : lawG g c t = true) : cntF f c so = opn g c so (prt t so) := by
  have hp := prt_lt t ht so hs
  cases e : cntF f c so
  · unfold cntF at e
    rw [SR_any h hc hs] at e
    exact (any_opn hp (Bool.or_eq_false_iff.mp e).2).symm
  · exact (law_opn ht hl hs (cnt_any h hc hs e)).symm
theorem C_leastLeft (s : Mem) {g : Nat → Int32} {n c t : Nat} (b : Int32) (h : BR (s.1 2) g n) (ho : okP g n) (hc : c < 4) (ht : t < 8) (hsd : snd1 g n c) : fX0_leastLeft s (nI c) (nI t) b = some (lstF (s.1 2) g n c t b 3) := by
  have hs : ∀ i, i < 3 → bX0_leastLeft_7 s (nI c) (nI t) b (lstF (s.1 2) g n c t b i) (nI i) = some (.inr (lstF (s.1 2) g n c t b (i + 1), nI (i + 1))) := by
    intro i hi
    have e : lstF (s.1 2) g n c t b (i + 1) = if cntF (s.1 2) c i then mnI (lstF (s.1 2) g n c t b i) (s.1 2 (24 * c + 8 * i + 4 * prt t i + 2) - nI (takG g c i (prt t i) b n)) else lstF (s.1 2) g n c t b i := rfl
    rw [e]
    generalize lstF (s.1 2) g n c t b i = a
    have hp := prt_lt t ht i hi
    have h2 := C_ofSection s hc hi hp (j := 2) (by omega)
    rw [show nI 2 = (2 : Int32) from rfl] at h2
    unfold bX0_leastLeft_7
    rw [if_neg (nI_c3 hi), C_counts s hc hi, Option.bind_some, bi_n0]
    cases e1 : cntF (s.1 2) c i
    · simp only [lt, nI_p1]; rfl
    · rw [if_pos rfl, if_pos rfl, C_part t ht i hi, Option.bind_some, h2, Option.bind_some, C_taken s b h ho hc hi hp hsd (cnt_any h.1 hc hi e1), Option.bind_some]
      simp only [lt, nI_p1]
  have he : bX0_leastLeft_7 s (nI c) (nI t) b (lstF (s.1 2) g n c t b 3) (nI 3) = some (.inl (lstF (s.1 2) g n c t b 3)) := by
    unfold bX0_leastLeft_7
    rw [if_pos (by decide)]
  unfold fX0_leastLeft
  rw [lp_at (body := fun a => bX0_leastLeft_7 s (nI c) (nI t) b a.1 a.2) (a := ((9 : Int32), (0 : Int32))) (k := 600) (fun i => (lstF (s.1 2) g n c t b i, nI i)) 3 rfl hs he (by omega)]
  rfl
def grtF (f g : Nat → Int32) (n c t : Nat) (b : Int32) : Nat → Int32 := itr (fun so a => if cntF f c so then mxI a (nI (takG g c so (prt t so) b n)) else a) 0
theorem C_greatest (s : Mem) {g : Nat → Int32} {n c t : Nat} (b : Int32) (h : BR (s.1 2) g n) (ho : okP g n) (hc : c < 4) (ht : t < 8) (hsd : snd1 g n c) : fX0_greatestTaken s (nI c) (nI t) b = some (grtF (s.1 2) g n c t b 3) := by
  have hs : ∀ i, i < 3 → bX0_greatestTaken_6 s (nI c) (nI t) b (grtF (s.1 2) g n c t b i) (nI i) = some (.inr (grtF (s.1 2) g n c t b (i + 1), nI (i + 1))) := by
    intro i hi
    have e : grtF (s.1 2) g n c t b (i + 1) = if cntF (s.1 2) c i then mxI (grtF (s.1 2) g n c t b i) (nI (takG g c i (prt t i) b n)) else grtF (s.1 2) g n c t b i := rfl
    rw [e]
    generalize grtF (s.1 2) g n c t b i = a
    have hp := prt_lt t ht i hi
    unfold bX0_greatestTaken_6
    rw [if_neg (nI_c3 hi), C_counts s hc hi, Option.bind_some, bi_n0]
    cases e1 : cntF (s.1 2) c i
    · simp only [lt, nI_p1]; rfl
    · rw [if_pos rfl, if_pos rfl, C_part t ht i hi, Option.bind_some, C_taken s b h ho hc hi hp hsd (cnt_any h.1 hc hi e1), Option.bind_some]
      simp only [lt, nI_p1]
  have he : bX0_greatestTaken_6 s (nI c) (nI t) b (grtF (s.1 2) g n c t b 3) (nI 3) = some (.inl (grtF (s.1 2) g n c t b 3)) := by
    unfold bX0_greatestTaken_6
    rw [if_pos (by decide)]
  unfold fX0_greatestTaken
  rw [lp_at (body := fun a => bX0_greatestTaken_6 s (nI c) (nI t) b a.1 a.2) (a := ((0 : Int32), (0 : Int32))) (k := 600) (fun i => (grtF (s.1 2) g n c t b i, nI i)) 3 rfl hs he (by omega)]
  rfl
def crwF (f g : Nat → Int32) (n p c t : Nat) : Bool := decide (¬ 0 < lstF f g n c t (nI p) 3)
theorem C_crowded (s : Mem) {g : Nat → Int32} {n p c : Nat} (h : BR (s.1 2) g n) (ho : okP g n) (hc : c < 4) (hsd : snd1 g n c) : fX0_crowded s (nI p) (nI c) = some (setG (crwF (s.1 2) g n p c) 8) := by
  have hs : ∀ i, i < 8 → bX0_crowded_5 s (nI p) (nI c) (setG (crwF (s.1 2) g n p c) i) (nI i) = some (.inr (setG (crwF (s.1 2) g n p c) (i + 1), nI (i + 1))) := by
    intro i hi
    have e : setG (crwF (s.1 2) g n p c) (i + 1) = if crwF (s.1 2) g n p c i then setG (crwF (s.1 2) g n p c) i ||| ((1 : Int32) <<< (nI i &&& 31)) else setG (crwF (s.1 2) g n p c) i := rfl
    rw [e]
    generalize setG (crwF (s.1 2) g n p c) i = a
    unfold bX0_crowded_5 crwF
    rw [if_neg (nI_c8 hi), C_leastLeft s (nI p) h ho hc hi hsd, Option.bind_some]
    simp only [lt, nI_p1]
    by_cases q : 0 < lstF (s.1 2) g n c i (nI p) 3
    · rw [if_pos q, decide_eq_false (not_not_intro q)]; rfl
    · rw [if_neg q, decide_eq_true q]; rfl
  have he : bX0_crowded_5 s (nI p) (nI c) (setG (crwF (s.1 2) g n p c) 8) (nI 8) = some (.inl (setG (crwF (s.1 2) g n p c) 8)) := by
    unfold bX0_crowded_5
    rw [if_pos (by decide)]
  unfold fX0_crowded
  rw [lp_at (body := fun a => bX0_crowded_5 s (nI p) (nI c) a.1 a.2) (a := ((0 : Int32), (0 : Int32))) (k := 600) (fun i => (setG (crwF (s.1 2) g n p c) i, nI i)) 8 rfl hs he (by omega)]
  rfl
theorem one_le (x : Int32) : (1 ≤ x) ↔ (0 < x) := by
  rw [i32_lt, i32_le]
  show (1 : Int) ≤ x.toInt ↔ (0 : Int) < x.toInt
  omega
theorem mn_pos (a b : Int32) : (0 < mnI a b) ↔ (0 < a ∧ 0 < b) := by
  simp only [i32_lt, mnI_int]
  show (0 : Int) < _ ↔ (0 : Int) < _ ∧ (0 : Int) < _
  omega
theorem cap_eq {f g : Nat → Int32} (h : SR f g) {c so w : Nat} (hc : c < 4) (hs : so < 3) (hw : w < 2) (ho : opn g c so w = true) : f (24 * c + 8 * so + 4 * w + 2) = g (24 * c + 8 * so + 4 * w + 2) := ((h c hc so hs w hw).2 (opn_1 ho)).1.2.1
theorem lst_step {f g : Nat → Int32} (h : SR f g) {n c t so : Nat} (b : Int32) (hc : c < 4) (ht : t < 8) (hs : so < 3) (hl : lawG g c t = true) : (0 < lstF f g n c t b (so + 1)) ↔ (0 < lstF f g n c t b so ∧ roomG g n c t b so = true) := by
  have e : lstF f g n c t b (so + 1) = if cntF f c so then mnI (lstF f g n c t b so) (f (24 * c + 8 * so + 4 * prt t so + 2) - nI (takG g c so (prt t so) b n)) else lstF f g n c t b so := rfl
  rw [e, cnt_law h hc ht hs hl]
  unfold roomG
  cases q : opn g c so (prt t so)
  · simp
  · rw [if_pos rfl, mn_pos, cap_eq h hc hs (prt_lt t ht so hs) q]
    unfold lefG capG
    simp only [Bool.not_true, Bool.false_or, decide_eq_true_eq, one_le]
theorem crw_law {f g : Nat → Int32} (h : SR f g) {n c t p : Nat} (hc : c < 4) (ht : t < 8) (hl : lawG g c t = true) : crwF f g n p c t = !hasG g n c t (nI p) := by
  have e : (0 < lstF f g n c t (nI p) 3) ↔ hasG g n c t (nI p) = true := by
    rw [lst_step h (nI p) hc ht (so := 2) (by omega) hl, lst_step h (nI p) hc ht (so := 1) (by omega) hl, lst_step h (nI p) hc ht (so := 0) (by omega) hl]
    have : (0 : Int32) < lstF f g n c t (nI p) 0 := by show (0 : Int32) < 9; decide
    unfold hasG
    simp [this]
  unfold crwF
  cases q : hasG g n c t (nI p)
  · rw [decide_eq_true (by rw [e, q]; decide)]; rfl
  · rw [decide_eq_false (by rw [e, q]; simp)]; rfl
/-- free and not crowded: what fits -/
theorem fit_set {f g : Nat → Int32} (h : SR f g) {n p c : Nat} (hc : c < 4) : setG (freG g p c) 8 &&& (setG (crwF f g n p c) 8 ^^^ (-1 : Int32)) = setG (fitG g n p c) 8 := by
  rw [setG_diff]
  apply setG_congr _ 8 (by omega)
  intro t ht
  unfold fitG freG
  cases hl : lawG g c t
  · simp
  · rw [crw_law h hc ht hl]; simp
theorem crw_set {f g : Nat → Int32} (h : SR f g) {n p c : Nat} (hc : c < 4) : setG (freG g p c) 8 &&& setG (crwF f g n p c) 8 = setG (fun t => freG g p c t && !hasG g n c t (nI p)) 8 := by
  rw [setG_and]
  apply setG_congr _ 8 (by omega)
  intro t ht
  unfold freG
  cases hl : lawG g c t
  · simp
  · rw [crw_law h hc ht hl]
/-- whether a triple is in a set -/
theorem set_has (f : Nat → Bool) {t : Nat} (ht : t < 8) : ((setG f 8 >>> (nI t &&& 31)) &&& (1 : Int32) = 0) ↔ f t = false := by
  have key : ∀ a : Int32, ∀ k, k < 8 → (((a >>> (nI k &&& 31)) &&& (1 : Int32)) = 0 ↔ a.toBitVec.getLsbD k = false) := by
    intro a k hk
    rw [← Int32.toBitVec_inj, Int32.toBitVec_and, Int32.toBitVec_shiftRight]
    have e : (nI k &&& 31 : Int32).toBitVec.smod 32 = BitVec.ofNat 32 k := by
      rw [and31 k hk]
      have : ∀ k, k < 8 → (nI k).toBitVec.smod 32 = BitVec.ofNat 32 k := by decide +kernel
      exact this k hk
    rw [e]
    have e1 : (1 : Int32).toBitVec = BitVec.twoPow 32 0 := by decide +kernel
    rw [e1, BitVec.and_twoPow]
    have e2 : (a.toBitVec.sshiftRight' (BitVec.ofNat 32 k)).getLsbD 0 = a.toBitVec.getLsbD k := by
      show (a.toBitVec.sshiftRight (BitVec.ofNat 32 k).toNat).getLsbD 0 = _
      rw [BitVec.getLsbD_sshiftRight]
      have : (BitVec.ofNat 32 k).toNat = k := by rw [BitVec.toNat_ofNat]; omega
      rw [this]
      have h32 : k < 32 := by omega
      simp [h32]
    rw [e2]
    cases a.toBitVec.getLsbD k
    · simp
    · simp only [if_true, Bool.true_eq_false, iff_false]; decide +kernel
  rw [key _ t ht, setG_bit f 8 (by omega)]
  simp [ht]
