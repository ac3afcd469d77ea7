/-! small things told: sets, unevenness, how many sit -/
theorem C_isPupil (s : Mem) {n : Nat} (x : Int32) (hn : n ≤ 6) (h : s.1 2 138 = nI n) : fX6_isPupil s x = some (bi (inR x 0 ((n : Int) - 1))) := by
  unfold fX6_isPupil
  rw [C_pupils, Option.bind_some, h, wi_in x 0 ((n : Int) - 1) (by decide) (by rw [Int32.toInt_toInt64, show (1 : Int32) = nI 1 from rfl, pk_sub_toInt (by omega) (by omega)]; rfl), Option.bind_some, gz_bi]
theorem M_isPupil (s : Mem) {n : Nat} (x : Int32) (hn : n ≤ 6) (h : s.1 20 96 = nI n) : fX7_isPupil s x = some (bi (inR x 0 ((n : Int) - 1))) := by
  unfold fX7_isPupil
  rw [gd96, cl96, h, mi_in x 0 ((n : Int) - 1) (by decide) (by rw [Int32.toInt_toInt64, show (1 : Int32) = nI 1 from rfl, pk_sub_toInt (by omega) (by omega)]; rfl), Option.bind_some, gz_bi]
theorem isP_ex {x : Int32} {n : Nat} (hn : n ≤ 6) (e : inR x 0 ((n : Int) - 1) = true) : ∃ p, p < n ∧ x = nI p := by
  cases n with
  | zero => have := of_decide_eq_true e; omega
  | succ m =>
    obtain ⟨k, hk, h⟩ := inR_ex (x := x) (h := m) (by omega) (by rw [← e]; congr 1; omega)
    exact ⟨k, by omega, h⟩
def wshG (g : Nat → Int32) (p c : Nat) : Bool := decide ((g (99 + 7 * p) >>> (nI c &&& 31)) &&& (1 : Int32) = 1)
theorem C_wsh (s : Mem) {g : Nat → Int32} {n p c : Nat} (hP : PG (s.1 2) g n) (hp : p < n) : fX0_wishes s (nI p) (nI c) = some (bi (wshG g p c)) := by
  have hn := hP.1
  rw [C_wishes s (nI c) (by omega)]
  have := hP.2.2.2.1 p hp 2 (by omega)
  rw [show 96 + 7 * p + 2 = 98 + 7 * p by omega, show 97 + 7 * p + 2 = 99 + 7 * p by omega] at this
  rw [this]
  rfl
theorem M_has (a : Int32) (c : Nat) : fX7_has a (nI c) = some (bi (decide ((a >>> (nI c &&& 31)) &&& (1 : Int32) = 1))) := by
  unfold fX7_has
  rw [bi_ite]
def whyG (g : Nat → Int32) (n : Nat) (x y : Int32) : Int32 := if inR x 0 ((n : Int) - 1) = true ∧ inR y 0 3 = true then (if wshG g x.toNatClampNeg y.toNatClampNeg then -1 else 3) else 0
theorem whyG_in {g : Nat → Int32} {n p c : Nat} (hn : n ≤ 6) (hp : p < n) (hc : c < 4) : whyG g n (nI p) (nI c) = if wshG g p c then -1 else 3 := by
  unfold whyG
  rw [if_pos ⟨inR_nI (by omega) (by omega) (by omega), inR_nI (by omega) (by omega) (by omega)⟩, nI_clamp (by omega), nI_clamp (by omega)]
theorem M_whyNot (s : Mem) {n : Nat} (x y : Int32) (hn : n ≤ 6) (h : s.1 20 96 = nI n) : fX7_whyNot s x y = some (whyG (s.1 20) n x y) := by
  unfold fX7_whyNot whyG
  rw [M_isPupil s x hn h, Option.bind_some, bi_n0]
  cases e1 : inR x 0 ((n : Int) - 1)
  · simp
  · rw [if_pos rfl, M_isCourse, Option.bind_some, bi_n0]
    cases e2 : inR y 0 3
    · simp
    · obtain ⟨p, hp, rfl⟩ := isP_ex hn e1
      obtain ⟨c, hc, rfl⟩ := inR_ex (h := 3) (by omega) e2
      rw [if_pos rfl, M_wishes s (by omega), Option.bind_some, M_has, Option.bind_some, bi_n0, if_pos (show true = true ∧ true = true from ⟨rfl, rfl⟩), nI_clamp (by omega), nI_clamp (by omega)]
      unfold wshG
      cases decide ((s.1 20 (99 + 7 * p) >>> (nI c &&& 31)) &&& (1 : Int32) = 1) <;> rfl
theorem C_lawfulSet (s : Mem) {g : Nat → Int32} {c : Nat} (hS : SG (s.1 2) g) (hc : c < 4) : fX0_lawfulSet s (nI c) = some (setG (lawG g c) 8) := by
  have hs : ∀ i, i < 8 → bX0_lawfulSet_4 s (nI c) (setG (lawG g c) i) (nI i) = some (.inr (setG (lawG g c) (i + 1), nI (i + 1))) := by
    intro i hi
    have e : setG (lawG g c) (i + 1) = if lawG g c i then setG (lawG g c) i ||| ((1 : Int32) <<< (nI i &&& 31)) else setG (lawG g c) i := rfl
    rw [e]
    unfold bX0_lawfulSet_4
    rw [if_neg (nI_c8 hi), C_hoursOf s hc hi, Option.bind_some, hS.2.1 c hc i hi]
    simp only [lt, nI_p1]
    unfold hrsG
    cases lawG g c i
    · simp only [Bool.false_eq_true, if_false]
      rw [if_pos (by decide)]
    · simp only [if_true]
      rw [if_neg (SG_hrOK hS c hc i hi)]
  have he : bX0_lawfulSet_4 s (nI c) (setG (lawG g c) 8) (nI 8) = some (.inl (setG (lawG g c) 8)) := by
    unfold bX0_lawfulSet_4
    rw [if_pos (by decide)]
  unfold fX0_lawfulSet
  rw [lp_at (body := fun a => bX0_lawfulSet_4 s (nI c) a.1 a.2) (a := ((0 : Int32), (0 : Int32))) (k := 600) (fun i => (setG (lawG g c) i, nI i)) 8 rfl hs he (by omega)]
  rfl
def unvG (g : Nat → Int32) (n c : Nat) : Nat → Int32 := itr (fun so a => if opn g c so 0 && opn g c so 1 then a + abI (nI (takG g c so 0 (-1) n) - nI (takG g c so 1 (-1) n)) else a) 0
theorem unvG_s (g : Nat → Int32) (n c so : Nat) : unvG g n c (so + 1) = if opn g c so 0 && opn g c so 1 then unvG g n c so + abI (nI (takG g c so 0 (-1) n) - nI (takG g c so 1 (-1) n)) else unvG g n c so := rfl
theorem C_isPaired (s : Mem) {g : Nat → Int32} (h : SR (s.1 2) g) {c so : Nat} (hc : c < 4) (hs : so < 3) : fX0_isPaired s (nI c) (nI so) = some (bi (opn g c so 0 && opn g c so 1)) := by
  have h0 := C_isOpen s hc hs (w := 0) (by omega)
  have h1 := C_isOpen s hc hs (w := 1) (by omega)
  rw [show nI 0 = (0 : Int32) from rfl, SR_opn h hc hs (by omega)] at h0
  rw [show nI 1 = (1 : Int32) from rfl, SR_opn h hc hs (by omega)] at h1
  unfold fX0_isPaired
  rw [h0, h1]
  cases opn g c so 0 <;> cases opn g c so 1 <;> rfl
theorem C_unevenness (s : Mem) {g : Nat → Int32} {n c : Nat} (hS : SG (s.1 2) g) (hP : PG (s.1 2) g n) (hc : c < 4) : fX0_unevenness s (nI c) = some (unvG g n c 3) := by
  have hB := Gd_BR hS hP
  have hO := PG_okP hP
  have hA := PG_snd hP
  have hs : ∀ i, i < 3 → bX0_unevenness_4 s (nI c) (unvG g n c i) (nI i) = some (.inr (unvG g n c (i + 1), nI (i + 1))) := by
    intro i hi
    rw [unvG_s]
    unfold bX0_unevenness_4
    rw [if_neg (nI_c3 hi), C_isPaired s hS.1 hc hi, Option.bind_some, bi_n0]
    simp only [lt, nI_p1]
    cases e : (opn g c i 0 && opn g c i 1)
    · rfl
    · have ha : i = 0 ∨ anyO g c i = true := Or.inr (by unfold anyO; rw [(Bool.and_eq_true_iff.mp e).1]; rfl)
      have t0 := C_taken s (-1) hB hO hc hi (w := 0) (by omega) (hA c hc) ha
      have t1 := C_taken s (-1) hB hO hc hi (w := 1) (by omega) (hA c hc) ha
      rw [show nI 0 = (0 : Int32) from rfl] at t0
      rw [show nI 1 = (1 : Int32) from rfl] at t1
      rw [if_pos rfl, if_pos rfl, t0, Option.bind_some, t1, Option.bind_some]
  have he : bX0_unevenness_4 s (nI c) (unvG g n c 3) (nI 3) = some (.inl (unvG g n c 3)) := by
    unfold bX0_unevenness_4
    rw [if_pos (by decide)]
  unfold fX0_unevenness
  rw [lp_at (body := fun a => bX0_unevenness_4 s (nI c) a.1 a.2) (a := ((0 : Int32), (0 : Int32))) (k := 600) (fun i => (unvG g n c i, nI i)) 3 rfl hs he (by omega)]
  rfl
theorem M_unevenOf (s : Mem) {n c : Nat} (hM : okM (s.1 20) n) (hc : c < 4) : fX7_unevenOf s (nI c) = some (unvG (s.1 20) n c 3) := by
  have hs : ∀ i, i < 3 → bX7_unevenOf_4 s (nI c) (unvG (s.1 20) n c i) (nI i) = some (.inr (unvG (s.1 20) n c (i + 1), nI (i + 1))) := by
    intro i hi
    have o0 := M_isOpen s hc hi (w := 0) (by omega)
    have o1 := M_isOpen s hc hi (w := 1) (by omega)
    have t0 := M_taken s (-1) hc hi (w := 0) (by omega) hM.1 hM.2.1 (fun q hq' => hM.2.2 q hq' c hc)
    have t1 := M_taken s (-1) hc hi (w := 1) (by omega) hM.1 hM.2.1 (fun q hq' => hM.2.2 q hq' c hc)
    rw [show nI 0 = (0 : Int32) from rfl] at t0 o0
    rw [show nI 1 = (1 : Int32) from rfl] at t1 o1
    rw [unvG_s]
    unfold bX7_unevenOf_4
    rw [if_neg (nI_c3 hi), o0, Option.bind_some, bi_n0, o1, Option.bind_some, bi_n0, t0, Option.bind_some, t1, Option.bind_some]
    simp only [lt, nI_p1]
    cases opn (s.1 20) c i 0 <;> cases opn (s.1 20) c i 1 <;> rfl
  have he : bX7_unevenOf_4 s (nI c) (unvG (s.1 20) n c 3) (nI 3) = some (.inl (unvG (s.1 20) n c 3)) := by
    unfold bX7_unevenOf_4
    rw [if_pos (by decide)]
  unfold fX7_unevenOf
  rw [lp_at (body := fun a => bX7_unevenOf_4 s (nI c) a.1 a.2) (a := ((0 : Int32), (0 : Int32))) (k := 600) (fun i => (unvG (s.1 20) n c i, nI i)) 3 rfl hs he (by omega)]
  rfl
/-- to how many a pupil is put -/
def sitN (g : Nat → Int32) (p : Nat) : Nat → Nat := itr (fun c a => if g (100 + 7 * p + c) < 0 then a else a + 1) 0
theorem sitN_s (g : Nat → Int32) (p c : Nat) : sitN g p (c + 1) = if g (100 + 7 * p + c) < 0 then sitN g p c else sitN g p c + 1 := rfl
theorem sitN_le (g : Nat → Int32) (p : Nat) : ∀ c, sitN g p c ≤ c
  | 0 => Nat.le_refl 0
  | c + 1 => by
    have := sitN_le g p c
    rw [sitN_s]
    split <;> omega
theorem C_sitsIn (s : Mem) {g : Nat → Int32} {n p : Nat} (hB : BR (s.1 2) g n) (hp : p < n) : fX0_sitsIn s (nI p) = some (nI (sitN g p 4)) := by
  have hn := hB.2.1
  have hs : ∀ i, i < 4 → bX0_sitsIn_4 s (nI p) (nI (sitN g p i)) (nI i) = some (.inr (nI (sitN g p (i + 1)), nI (i + 1))) := by
    intro i hi
    rw [sitN_s]
    unfold bX0_sitsIn_4
    rw [if_neg (nI_c4 hi), C_sits s (by omega) hi, Option.bind_some, BR_sits hB hp hi]
    simp only [lt, nI_p1]
    by_cases e : g (100 + 7 * p + i) < 0
    · rw [if_pos e, if_pos e]
    · rw [if_neg e, if_neg e]
  have he : bX0_sitsIn_4 s (nI p) (nI (sitN g p 4)) (nI 4) = some (.inl (nI (sitN g p 4))) := by
    unfold bX0_sitsIn_4
    rw [if_pos (by decide)]
  unfold fX0_sitsIn
  rw [lp_at (body := fun a => bX0_sitsIn_4 s (nI p) a.1 a.2) (a := ((0 : Int32), (0 : Int32))) (k := 600) (fun i => (nI (sitN g p i), nI i)) 4 rfl hs he (by omega)]
  rfl
theorem M_putMany (s : Mem) {p : Nat} (hp : p < 6) : fX7_putMany s (nI p) = some (nI (sitN (s.1 20) p 4)) := by
  have hs : ∀ i, i < 4 → bX7_putMany_4 s (nI p) (nI (sitN (s.1 20) p i)) (nI i) = some (.inr (nI (sitN (s.1 20) p (i + 1)), nI (i + 1))) := by
    intro i hi
    rw [sitN_s]
    unfold bX7_putMany_4
    rw [if_neg (nI_c4 hi), M_triple s hp hi, Option.bind_some]
    simp only [lt, nI_p1, nI_p0]
    by_cases e : s.1 20 (100 + 7 * p + i) < 0
    · rw [if_pos e, if_pos e]
    · rw [if_neg e, if_neg e]
  have he : bX7_putMany_4 s (nI p) (nI (sitN (s.1 20) p 4)) (nI 4) = some (.inl (nI (sitN (s.1 20) p 4))) := by
    unfold bX7_putMany_4
    rw [if_pos (by decide)]
  unfold fX7_putMany
  rw [lp_at (body := fun a => bX7_putMany_4 s (nI p) a.1 a.2) (a := ((0 : Int32), (0 : Int32))) (k := 600) (fun i => (nI (sitN (s.1 20) p i), nI i)) 4 rfl hs he (by omega)]
  rfl
theorem C_busyA (s : Mem) {g : Nat → Int32} {n p : Nat} (hS : SG (s.1 2) g) (hP : PG (s.1 2) g n) (hp : p < n) (b : Int32) : fX0_busy s (nI p) b = some (busyG g p b 4) := C_busy s b (Gd_BR hS hP) (PG_okP hP) hp (fun k hk _ t ht => PG_snd hP k hk p hp t ht)
theorem M_busyA (s : Mem) {n p : Nat} (hM : okM (s.1 20) n) (hp : p < n) (b : Int32) : fX7_busyBut s (nI p) b = some (busyG (s.1 20) p b 4) := M_busy s b (by have := hM.1; omega) (fun k hk => hM.2.2 p hp k hk)
theorem C_kind (s : Mem) {g : Nat → Int32} {n p : Nat} (hP : PG (s.1 2) g n) (hp : p < n) : fX0_ofPupil s (nI p) (0 : Int32) = some (g (97 + 7 * p)) := by
  have hn := hP.1
  have hk := C_ofPupil s (p := p) (by omega) (j := 0) (by omega)
  rw [show nI 0 = (0 : Int32) from rfl, hP.2.2.2.1 p hp 0 (by omega), show 97 + 7 * p + 0 = 97 + 7 * p by omega] at hk
  exact hk
def prcG (g : Nat → Int32) (p : Nat) : Int32 := costI (g (97 + 7 * p)) (busyG g p (-1) 4)
theorem C_priceP (s : Mem) {g : Nat → Int32} {n p : Nat} (hS : SG (s.1 2) g) (hP : PG (s.1 2) g n) (hp : p < n) : fX0_price s (nI p) = some (prcG g p) := by
  unfold fX0_price
  rw [C_kind s hP hp, Option.bind_some, C_busyA s hS hP hp, Option.bind_some, C_price _ (busy_hr hS hP hp _ 4 (by omega))]
  rfl
theorem M_costP {f : Nat → Int32} (s : Mem) {n p : Nat} (hS : SG f (s.1 20)) (hP : PG f (s.1 20) n) (hp : p < n) : fX7_costOf_ s (nI p) = some (prcG (s.1 20) p) := by
  have hn := hP.1
  unfold fX7_costOf_
  rw [M_kindOf s (by omega), Option.bind_some, M_busyA s (PG_okM hP) hp, Option.bind_some, M_cost _ (busy_hr hS hP hp _ 4 (by omega))]
  rfl
