/-! what is picked -/
def mkv (g : Nat → Int32) (n c t : Nat) (b : Int32) (rr : Nat) : Nat → Int32 := itr (fun so a => if opn g c so (prt t so) then (if rr = 2 then mxI a (nI (takG g c so (prt t so) b n)) else if rr = 3 then mnI a (lefG g n c so (prt t so) b) else a) else a) (if rr = 2 then 0 else 99)
theorem mkv_s (g : Nat → Int32) (n c t : Nat) (b : Int32) (rr so : Nat) : mkv g n c t b rr (so + 1) = if opn g c so (prt t so) then (if rr = 2 then mxI (mkv g n c t b rr so) (nI (takG g c so (prt t so) b n)) else if rr = 3 then mnI (mkv g n c t b rr so) (lefG g n c so (prt t so) b) else mkv g n c t b rr so) else mkv g n c t b rr so := rfl
def mrkG (g : Nat → Int32) (n p c rr t : Nat) : Int32 := if rr = 0 then 0 else if rr = 1 then costI (g (97 + 7 * p)) (busyG g p (nI c) 4 ||| timeG g c t) else if rr = 2 then mkv g n c t (nI p) 2 3 else if rr = 3 then -mkv g n c t (nI p) 3 3 else bitI (timeG g c t)
theorem rr_ne {rr k : Nat} (h : rr < 5) (hk : k < 5) : (nI rr = nI k) ↔ rr = k := nI_eq (by omega) (by omega)
theorem M_mark {f : Nat → Int32} (s : Mem) {n p c rr t : Nat} (hS : SG f (s.1 20)) (hP : PG f (s.1 20) n) (hp : p < n) (hc : c < 4) (ht : t < 8) (hr : rr < 5) : fX7_markOf s (nI p) (nI c) (nI t) (nI rr) = some (mrkG (s.1 20) n p c rr t) := by
  have hM := PG_okM hP
  have hn := hM.1
  have r0 : (nI rr = (0 : Int32)) ↔ rr = 0 := rr_ne (k := 0) hr (by omega)
  have r1 : (nI rr = (1 : Int32)) ↔ rr = 1 := rr_ne (k := 1) hr (by omega)
  have r2 : (nI rr = (2 : Int32)) ↔ rr = 2 := rr_ne (k := 2) hr (by omega)
  have r3 : (nI rr = (3 : Int32)) ↔ rr = 3 := rr_ne (k := 3) hr (by omega)
  have hs : ∀ i, i < 3 → bX7_markOf_17 s (nI p) (nI c) (nI t) (nI rr) (mkv (s.1 20) n c t (nI p) rr i) (nI i) = some (.inr (mkv (s.1 20) n c t (nI p) rr (i + 1), nI (i + 1))) := by
    intro i hi
    rw [mkv_s]
    generalize mkv (s.1 20) n c t (nI p) rr i = a
    have hq := prt_lt t ht i hi
    unfold bX7_markOf_17 gX7_markOf_64
    rw [if_neg (nI_c3 hi), M_counts s hc ht hi, Option.bind_some, bi_n0, M_part t ht i hi, Option.bind_some, Option.bind_some, M_taken s (nI p) hc hi hq hM.1 hM.2.1 (fun q hq' => hM.2.2 q hq' c hc), Option.bind_some, M_left s (nI p) hc hi hq hM, Option.bind_some]
    simp only [lt, nI_p1, r2, r3]
    cases opn (s.1 20) c i (prt t i)
    · rfl
    · simp only [if_true]
      by_cases q2 : rr = 2
      · rw [if_pos q2, if_neg (by omega), if_pos q2]
      · rw [if_neg q2, if_neg q2]
        by_cases q3 : rr = 3
        · rw [if_pos q3, if_pos q3]
        · rw [if_neg q3, if_neg q3]
  have he : bX7_markOf_17 s (nI p) (nI c) (nI t) (nI rr) (mkv (s.1 20) n c t (nI p) rr 3) (nI 3) = some (.inl (mkv (s.1 20) n c t (nI p) rr 3)) := by
    unfold bX7_markOf_17
    rw [if_pos (by decide)]
  have key : ∀ k0 : Int32, k0 = mkv (s.1 20) n c t (nI p) rr 0 → gX7_markOf_12 s (nI p) (nI c) (nI t) (nI rr) k0 = some (mrkG (s.1 20) n p c rr t) := by
    intro k0 hk
    unfold gX7_markOf_12 mrkG
    rw [lp_at (body := fun a => bX7_markOf_17 s (nI p) (nI c) (nI t) (nI rr) a.1 a.2) (a := (k0, (0 : Int32))) (k := 600) (fun i => (mkv (s.1 20) n c t (nI p) rr i, nI i)) 3 (by rw [hk]; rfl) hs he (by omega), Option.bind_some]
    simp only [r0, r1, r2, r3]
    by_cases q0 : rr = 0
    · rw [if_pos q0, if_pos q0]
    · rw [if_neg q0, if_neg q0]
      by_cases q1 : rr = 1
      · rw [if_pos q1, if_pos q1, M_kindOf s (by omega), Option.bind_some, M_busy s (nI c) (by omega) (fun k hk => hM.2.2 p hp k hk), Option.bind_some, M_time s hc ht, Option.bind_some, M_cost _ (hr_or (busy_hr hS hP hp _ 4 (by omega)) (SG_hr hS hc ht))]
        rfl
      · rw [if_neg q1, if_neg q1]
        by_cases q2 : rr = 2
        · rw [if_pos q2, if_pos q2, q2]
        · rw [if_neg q2, if_neg q2]
          by_cases q3 : rr = 3
          · rw [if_pos q3, if_pos q3, q3]
          · rw [if_neg q3, if_neg q3, M_time s hc ht, Option.bind_some, M_bitI (SG_hr hS hc ht)]
            rfl
  unfold fX7_markOf
  simp only [r2]
  by_cases q2 : rr = 2
  · rw [if_pos q2]
    exact key _ (by rw [q2]; rfl)
  · rw [if_neg q2]
    refine key _ ?_
    show (99 : Int32) = if rr = 2 then 0 else 99
    rw [if_neg q2]
theorem grt_mkv {f g : Nat → Int32} (h : SR f g) {n c t : Nat} (b : Int32) (hc : c < 4) (ht : t < 8) (hl : lawG g c t = true) : ∀ i, i ≤ 3 → grtF f g n c t b i = mkv g n c t b 2 i
  | 0, _ => rfl
  | i + 1, hi => by
    have ih := grt_mkv h (n := n) b hc ht hl i (by omega)
    have e : grtF f g n c t b (i + 1) = if cntF f c i then mxI (grtF f g n c t b i) (nI (takG g c i (prt t i) b n)) else grtF f g n c t b i := rfl
    rw [e, mkv_s, cnt_law h hc ht (by omega) hl, ih, if_pos (rfl : (2 : Nat) = 2)]
theorem mn_9 {x : Int32} (h : x.toInt ≤ 9) : mnI 9 x = x ∧ mnI 99 x = x := by
  have e9 : (9 : Int32).toInt = 9 := by decide
  have e99 : (99 : Int32).toInt = 99 := by decide
  constructor
  · apply Int32.toInt_inj.mp; rw [mnI_int, e9]; omega
  · apply Int32.toInt_inj.mp; rw [mnI_int, e99]; omega
theorem lef_le {f g : Nat → Int32} (h : SG f g) {n c so w : Nat} (b : Int32) (hn : n ≤ 6) (hc : c < 4) (hs : so < 3) (hw : w < 2) : (lefG g n c so w b).toInt ≤ 9 := by
  obtain ⟨k, hk, e⟩ := (h.2.2 c hc so hs w hw).2.2.1
  have := takG_le g c so w b n
  unfold lefG capG
  rw [e, pk_sub_toInt (by omega) (by omega)]
  omega
theorem lst_mkv0 {f g : Nat → Int32} (hS : SG f g) {n c t : Nat} (b : Int32) (hn : n ≤ 6) (hc : c < 4) (ht : t < 8) (hl : lawG g c t = true) : lstF f g n c t b 1 = mkv g n c t b 3 1 := by
  have hq := prt_lt t ht 0 (by omega)
  have ho := law_opn ht hl (so := 0) (by omega) (Or.inl rfl)
  have e : lstF f g n c t b 1 = if cntF f c 0 then mnI 9 (f (24 * c + 8 * 0 + 4 * prt t 0 + 2) - nI (takG g c 0 (prt t 0) b n)) else 9 := rfl
  have e2 : mkv g n c t b 3 0 = 99 := rfl
  have e3 := mkv_s g n c t b 3 0
  rw [Nat.zero_add] at e3
  rw [e, e3, cnt_law hS.1 hc ht (by omega) hl, ho, if_pos rfl, if_pos rfl, if_neg (by omega), if_pos rfl, cap_eq hS.1 hc (by omega) hq ho, e2]
  have := mn_9 (lef_le hS (n := n) (so := 0) b hn hc (by omega) hq)
  unfold lefG capG at this
  unfold lefG capG
  rw [this.1, this.2]
theorem lst_mkvS {f g : Nat → Int32} (hS : SG f g) {n c t i : Nat} (b : Int32) (hc : c < 4) (ht : t < 8) (hl : lawG g c t = true) (hi : i < 3) (ih : lstF f g n c t b i = mkv g n c t b 3 i) : lstF f g n c t b (i + 1) = mkv g n c t b 3 (i + 1) := by
  have e : lstF f g n c t b (i + 1) = if cntF f c i then mnI (lstF f g n c t b i) (f (24 * c + 8 * i + 4 * prt t i + 2) - nI (takG g c i (prt t i) b n)) else lstF f g n c t b i := rfl
  rw [e, mkv_s, cnt_law hS.1 hc ht hi hl, ih, if_neg (by omega : ¬ (3 : Nat) = 2), if_pos (rfl : (3 : Nat) = 3)]
  cases ho : opn g c i (prt t i)
  · rw [if_neg (by decide), if_neg (by decide)]
  · rw [if_pos rfl, if_pos rfl, cap_eq hS.1 hc hi (prt_lt t ht _ hi) ho]
    rfl
theorem lst_mkv {f g : Nat → Int32} (hS : SG f g) {n c t : Nat} (b : Int32) (hn : n ≤ 6) (hc : c < 4) (ht : t < 8) (hl : lawG g c t = true) : lstF f g n c t b 3 = mkv g n c t b 3 3 := lst_mkvS hS b hc ht hl (by omega) (lst_mkvS hS b hc ht hl (by omega) (lst_mkv0 hS b hn hc ht hl))
theorem C_badness (s : Mem) {g : Nat → Int32} {n p c rr t : Nat} (hS : SG (s.1 2) g) (hP : PG (s.1 2) g n) (hp : p < n) (hc : c < 4) (ht : t < 8) (hr : rr < 5) (hl : lawG g c t = true) : fX0_badness s (nI p) (nI c) (nI t) (nI rr) = some (mrkG g n p c rr t) := by
  have hB := Gd_BR hS hP
  have hO := PG_okP hP
  have hA := PG_snd hP
  have hn := hP.1
  have r1 : (nI rr = (1 : Int32)) ↔ rr = 1 := rr_ne (k := 1) hr (by omega)
  have r2 : (nI rr = (2 : Int32)) ↔ rr = 2 := rr_ne (k := 2) hr (by omega)
  have r3 : (nI rr = (3 : Int32)) ↔ rr = 3 := rr_ne (k := 3) hr (by omega)
  have r4 : (nI rr = (4 : Int32)) ↔ rr = 4 := rr_ne (k := 4) hr (by omega)
  have hh : s.1 2 (139 + 8 * c + t) = timeG g c t := by
    rw [hS.2.1 c hc t ht]; unfold hrsG; rw [if_pos hl]
  unfold fX0_badness mrkG
  simp only [r1, r2, r3, r4]
  by_cases q1 : rr = 1
  · have hk := C_ofPupil s (p := p) (by omega) (j := 0) (by omega)
    rw [show nI 0 = (0 : Int32) from rfl, hP.2.2.2.1 p hp 0 (by omega), show 97 + 7 * p + 0 = 97 + 7 * p by omega] at hk
    rw [if_pos q1, if_neg (by omega), if_pos q1, hk, Option.bind_some, C_busy s (nI c) hB hO hp (fun k hk _ t ht => hA k hk p hp t ht), Option.bind_some, C_hoursOf s hc ht, Option.bind_some, hh, C_price _ (hr_or (busy_hr hS hP hp _ 4 (by omega)) (SG_hr hS hc ht))]
    rfl
  · rw [if_neg q1]
    by_cases q2 : rr = 2
    · rw [if_pos q2, if_neg (by omega), if_neg q1, if_pos q2, C_greatest s (nI p) hB hO hc ht (hA c hc), Option.bind_some, grt_mkv hS.1 (nI p) hc ht hl 3 (by omega)]
    · rw [if_neg q2]
      by_cases q3 : rr = 3
      · rw [if_pos q3, if_neg (by omega), if_neg q1, if_neg q2, if_pos q3, C_leastLeft s (nI p) hB hO hc ht (hA c hc), Option.bind_some, lst_mkv hS (nI p) hn hc ht hl]
      · rw [if_neg q3]
        by_cases q4 : rr = 4
        · rw [if_pos q4, if_neg (by omega), if_neg q1, if_neg q2, if_neg q3, C_hoursOf s hc ht, Option.bind_some, hh, C_bitI (SG_hr hS hc ht)]
          rfl
        · rw [if_neg q4, if_pos (by omega)]
/-- the best of those that fit -/
def pckO (fit : Nat → Bool) (mk : Nat → Int32) : Nat → Option Nat := itr (fun t b => if fit t then (match b with | none => some t | some b' => if mk b' ≤ mk t then some b' else some t) else b) none
theorem pckO_s (fit : Nat → Bool) (mk : Nat → Int32) (t : Nat) : pckO fit mk (t + 1) = if fit t then (match pckO fit mk t with | none => some t | some b' => if mk b' ≤ mk t then some b' else some t) else pckO fit mk t := rfl
theorem pckO_fit (fit : Nat → Bool) (mk : Nat → Int32) : ∀ n b, pckO fit mk n = some b → b < n ∧ fit b = true
  | 0, b, h => by cases h
  | n + 1, b, h => by
    have ih := pckO_fit fit mk n
    rw [pckO_s] at h
    cases e : fit n
    · rw [e, if_neg (by decide)] at h
      have := ih b h
      exact ⟨by omega, this.2⟩
    · rw [e, if_pos rfl] at h
      cases e2 : pckO fit mk n with
      | none =>
        rw [e2] at h
        obtain rfl := Option.some.inj h
        exact ⟨by omega, e⟩
      | some b' =>
        rw [e2] at h
        have h' : (if mk b' ≤ mk n then some b' else some n) = some b := h
        have := ih b' e2
        by_cases q : mk b' ≤ mk n
        · rw [if_pos q] at h'
          obtain rfl := Option.some.inj h'
          exact ⟨by omega, this.2⟩
        · rw [if_neg q] at h'
          obtain rfl := Option.some.inj h'
          exact ⟨by omega, e⟩
def encO : Option Nat → Int32
  | none => -1
  | some t => nI t
theorem M_picked {f : Nat → Int32} (s : Mem) {n p c rr : Nat} (hS : SG f (s.1 20)) (hP : PG f (s.1 20) n) (hp : p < n) (hc : c < 4) (hr : rr < 5) : fX7_picked s (nI p) (nI c) (nI rr) = some (encO (pckO (fitG (s.1 20) n p c) (mrkG (s.1 20) n p c rr) 8)) := by
  have hM := PG_okM hP
  have hs : ∀ i, i < 8 → bX7_picked_6 s (nI p) (nI c) (nI rr) (encO (pckO (fitG (s.1 20) n p c) (mrkG (s.1 20) n p c rr) i)) (nI i) = some (.inr (encO (pckO (fitG (s.1 20) n p c) (mrkG (s.1 20) n p c rr) (i + 1)), nI (i + 1))) := by
    intro i hi
    have hb := pckO_fit (fitG (s.1 20) n p c) (mrkG (s.1 20) n p c rr) i
    rw [pckO_s]
    unfold bX7_picked_6
    rw [if_neg (nI_c8 hi), M_isFit s hp hc hi hM, Option.bind_some, bi_n0]
    simp only [lt, nI_p1]
    cases fitG (s.1 20) n p c i
    · rfl
    · rw [if_pos rfl, if_pos rfl]
      cases e : pckO (fitG (s.1 20) n p c) (mrkG (s.1 20) n p c rr) i with
      | none => rw [show encO none = -1 from rfl, if_pos (by decide)]; rfl
      | some b =>
        have hb' := hb b e
        rw [show encO (some b) = nI b from rfl, if_neg (nI_pos (by omega)), M_mark s hS hP hp hc hi hr, Option.bind_some, M_mark s hS hP hp hc (by omega) hr, Option.bind_some]
        show _ = some (Sum.inr (encO (if mrkG (s.1 20) n p c rr b ≤ mrkG (s.1 20) n p c rr i then some b else some i), nI (i + 1)))
        by_cases q : mrkG (s.1 20) n p c rr b ≤ mrkG (s.1 20) n p c rr i
        · rw [if_pos q, if_pos q]; rfl
        · rw [if_neg q, if_neg q]; rfl
  have he : bX7_picked_6 s (nI p) (nI c) (nI rr) (encO (pckO (fitG (s.1 20) n p c) (mrkG (s.1 20) n p c rr) 8)) (nI 8) = some (.inl (encO (pckO (fitG (s.1 20) n p c) (mrkG (s.1 20) n p c rr) 8))) := by
    unfold bX7_picked_6
    rw [if_pos (by decide)]
  unfold fX7_picked
  rw [lp_at (body := fun a => bX7_picked_6 s (nI p) (nI c) (nI rr) a.1 a.2) (a := ((-1 : Int32), (0 : Int32))) (k := 600) (fun i => (encO (pckO (fitG (s.1 20) n p c) (mrkG (s.1 20) n p c rr) i), nI i)) 8 rfl hs he (by omega)]
  rfl
theorem fit_law {g : Nat → Int32} {n p c t : Nat} (h : fitG g n p c t = true) : lawG g c t = true := by
  unfold fitG freG at h
  exact (Bool.and_eq_true_iff.mp (Bool.and_eq_true_iff.mp h).1).1
theorem C_choose (s : Mem) {g : Nat → Int32} {n p c rr : Nat} (hS : SG (s.1 2) g) (hP : PG (s.1 2) g n) (hp : p < n) (hc : c < 4) (hr : rr < 5) : fX0_choose s (nI p) (nI c) (nI rr) = some (encO (pckO (fitG g n p c) (mrkG g n p c rr) 8)) := by
  have hB := Gd_BR hS hP
  have hO := PG_okP hP
  have hA := PG_snd hP
  unfold fX0_choose
  rw [C_freeSet s hB hO (SG_hrOK hS) hp hc (fun k hk _ t ht => hA k hk p hp t ht), Option.bind_some, C_crowded s hB hO hc (hA c hc), Option.bind_some]
  simp only [lt]
  rw [fit_set hS.1 hc]
  have key : ∃ b, lp (fun a => bX0_choose_26 s (nI p) (nI c) (nI rr) (setG (fitG g n p c) 8) a.1 a.2.1 a.2.2) 600 ((-1 : Int32), (0 : Int32), (0 : Int32)) = some b ∧ b = encO (pckO (fitG g n p c) (mrkG g n p c rr) 8) := by
    refine lp_inv (fun i a => a.1 = encO (pckO (fitG g n p c) (mrkG g n p c rr) i) ∧ (∀ b, pckO (fitG g n p c) (mrkG g n p c rr) i = some b → a.2.1 = mrkG g n p c rr b) ∧ a.2.2 = nI i) (fun b => b = encO (pckO (fitG g n p c) (mrkG g n p c rr) 8)) 8 ?_ ?_ (by omega) ⟨rfl, fun b h => (by cases h), rfl⟩
    · rintro i ⟨x, y, z⟩ hi ⟨h1, h2, h3⟩
      simp only at h1 h2 h3
      subst h1 h3
      left
      have hb := pckO_fit (fitG g n p c) (mrkG g n p c rr) i
      rw [pckO_s]
      show ∃ a', bX0_choose_26 s (nI p) (nI c) (nI rr) (setG (fitG g n p c) 8) (encO (pckO (fitG g n p c) (mrkG g n p c rr) i)) y (nI i) = some (.inr a') ∧ _
      unfold bX0_choose_26 gX0_choose_66
      rw [if_neg (nI_c8 hi)]
      simp only [set_has (fitG g n p c) hi, lt, nI_p1]
      cases e : fitG g n p c i
      · exact ⟨_, rfl, rfl, h2, rfl⟩
      · rw [if_neg (by decide), C_badness s hS hP hp hc hi hr (fit_law e), Option.bind_some, if_pos rfl]
        cases e2 : pckO (fitG g n p c) (mrkG g n p c rr) i with
        | none =>
          rw [show encO none = -1 from rfl, if_pos (by decide)]
          refine ⟨_, rfl, rfl, fun b hb => ?_, rfl⟩
          obtain rfl := Option.some.inj hb
          rfl
        | some b =>
          have hb' := hb b e2
          rw [show encO (some b) = nI b from rfl, if_neg (nI_pos (by omega)), h2 b e2]
          by_cases q : mrkG g n p c rr b ≤ mrkG g n p c rr i
          · rw [if_pos q]
            refine ⟨_, rfl, ?_, fun b2 hb2 => ?_, rfl⟩
            · show nI b = encO (if mrkG g n p c rr b ≤ mrkG g n p c rr i then some b else some i)
              rw [if_pos q]; rfl
            · have hb2' : (if mrkG g n p c rr b ≤ mrkG g n p c rr i then some b else some i) = some b2 := hb2
              rw [if_pos q] at hb2'
              obtain rfl := Option.some.inj hb2'
              rfl
          · rw [if_neg q]
            refine ⟨_, rfl, ?_, fun b2 hb2 => ?_, rfl⟩
            · show nI i = encO (if mrkG g n p c rr b ≤ mrkG g n p c rr i then some b else some i)
              rw [if_neg q]; rfl
            · have hb2' : (if mrkG g n p c rr b ≤ mrkG g n p c rr i then some b else some i) = some b2 := hb2
              rw [if_neg q] at hb2'
              obtain rfl := Option.some.inj hb2'
              rfl
    · rintro ⟨x, y, z⟩ ⟨h1, h2, h3⟩
      simp only at h1 h2 h3
      subst h1 h3
      refine ⟨_, ?_, rfl⟩
      show bX0_choose_26 s (nI p) (nI c) (nI rr) (setG (fitG g n p c) 8) (encO (pckO (fitG g n p c) (mrkG g n p c rr) 8)) y (nI 8) = _
      unfold bX0_choose_26
      rw [if_pos (by decide)]
  obtain ⟨b, h1, rfl⟩ := key
  rw [h1]
  rfl
