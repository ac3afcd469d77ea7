/-! calls that only tell: its, why, would, status, count -/
theorem inR_exL {x : Int32} {l h : Nat} (hh : h < 2 ^ 31) (e : inR x (l : Int) (h : Int) = true) : ∃ k : Nat, l ≤ k ∧ k ≤ h ∧ x = nI k := by
  have := of_decide_eq_true e
  refine ⟨x.toInt.toNat, by omega, by omega, ?_⟩
  apply Int32.toInt_inj.mp
  rw [nI_toInt (by omega)]
  omega
theorem ixQ {p j : Nat} : (97 : Int32) + (7 : Int32) * nI p + nI j = nI (97 + 7 * p + j) := by rw [show (97 : Int32) = nI 97 from rfl, show (7 : Int32) = nI 7 from rfl, pk_mul, nI_add, nI_add]
def itsG (g : Nat → Int32) (p : Nat) (k : Int32) : Int32 := if 2 < k then (if k = 3 then busyG g p (-1) 4 else if k = 4 then prcG g p else if k = 5 then nI (sitN g p 4) else g (100 + 7 * p + (k - 10).toNatClampNeg)) else g (97 + 7 * p + k.toNatClampNeg)
theorem its_ex {k : Int32} (h : inR k 0 5 = true ∨ inR k 10 13 = true) : ∃ j : Nat, (j ≤ 5 ∨ 10 ≤ j ∧ j ≤ 13) ∧ k = nI j := by
  rcases h with h | h
  · obtain ⟨j, hj, rfl⟩ := inR_ex (h := 5) (by omega) h
    exact ⟨j, Or.inl hj, rfl⟩
  · obtain ⟨j, h1, h2, rfl⟩ := inR_exL (l := 10) (h := 13) (by omega) h
    exact ⟨j, Or.inr ⟨h1, h2⟩, rfl⟩
theorem C_its40 (s : Mem) {g : Nat → Int32} {n p : Nat} {k : Int32} (hS : SG (s.1 2) g) (hP : PG (s.1 2) g n) (hp : p < n) (h : inR k 0 5 = true ∨ inR k 10 13 = true) : gX6_its_40 s (nI p) k = some (itsG g p k, s) := by
  have hn := hP.1
  obtain ⟨j, hj, rfl⟩ := its_ex h
  have r3 : (nI j = (3 : Int32)) ↔ j = 3 := nI_eq (b := 3) (by omega) (by omega)
  have r4 : (nI j = (4 : Int32)) ↔ j = 4 := nI_eq (b := 4) (by omega) (by omega)
  have r5 : (nI j = (5 : Int32)) ↔ j = 5 := nI_eq (b := 5) (by omega) (by omega)
  have r2 : ((2 : Int32) < nI j) ↔ 2 < j := nI_ltI (a := 2) (by omega) (by omega)
  unfold gX6_its_40 itsG
  simp only [r2, r3, r4, r5]
  by_cases q2 : 2 < j
  · rw [if_pos q2, if_pos q2]
    by_cases q3 : j = 3
    · rw [if_pos q3, if_pos q3, C_busyA s hS hP hp]; rfl
    · rw [if_neg q3, if_neg q3]
      by_cases q4 : j = 4
      · rw [if_pos q4, if_pos q4, C_priceP s hS hP hp]; rfl
      · rw [if_neg q4, if_neg q4]
        by_cases q5 : j = 5
        · rw [if_pos q5, if_pos q5, C_sitsIn s (Gd_BR hS hP) hp]; rfl
        · rw [if_neg q5, if_neg q5, show (10 : Int32) = nI 10 from rfl, pk_sub (by omega), C_sits s (by omega) (by omega), Option.bind_some, BR_sits (Gd_BR hS hP) hp (by omega), nI_clamp (by omega)]
  · rw [if_neg q2, if_neg q2, C_ofPupil s (by omega) (by omega), Option.bind_some, hP.2.2.2.1 p hp j (by omega), nI_clamp (by omega)]
theorem M_its40 {f : Nat → Int32} (s : Mem) {n p : Nat} {k : Int32} (hS : SG f (s.1 20)) (hP : PG f (s.1 20) n) (hp : p < n) (h : inR k 0 5 = true ∨ inR k 10 13 = true) : gX7_its_40 s (nI p) k = some (itsG (s.1 20) p k, s) := by
  have hn := hP.1
  obtain ⟨j, hj, rfl⟩ := its_ex h
  have r0 : (nI j = (0 : Int32)) ↔ j = 0 := nI_eq (b := 0) (by omega) (by omega)
  have r1 : (nI j = (1 : Int32)) ↔ j = 1 := nI_eq (b := 1) (by omega) (by omega)
  have r6 : (nI j = (2 : Int32)) ↔ j = 2 := nI_eq (b := 2) (by omega) (by omega)
  have r3 : (nI j = (3 : Int32)) ↔ j = 3 := nI_eq (b := 3) (by omega) (by omega)
  have r4 : (nI j = (4 : Int32)) ↔ j = 4 := nI_eq (b := 4) (by omega) (by omega)
  have r5 : (nI j = (5 : Int32)) ↔ j = 5 := nI_eq (b := 5) (by omega) (by omega)
  have r2 : ((2 : Int32) < nI j) ↔ 2 < j := nI_ltI (a := 2) (by omega) (by omega)
  unfold gX7_its_40 itsG
  simp only [r0, r1, r2, r3, r4, r5, r6, ixQ]
  by_cases q2 : 2 < j
  · rw [if_pos q2, if_neg (by omega), if_neg (by omega), if_neg (by omega)]
    by_cases q3 : j = 3
    · rw [if_pos q3, if_pos q3, M_busyA s (PG_okM hP) hp]; rfl
    · rw [if_neg q3, if_neg q3]
      by_cases q4 : j = 4
      · rw [if_pos q4, if_pos q4, M_costP s hS hP hp]; rfl
      · rw [if_neg q4, if_neg q4]
        by_cases q5 : j = 5
        · rw [if_pos q5, if_pos q5, M_putMany s (by omega)]; rfl
        · rw [if_neg q5, if_neg q5, show (10 : Int32) = nI 10 from rfl, pk_sub (by omega), M_triple s (by omega) (by omega), Option.bind_some, nI_clamp (by omega)]
  · rw [if_neg q2, gd_in (by omega) (by omega), nI_clamp (by omega), nI_clamp (by omega)]
    by_cases q0 : j = 0
    · rw [if_pos q0]
    · rw [if_neg q0]
      by_cases q1 : j = 1
      · rw [if_pos q1]
      · rw [if_neg q1, if_pos (by omega)]
def R_its (x k : Int32) (g : Nat → Int32) (n : Nat) : Int32 ⊕ Fin 8 := if inR x 0 ((n : Int) - 1) then (if inR k 0 5 then .inl (itsG g x.toNatClampNeg k) else if inR k 10 13 then .inl (itsG g x.toNatClampNeg k) else .inr 0) else .inr 0
theorem call_its {s : Mem} (hR : Rel s) (x k : Int32) : OK2 (fX6_its s x k) (fun s1 => fX7_its s1 x k) := by
  refine ok_r hR (R_its x k) (fun n hS hP => ?_) (fun s1 n f hS hP => ?_)
  · have hn := hP.1
    unfold fX6_its R_its gX6_its_34
    rw [C_isPupil s x hn hP.2.2.1, Option.bind_some, bi_n0, wi_in k 0 5 (by decide) (by decide), Option.bind_some, bi_n0, wi_in k 10 13 (by decide) (by decide), Option.bind_some, bi_n0]
    cases e : inR x 0 ((n : Int) - 1)
    · rfl
    · obtain ⟨p, hp, rfl⟩ := isP_ex hn e
      rw [nI_clamp (by omega)]
      cases e2 : inR k 0 5
      · cases e3 : inR k 10 13
        · rfl
        · rw [C_its40 s hS hP hp (Or.inr e3)]; rfl
      · rw [C_its40 s hS hP hp (Or.inl e2)]; rfl
  · have hn := hP.1
    show fX7_its s1 x k = _
    unfold fX7_its R_its gX7_its_34
    rw [M_isPupil s1 x hn hP.2.1, Option.bind_some, bi_n0, mi_in k 0 5 (by decide) (by decide), Option.bind_some, bi_n0, mi_in k 10 13 (by decide) (by decide), Option.bind_some, bi_n0]
    cases e : inR x 0 ((n : Int) - 1)
    · rfl
    · obtain ⟨p, hp, rfl⟩ := isP_ex hn e
      rw [nI_clamp (by omega)]
      cases e2 : inR k 0 5
      · cases e3 : inR k 10 13
        · rfl
        · rw [M_its40 s1 hS hP hp (Or.inr e3)]; rfl
      · rw [M_its40 s1 hS hP hp (Or.inl e2)]; rfl
def whyF (g : Nat → Int32) (n p c : Nat) (k : Int32) (t : Nat) : Bool := if k = 0 then lawG g c t && clsG g p c t else freG g p c t && !hasG g n c t (nI p)
theorem M_whyL {f : Nat → Int32} (s : Mem) {n p c : Nat} (k : Int32) (hP : PG f (s.1 20) n) (hp : p < n) (hc : c < 4) : lp (fun a => bX7_why_42 s (nI p) (nI c) k a.1 a.2) 600 ((0 : Int32), (0 : Int32)) = some (setG (whyF (s.1 20) n p c k) 8) := by
  have hM := PG_okM hP
  have hs : ∀ i, i < 8 → bX7_why_42 s (nI p) (nI c) k (setG (whyF (s.1 20) n p c k) i) (nI i) = some (.inr (setG (whyF (s.1 20) n p c k) (i + 1), nI (i + 1))) := by
    intro i hi
    have e : setG (whyF (s.1 20) n p c k) (i + 1) = if whyF (s.1 20) n p c k i then setG (whyF (s.1 20) n p c k) i ||| ((1 : Int32) <<< (nI i &&& 31)) else setG (whyF (s.1 20) n p c k) i := rfl
    rw [e]
    generalize setG (whyF (s.1 20) n p c k) i = a
    unfold bX7_why_42 gX7_why_88 gX7_why_89 gX7_why_115 whyF freG
    rw [if_neg (nI_c8 hi)]
    simp only [M_clashes s hp hc hi hM, M_isLawful s hc hi, M_hasRoom s (nI p) hc hi hM, Option.bind_some, bi_n0, or_0, lt, nI_p1]
    by_cases q : k = 0
    · rw [if_pos q, if_pos q]
      cases clsG (s.1 20) p c i <;> cases lawG (s.1 20) c i <;> rfl
    · rw [if_neg q, if_neg q]
      cases clsG (s.1 20) p c i <;> cases lawG (s.1 20) c i <;> cases hasG (s.1 20) n c i (nI p) <;> rfl
  have he : bX7_why_42 s (nI p) (nI c) k (setG (whyF (s.1 20) n p c k) 8) (nI 8) = some (.inl (setG (whyF (s.1 20) n p c k) 8)) := by
    unfold bX7_why_42
    rw [if_pos (by decide)]
  exact lp_at (body := fun a => bX7_why_42 s (nI p) (nI c) k a.1 a.2) (a := ((0 : Int32), (0 : Int32))) (k := 600) (fun i => (setG (whyF (s.1 20) n p c k) i, nI i)) 8 rfl hs he (by omega)
def R_why (x y k : Int32) (g : Nat → Int32) (n : Nat) : Int32 ⊕ Fin 8 := if inR x 0 ((n : Int) - 1) then (if inR y 0 3 then (if inR k 0 1 then (if wshG g x.toNatClampNeg y.toNatClampNeg then .inl (setG (whyF g n x.toNatClampNeg y.toNatClampNeg k) 8) else .inr 3) else .inr 0) else .inr 0) else .inr 0
theorem call_why {s : Mem} (hR : Rel s) (x y k : Int32) : OK2 (fX6_why s x y k) (fun s1 => fX7_why s1 x y k) := by
  refine ok_r hR (R_why x y k) (fun n hS hP => ?_) (fun s1 n f hS hP => ?_)
  · have hn := hP.1
    unfold fX6_why R_why gX6_why_25
    rw [C_isPupil s x hn hP.2.2.1, Option.bind_some, bi_n0, C_isCourse, Option.bind_some, bi_n0, wi_in k 0 1 (by decide) (by decide), Option.bind_some, bi_n0]
    cases e : inR x 0 ((n : Int) - 1)
    · rfl
    · cases e2 : inR y 0 3
      · rfl
      · cases e4 : inR k 0 1
        · rfl
        · obtain ⟨p, hp, rfl⟩ := isP_ex hn e
          obtain ⟨c, hc, rfl⟩ := inR_ex (h := 3) (by omega) e2
          rw [if_pos rfl, if_pos rfl, if_pos rfl, if_pos rfl, if_pos rfl, if_pos rfl, C_wsh s hP hp, Option.bind_some, bi_n0, nI_clamp (by omega), nI_clamp (by omega)]
          cases e3 : wshG (s.1 20) p c
          · rfl
          · rw [if_pos rfl, if_pos rfl, C_freeSet s (Gd_BR hS hP) (PG_okP hP) (SG_hrOK hS) hp (by omega) (fun k hk _ t ht => PG_snd hP k hk p hp t ht), Option.bind_some, C_crowded s (Gd_BR hS hP) (PG_okP hP) (by omega) (PG_snd hP c (by omega)), Option.bind_some, C_lawfulSet s hS (by omega), Option.bind_some, crw_set hS.1 (by omega), setG_diff]
            have ea : setG (fun t => lawG (s.1 20) c t && !freG (s.1 20) p c t) 8 = setG (fun t => lawG (s.1 20) c t && clsG (s.1 20) p c t) 8 := by
              apply setG_congr _ 8 (by omega)
              intro t ht
              unfold freG
              cases lawG (s.1 20) c t <;> cases clsG (s.1 20) p c t <;> rfl
            rw [ea]
            by_cases q : k = 0
            · rw [if_pos q, q]; rfl
            · rw [if_neg q]
              have eb : setG (whyF (s.1 20) n p c k) 8 = setG (fun t => freG (s.1 20) p c t && !hasG (s.1 20) n c t (nI p)) 8 := by
                apply setG_congr _ 8 (by omega)
                intro t ht
                unfold whyF
                rw [if_neg q]
              rw [eb]; rfl
  · have hn := hP.1
    show fX7_why s1 x y k = _
    unfold fX7_why R_why
    rw [mi_in k 0 1 (by decide) (by decide), Option.bind_some, bi_n0, M_whyNot s1 x y hn hP.2.1, Option.bind_some]
    cases e : inR x 0 ((n : Int) - 1)
    · rw [why_out1 e]
      cases inR k 0 1 <;> rfl
    · cases e2 : inR y 0 3
      · rw [why_out2 e2]
        cases inR k 0 1 <;> rfl
      · obtain ⟨p, hp, rfl⟩ := isP_ex hn e
        obtain ⟨c, hc, rfl⟩ := inR_ex (h := 3) (by omega) e2
        rw [whyG_in hn hp (by omega), nI_clamp (by omega), nI_clamp (by omega), M_whyL s1 k hP hp (by omega), Option.bind_some]
        cases inR k 0 1 <;> cases e3 : wshG (s1.1 20) p c <;> rfl
/-- what is picked, or why not -/
def pkR (o : Option Nat) : Int32 ⊕ Fin 8 := match o with
  | none => .inr 4
  | some t => .inl (nI t)
def R_would (x y r : Int32) (g : Nat → Int32) (n : Nat) : Int32 ⊕ Fin 8 := if inR x 0 ((n : Int) - 1) then (if inR y 0 3 then (if inR r 0 4 then (if wshG g x.toNatClampNeg y.toNatClampNeg then pkR (pckO (fitG g n x.toNatClampNeg y.toNatClampNeg) (mrkG g n x.toNatClampNeg y.toNatClampNeg r.toNatClampNeg) 8) else .inr 3) else .inr 0) else .inr 0) else .inr 0
def encR : Int32 ⊕ Fin 8 → Int32
  | .inl a => a
  | .inr k => (-1 : Int32) - nI k.val
def whyR : Int32 ⊕ Fin 8 → Int32
  | .inl _ => -1
  | .inr k => nI k.val
theorem C_choice (s : Mem) {g : Nat → Int32} {n : Nat} (x y r : Int32) (hS : SG (s.1 2) g) (hP : PG (s.1 2) g n) : fX6_choice s x y r = some (encR (R_would x y r g n)) := by
  have hn := hP.1
  unfold fX6_choice R_would
  rw [C_isPupil s x hn hP.2.2.1, Option.bind_some, bi_n0, C_isCourse, Option.bind_some, bi_n0, wi_in r 0 4 (by decide) (by decide), Option.bind_some, bi_n0]
  cases e : inR x 0 ((n : Int) - 1)
  · rfl
  · cases e2 : inR y 0 3
    · rfl
    · cases e4 : inR r 0 4
      · rfl
      · obtain ⟨p, hp, rfl⟩ := isP_ex hn e
        obtain ⟨c, hc, rfl⟩ := inR_ex (h := 3) (by omega) e2
        obtain ⟨rr, hrr, rfl⟩ := inR_ex (h := 4) (by omega) e4
        rw [if_pos rfl, if_pos rfl, if_pos rfl, if_pos rfl, if_pos rfl, if_pos rfl, C_wsh s hP hp, Option.bind_some, bi_n0, nI_clamp (by omega), nI_clamp (by omega), nI_clamp (by omega)]
        cases e3 : wshG g p c
        · rfl
        · rw [if_pos rfl, if_pos rfl, C_choose s hS hP hp (by omega) (by omega), Option.bind_some]
          have hb := pckO_fit (fitG g n p c) (mrkG g n p c rr) 8
          cases e5 : pckO (fitG g n p c) (mrkG g n p c rr) 8 with
          | none => rfl
          | some t =>
            have := (hb t e5).1
            rw [show encO (some t) = nI t from rfl, if_pos (nI_pos' (by omega))]
            rfl
theorem M_whyNoPick {f : Nat → Int32} (s : Mem) {n : Nat} (x y r : Int32) (hS : SG f (s.1 20)) (hP : PG f (s.1 20) n) : fX7_whyNoPick s x y r = some (whyR (R_would x y r (s.1 20) n)) := by
  have hn := hP.1
  unfold fX7_whyNoPick R_would
  rw [mi_in r 0 4 (by decide) (by decide), Option.bind_some, bi_n0, M_whyNot s x y hn hP.2.1, Option.bind_some]
  cases e : inR x 0 ((n : Int) - 1)
  · rw [why_out1 e]
    cases inR r 0 4 <;> rfl
  · cases e2 : inR y 0 3
    · rw [why_out2 e2]
      cases inR r 0 4 <;> rfl
    · obtain ⟨p, hp, rfl⟩ := isP_ex hn e
      obtain ⟨c, hc, rfl⟩ := inR_ex (h := 3) (by omega) e2
      rw [whyG_in hn hp (by omega), nI_clamp (by omega), nI_clamp (by omega)]
      cases e4 : inR r 0 4
      · rfl
      · obtain ⟨rr, hrr, rfl⟩ := inR_ex (h := 4) (by omega) e4
        rw [nI_clamp (by omega), M_picked s hS hP hp (by omega) (by omega), Option.bind_some]
        cases e3 : wshG (s.1 20) p c
        · rfl
        · have hb := pckO_fit (fitG (s.1 20) n p c) (mrkG (s.1 20) n p c rr) 8
          cases e5 : pckO (fitG (s.1 20) n p c) (mrkG (s.1 20) n p c rr) 8 with
          | none => rfl
          | some t =>
            have := (hb t e5).1
            rw [show encO (some t) = nI t from rfl, if_pos (nI_pos' (by omega))]
            rfl
theorem would_inl {x y r : Int32} {g : Nat → Int32} {n : Nat} {a : Int32} (hn : n ≤ 6) (h : R_would x y r g n = .inl a) : ∃ p c rr t, p < n ∧ c < 4 ∧ rr < 5 ∧ t < 8 ∧ x = nI p ∧ y = nI c ∧ r = nI rr ∧ a = nI t ∧ fitG g n p c t = true ∧ encO (pckO (fitG g n p c) (mrkG g n p c rr) 8) = nI t := by
  unfold R_would at h
  cases e : inR x 0 ((n : Int) - 1)
  · rw [e] at h; cases h
  · cases e2 : inR y 0 3
    · rw [e, e2] at h; cases h
    · cases e4 : inR r 0 4
      · rw [e, e2, e4] at h; cases h
      · obtain ⟨p, hp, rfl⟩ := isP_ex hn e
        obtain ⟨c, hc, rfl⟩ := inR_ex (h := 3) (by omega) e2
        obtain ⟨rr, hrr, rfl⟩ := inR_ex (h := 4) (by omega) e4
        rw [e, e2, e4, if_pos rfl, if_pos rfl, if_pos rfl, nI_clamp (by omega), nI_clamp (by omega), nI_clamp (by omega)] at h
        cases e3 : wshG g p c
        · rw [e3] at h; cases h
        · rw [e3, if_pos rfl] at h
          have hb := pckO_fit (fitG g n p c) (mrkG g n p c rr) 8
          cases e5 : pckO (fitG g n p c) (mrkG g n p c rr) 8 with
          | none => rw [e5] at h; cases h
          | some t =>
            rw [e5] at h
            have h2 : nI t = a := Sum.inl.inj h
            exact ⟨p, c, rr, t, hp, by omega, by omega, (hb t e5).1, rfl, rfl, rfl, h2.symm, (hb t e5).2, by rw [e5]; rfl⟩
theorem enc_neg : ∀ k : Fin 8, ¬ (0 : Int32) ≤ (-1 : Int32) - nI k.val := by decide +kernel
theorem enc_inv : ∀ k : Fin 8, (-1 : Int32) - ((-1 : Int32) - nI k.val) = nI k.val := by decide +kernel
theorem call_would {s : Mem} (hR : Rel s) (x y r : Int32) : OK2 (fX6_would s x y r) (fun s1 => fX7_would s1 x y r) := by
  refine ok_r hR (R_would x y r) (fun n hS hP => ?_) (fun s1 n f hS hP => ?_)
  · unfold fX6_would
    rw [C_choice s x y r hS hP, Option.bind_some]
    cases e : R_would x y r (s.1 20) n with
    | inl a =>
      obtain ⟨p, c, rr, t, hp, hc, hr, ht, rfl, rfl, rfl, rfl, h1, h2⟩ := would_inl hP.1 e
      rw [show encR (.inl (nI t)) = nI t from rfl, if_pos (nI_pos' (by omega))]
      rfl
    | inr k =>
      rw [show encR (.inr k) = (-1 : Int32) - nI k.val from rfl, if_neg (enc_neg k), enc_inv k]
      rfl
  · show fX7_would s1 x y r = _
    unfold fX7_would
    rw [M_whyNoPick s1 x y r hS hP, Option.bind_some]
    cases e : R_would x y r (s1.1 20) n with
    | inl a =>
      obtain ⟨p, c, rr, t, hp, hc, hr, ht, rfl, rfl, rfl, rfl, h1, h2⟩ := would_inl hP.1 e
      rw [show whyR (.inl (nI t)) = -1 from rfl, if_pos (by decide), M_picked s1 hS hP hp hc hr, h2]
      rfl
    | inr k =>
      rw [show whyR (.inr k) = nI k.val from rfl, if_neg (nI_pos (by omega))]
      rfl
/-! status, count -/
def sumI (h : Nat → Int32) : Nat → Int32 := itr (fun p a => a + h p) 0
theorem sumI_s (h : Nat → Int32) (n : Nat) : sumI h (n + 1) = sumI h n + h n := rfl
theorem sumI_cg {h h' : Nat → Int32} : ∀ n, (∀ k, k < n → h k = h' k) → sumI h n = sumI h' n
  | 0, _ => rfl
  | n + 1, e => by rw [sumI_s, sumI_s, e n (by omega), sumI_cg n (fun k hk => e k (by omega))]
theorem sumI_sub (h h' : Nat → Int32) : ∀ n, sumI (fun k => h k - h' k) n = sumI h n - sumI h' n
  | 0 => by show (0 : Int32) = 0 - 0; decide
  | n + 1 => by rw [sumI_s, sumI_s, sumI_s, sumI_sub h h' n]; grind
theorem call_status {s : Mem} (hR : Rel s) (x : Int32) : OK2 (fX6_status s x) (fun s1 => fX7_status s1 x) := by
  have hT := hR.2.2.1
  have hC : ∀ i, i < 8 → bX6_status_34 s (sumI (s.1 18) i) (nI i) = some (.inr (sumI (s.1 18) (i + 1), nI (i + 1))) := by
    intro i hi
    unfold bX6_status_34
    rw [if_neg (nI_c8 hi), gd_in hi (by omega), nI_clamp (by omega), sumI_s]
    simp only [lt, nI_p1]
  have hCe : bX6_status_34 s (sumI (s.1 18) 8) (nI 8) = some (.inl (sumI (s.1 18) 8)) := by
    unfold bX6_status_34
    rw [if_pos (by decide)]
  have hCl := lp_at (body := fun a => bX6_status_34 s a.1 a.2) (a := ((0 : Int32), (0 : Int32))) (k := 600) (fun i => (sumI (s.1 18) i, nI i)) 8 rfl hC hCe (by omega)
  have key : ∀ (s1 : Mem) (F : Nat → Int32), (∀ i, i < 8 → F i = if x < 0 ∨ x = nI i then s1.1 22 i else 0) → lp (fun a => bX7_status_24 s1 x a.1 a.2) 600 ((0 : Int32), (0 : Int32)) = some (sumI F 8) := by
    intro s1 F hF
    have hM : ∀ i, i < 8 → bX7_status_24 s1 x (sumI F i) (nI i) = some (.inr (sumI F (i + 1), nI (i + 1))) := by
      intro i hi
      unfold bX7_status_24 gX7_status_40
      rw [if_neg (nI_c8 hi), gd_in hi (by omega), nI_clamp (by omega), sumI_s, hF i hi]
      simp only [lt, nI_p1]
      by_cases q : x < 0
      · rw [if_pos q, if_pos (Or.inl q)]
      · rw [if_neg q]
        by_cases q2 : x = nI i
        · rw [if_pos q2, if_pos (Or.inr q2)]
        · rw [if_neg q2, if_neg (by rintro (z | z); exact q z; exact q2 z)]
    have hMe : bX7_status_24 s1 x (sumI F 8) (nI 8) = some (.inl (sumI F 8)) := by
      unfold bX7_status_24
      rw [if_pos (by decide)]
    exact lp_at (body := fun a => bX7_status_24 s1 x a.1 a.2) (a := ((0 : Int32), (0 : Int32))) (k := 600) (fun i => (sumI F i, nI i)) 8 rfl hM hMe (by omega)
  cases e : inR x (-1) 7
  · have e2 : inR x 0 7 = false := by
      rw [Bool.eq_false_iff]; intro q
      have := of_decide_eq_true q
      have h3 := of_decide_eq_false e
      omega
    have e3 : ¬ x = -1 := by
      rintro rfl
      exact absurd e (by decide)
    refine fnd hR 0 (by omega) _ ?_ (fun s1 _ _ => ?_)
    · unfold fX6_status
      rw [wi_in x 0 7 (by decide) (by decide), e2, Option.bind_some, bi_n0, if_neg (by decide), if_neg e3]
      rfl
    · show fX7_status s1 x = _
      unfold fX7_status
      rw [mi_in x (-1) 7 (by decide) (by decide), e, Option.bind_some, bi_n0, if_neg (by decide)]
      rfl
  · cases e2 : inR x 0 7
    · have e3 : x = -1 := by
        have h3 := of_decide_eq_false e2
        have h4 := of_decide_eq_true e
        apply Int32.toInt_inj.mp
        show x.toInt = -1
        omega
      subst e3
      refine ⟨sumI (s.1 18) 8, s, s, ?_, ?_, hR⟩
      · unfold fX6_status
        rw [wi_in (-1) 0 7 (by decide) (by decide), e2, Option.bind_some, bi_n0, if_neg (by decide), if_pos rfl, hCl]
        rfl
      · show fX7_status s (-1) = _
        unfold fX7_status
        rw [mi_in (-1) (-1) 7 (by decide) (by decide), e, Option.bind_some, bi_n0, if_pos rfl, key s (s.1 18) (fun i hi => by rw [if_pos (Or.inl (by decide)), hT i hi])]
        rfl
    · obtain ⟨j, hj, rfl⟩ := inR_ex (h := 7) (by omega) e2
      refine ⟨s.1 18 j, s, s, ?_, ?_, hR⟩
      · unfold fX6_status
        rw [wi_in (nI j) 0 7 (by decide) (by decide), e2, Option.bind_some, bi_n0, if_pos rfl, gd_in (by omega) (by omega), nI_clamp (by omega)]
      · show fX7_status s (nI j) = _
        unfold fX7_status
        rw [mi_in (nI j) (-1) 7 (by decide) (by decide), e, Option.bind_some, bi_n0, if_pos rfl, key s (fun i => if i = j then s.1 18 j else 0) (fun i hi => by
          by_cases q : i = j
          · rw [if_pos q, if_pos (Or.inr (by rw [q])), q, hT j (by omega)]
          · rw [if_neg q, if_neg]
            rintro (z | z)
            · exact nI_pos (by omega) z
            · exact q ((nI_eq (by omega) (by omega)).mp z).symm)]
        have fin : ∀ (v : Int32) (j : Nat), j < 8 → sumI (fun i => if i = j then v else 0) 8 = v := by
          intro v j hj
          have : ∀ m, m ≤ 8 → sumI (fun i => if i = j then v else 0) m = if j < m then v else 0 := by
            intro m
            induction m with
            | zero => intro _; rfl
            | succ m ih =>
              intro hm
              rw [sumI_s, ih (by omega)]
              by_cases q : j = m
              · subst q
                rw [if_neg (by omega), if_pos rfl, if_pos (by omega), Int32.zero_add]
              · by_cases q2 : j < m
                · rw [if_pos q2, if_neg (by omega), if_pos (by omega), Int32.add_zero]
                · rw [if_neg q2, if_neg (by omega), if_neg (by omega), Int32.add_zero]
          rw [this 8 (by omega), if_pos hj]
        rw [fin _ j (by omega)]
        rfl
