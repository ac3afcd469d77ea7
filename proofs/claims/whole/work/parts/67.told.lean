/-! calls that only tell: sections, pupils -/
def OK2 {α : Type} (X : Option (α × Mem)) (F : Mem → Option (α × Mem)) : Prop := ∃ a s1 s2, X = some (a, s1) ∧ F s1 = some (a, s2) ∧ Rel s2
def ansC (s : Mem) : Int32 ⊕ Fin 8 → Option (Int32 × Mem)
  | .inl a => some (a, s)
  | .inr k => (fX6_finding s (nI k.val)).bind (fun y => some (y.1, y.2))
def ansM (s : Mem) : Int32 ⊕ Fin 8 → Option (Int32 × Mem)
  | .inl a => some (a, s)
  | .inr k => (fX7_finds s (nI k.val)).bind (fun y => some (y.1, y.2))
theorem ok_r {s : Mem} (hR : Rel s) {C : Option (Int32 × Mem)} {F : Mem → Option (Int32 × Mem)} (R : (Nat → Int32) → Nat → Int32 ⊕ Fin 8) (hC : ∀ n, SG (s.1 2) (s.1 20) → PG (s.1 2) (s.1 20) n → C = ansC s (R (s.1 20) n)) (hM : ∀ (s1 : Mem) (n : Nat) (f : Nat → Int32), SG f (s1.1 20) → PG f (s1.1 20) n → F s1 = ansM s1 (R (s1.1 20) n)) : OK2 C F := by
  obtain ⟨hS, n, hP⟩ := hR.1
  have h1 := hC n hS hP
  cases e : R (s.1 20) n with
  | inl a =>
    rw [e] at h1
    have h2 := hM s n _ hS hP
    rw [e] at h2
    exact ⟨a, s, s, h1, h2, hR⟩
  | inr k =>
    rw [e] at h1
    refine fnd hR k.val k.isLt F h1 (fun s1 q1 q2 => ?_)
    have e20 : s1.1 20 = s.1 20 := q1 20 (by omega)
    have h2 := hM s1 n (s.1 2) (by rw [e20]; exact hS) (by rw [e20]; exact hP)
    rw [e20, e] at h2
    exact h2
def R_triples (x : Int32) (g : Nat → Int32) (_ : Nat) : Int32 ⊕ Fin 8 := if inR x 0 3 then .inl (setG (lawG g x.toNatClampNeg) 8) else .inr 0
theorem call_triples {s : Mem} (hR : Rel s) (x : Int32) : OK2 (fX6_triples s x) (fun s1 => fX7_triples s1 x) := by
  refine ok_r hR (R_triples x) (fun n hS hP => ?_) (fun s1 n f hS hP => ?_)
  · unfold fX6_triples R_triples
    rw [C_isCourse, Option.bind_some, bi_n0]
    cases e : inR x 0 3
    · rfl
    · obtain ⟨c, hc, rfl⟩ := inR_ex (h := 3) (by omega) e
      rw [if_pos rfl, if_pos rfl, C_lawfulSet s hS (by omega), nI_clamp (by omega)]
      rfl
  · show fX7_triples s1 x = _
    unfold fX7_triples R_triples
    rw [M_isCourse, Option.bind_some, bi_n0]
    cases e : inR x 0 3
    · rfl
    · obtain ⟨c, hc, rfl⟩ := inR_ex (h := 3) (by omega) e
      rw [if_pos rfl, if_pos rfl, M_lawful s1 (by omega), nI_clamp (by omega)]
      rfl
def R_time (x y : Int32) (g : Nat → Int32) (_ : Nat) : Int32 ⊕ Fin 8 := if inR x 0 3 then (if inR y 0 7 then (if lawG g x.toNatClampNeg y.toNatClampNeg then .inl (timeG g x.toNatClampNeg y.toNatClampNeg) else .inr 3) else .inr 0) else .inr 0
theorem call_time {s : Mem} (hR : Rel s) (x y : Int32) : OK2 (fX6_time s x y) (fun s1 => fX7_time s1 x y) := by
  refine ok_r hR (R_time x y) (fun n hS hP => ?_) (fun s1 n f hS hP => ?_)
  · unfold fX6_time R_time gX6_time_19
    rw [C_isCourse, Option.bind_some, bi_n0, wi_in y 0 7 (by decide) (by decide), Option.bind_some, bi_n0]
    cases e : inR x 0 3
    · rfl
    · cases e2 : inR y 0 7
      · rfl
      · obtain ⟨c, hc, rfl⟩ := inR_ex (h := 3) (by omega) e
        obtain ⟨t, ht, rfl⟩ := inR_ex (h := 7) (by omega) e2
        have hh := SG_hrOK hS c (by omega) t (by omega)
        simp only [if_true, C_hoursOf s (show c < 4 by omega) (show t < 8 by omega), Option.bind_some, nI_clamp (show c < 2 ^ 31 by omega), nI_clamp (show t < 2 ^ 31 by omega), hS.2.1 c (by omega) t (by omega)]
        unfold hrsG
        cases e3 : lawG (s.1 20) c t
        · rfl
        · rw [if_pos rfl, if_pos rfl, if_pos (by rw [i32_le]; rw [i32_lt] at hh; exact Int.not_lt.mp hh)]; rfl
  · show fX7_time s1 x y = _
    unfold fX7_time R_time gX7_time_19
    rw [M_isCourse, Option.bind_some, bi_n0, mi_in y 0 7 (by decide) (by decide), Option.bind_some, bi_n0]
    cases e : inR x 0 3
    · rfl
    · cases e2 : inR y 0 7
      · rfl
      · obtain ⟨c, hc, rfl⟩ := inR_ex (h := 3) (by omega) e
        obtain ⟨t, ht, rfl⟩ := inR_ex (h := 7) (by omega) e2
        simp only [if_true, M_isLawful s1 (show c < 4 by omega) (show t < 8 by omega), M_time s1 (show c < 4 by omega) (show t < 8 by omega), Option.bind_some, nI_clamp (show c < 2 ^ 31 by omega), nI_clamp (show t < 2 ^ 31 by omega), bi_n0]
        cases e3 : lawG (s1.1 20) c t <;> rfl
def R_uneven (x : Int32) (g : Nat → Int32) (n : Nat) : Int32 ⊕ Fin 8 := if inR x 0 3 then .inl (unvG g n x.toNatClampNeg 3) else .inr 0
theorem call_uneven {s : Mem} (hR : Rel s) (x : Int32) : OK2 (fX6_uneven s x) (fun s1 => fX7_uneven s1 x) := by
  refine ok_r hR (R_uneven x) (fun n hS hP => ?_) (fun s1 n f hS hP => ?_)
  · unfold fX6_uneven R_uneven
    rw [C_isCourse, Option.bind_some, bi_n0]
    cases e : inR x 0 3
    · rfl
    · obtain ⟨c, hc, rfl⟩ := inR_ex (h := 3) (by omega) e
      rw [if_pos rfl, if_pos rfl, C_unevenness s hS hP (by omega), nI_clamp (by omega)]
      rfl
  · show fX7_uneven s1 x = _
    unfold fX7_uneven R_uneven
    rw [M_isCourse, Option.bind_some, bi_n0]
    cases e : inR x 0 3
    · rfl
    · obtain ⟨c, hc, rfl⟩ := inR_ex (h := 3) (by omega) e
      rw [if_pos rfl, if_pos rfl, M_unevenOf s1 (PG_okM hP) (by omega), nI_clamp (by omega)]
      rfl
/-- of a section -/
def ofG (g : Nat → Int32) (n c so w : Nat) (k : Int32) : Int32 ⊕ Fin 8 := if k = 0 then .inl (bi (opn g c so w)) else if opn g c so w then (if 3 < k then (if k = 4 then .inl (nI (takG g c so w (-1) n)) else .inl (lefG g n c so w (-1))) else .inl (g (24 * c + 8 * so + 4 * w + k.toNatClampNeg))) else .inr 3
def R_of (c so w k : Int32) (g : Nat → Int32) (n : Nat) : Int32 ⊕ Fin 8 := if isSec c so w then (if inR k 0 5 then ofG g n c.toNatClampNeg so.toNatClampNeg w.toNatClampNeg k else .inr 0) else .inr 0
theorem bi_some (s : Mem) (b : Bool) : (if bi b = (0 : Int32) then some ((0 : Int32), s) else some ((1 : Int32), s)) = some (bi b, s) := by cases b <;> rfl
theorem call_of {s : Mem} (hR : Rel s) (c so w k : Int32) : OK2 (fX6_of s c so w k) (fun s1 => fX7_of s1 c so w k) := by
  refine ok_r hR (R_of c so w k) (fun n hS hP => ?_) (fun s1 n f hS hP => ?_)
  · unfold fX6_of R_of gX6_of_22
    rw [C_isSection, Option.bind_some, bi_n0, wi_in k 0 5 (by decide) (by decide), Option.bind_some, bi_n0]
    cases e : isSec c so w
    · rfl
    · cases e2 : inR k 0 5
      · rfl
      · obtain ⟨a, b, d, ha, hb, hd, rfl, rfl, rfl⟩ := isSec_ex e
        rw [if_pos rfl, if_pos rfl, if_pos rfl, if_pos rfl, nI_clamp (by omega), nI_clamp (by omega), nI_clamp (by omega), C_isOpen s ha hb hd, Option.bind_some, SR_opn hS.1 ha hb hd, bi_some]
        unfold ofG
        by_cases q0 : k = 0
        · rw [if_pos q0, if_pos q0]; rfl
        · rw [if_neg q0, if_neg q0, bi_n0]
          cases e3 : opn (s.1 20) a b d
          · rfl
          · have hany : b = 0 ∨ anyO (s.1 20) a b = true := by
              right
              unfold anyO
              obtain rfl | rfl : d = 0 ∨ d = 1 := by omega
              · rw [e3]; rfl
              · rw [e3, Bool.or_true]
            have h2 := C_ofSection s ha hb hd (j := 2) (by omega)
            rw [show nI 2 = (2 : Int32) from rfl, cap_eq hS.1 ha hb hd e3] at h2
            rw [if_pos rfl, if_pos rfl, C_taken s (-1) (Gd_BR hS hP) (PG_okP hP) ha hb hd (PG_snd hP a ha) hany, Option.bind_some, h2, Option.bind_some]
            by_cases q3 : 3 < k
            · rw [if_pos q3, if_pos q3]
              by_cases q4 : k = 4
              · rw [if_pos q4, if_pos q4]; rfl
              · rw [if_neg q4, if_neg q4]; rfl
            · rw [if_neg q3, if_neg q3]
              obtain ⟨j, hj, rfl⟩ := inR_ex (h := 5) (by omega) e2
              have hj3 : j ≤ 3 := by
                rw [show (3 : Int32) = nI 3 from rfl, nI_ltI (by omega) (by omega)] at q3; omega
              have hj0 : j ≠ 0 := fun q => q0 (by rw [q]; rfl)
              have hh := ((hS.1 a ha b hb d hd).2 (opn_1 e3)).1
              rw [C_ofSection s ha hb hd (by omega), Option.bind_some, nI_clamp (by omega)]
              obtain rfl | rfl | rfl : j = 1 ∨ j = 2 ∨ j = 3 := by omega
              · rw [hh.1]; rfl
              · rw [hh.2.1]; rfl
              · rw [hh.2.2]; rfl
  · show fX7_of s1 c so w k = _
    unfold fX7_of R_of gX7_of_22
    rw [M_isSection, Option.bind_some, bi_n0, mi_in k 0 5 (by decide) (by decide), Option.bind_some, bi_n0]
    cases e : isSec c so w
    · rfl
    · cases e2 : inR k 0 5
      · rfl
      · obtain ⟨a, b, d, ha, hb, hd, rfl, rfl, rfl⟩ := isSec_ex e
        have hM := PG_okM hP
        rw [if_pos rfl, if_pos rfl, if_pos rfl, if_pos rfl, nI_clamp (by omega), nI_clamp (by omega), nI_clamp (by omega), M_isOpen s1 ha hb hd, Option.bind_some, Option.bind_some, bi_some]
        unfold ofG
        by_cases q0 : k = 0
        · rw [if_pos q0, if_pos q0]; rfl
        · rw [if_neg q0, if_neg q0, bi_n0]
          cases e3 : opn (s1.1 20) a b d
          · rfl
          · rw [if_pos rfl, if_pos rfl, M_taken s1 (-1) ha hb hd hM.1 hM.2.1 (fun p hp => hM.2.2 p hp a ha), Option.bind_some, M_at a ha b hb d hd, Option.bind_some, Option.bind_some]
            obtain ⟨j, hj, rfl⟩ := inR_ex (h := 5) (by omega) e2
            have hq : ((4 : Int32) ≤ nI j) ↔ ((3 : Int32) < nI j) := by
              rw [show (4 : Int32) = nI 4 from rfl, show (3 : Int32) = nI 3 from rfl, nI_leI (by omega) (by omega), nI_ltI (by omega) (by omega)]; omega
            simp only [hq]
            by_cases q3 : 3 < nI j
            · rw [if_pos q3, if_pos q3]
              by_cases q4 : nI j = 4
              · rw [if_pos q4, if_pos q4]; rfl
              · rw [if_neg q4, if_neg q4, nI_p2, gd_in (by omega) (by omega), nI_clamp (by omega)]; rfl
            · have hj3 : j ≤ 3 := by
                rw [show (3 : Int32) = nI 3 from rfl, nI_ltI (by omega) (by omega)] at q3; omega
              rw [if_neg q3, if_neg q3, nI_add, gd_in (by omega) (by omega), nI_clamp (by omega), nI_clamp (by omega)]; rfl
def R_fits (x y : Int32) (g : Nat → Int32) (n : Nat) : Int32 ⊕ Fin 8 := if inR x 0 ((n : Int) - 1) then (if inR y 0 3 then (if wshG g x.toNatClampNeg y.toNatClampNeg then .inl (setG (fitG g n x.toNatClampNeg y.toNatClampNeg) 8) else .inr 3) else .inr 0) else .inr 0
theorem why_out1 {g : Nat → Int32} {n : Nat} {x y : Int32} (h : inR x 0 ((n : Int) - 1) = false) : whyG g n x y = 0 := by
  unfold whyG; rw [if_neg (fun q => by rw [h] at q; cases q.1)]
theorem why_out2 {g : Nat → Int32} {n : Nat} {x y : Int32} (h : inR y 0 3 = false) : whyG g n x y = 0 := by
  unfold whyG; rw [if_neg (fun q => by rw [h] at q; cases q.2)]
theorem call_fits {s : Mem} (hR : Rel s) (x y : Int32) : OK2 (fX6_fits s x y) (fun s1 => fX7_fits s1 x y) := by
  refine ok_r hR (R_fits x y) (fun n hS hP => ?_) (fun s1 n f hS hP => ?_)
  · have hn := hP.1
    unfold fX6_fits R_fits gX6_fits_15
    rw [C_isPupil s x hn hP.2.2.1, Option.bind_some, bi_n0, C_isCourse, Option.bind_some, bi_n0]
    cases e : inR x 0 ((n : Int) - 1)
    · rfl
    · cases e2 : inR y 0 3
      · rfl
      · obtain ⟨p, hp, rfl⟩ := isP_ex hn e
        obtain ⟨c, hc, rfl⟩ := inR_ex (h := 3) (by omega) e2
        rw [if_pos rfl, if_pos rfl, if_pos rfl, if_pos rfl, C_wsh s hP hp, Option.bind_some, bi_n0, nI_clamp (by omega), nI_clamp (by omega)]
        cases e3 : wshG (s.1 20) p c
        · rfl
        · rw [if_pos rfl, if_pos rfl, C_freeSet s (Gd_BR hS hP) (PG_okP hP) (SG_hrOK hS) hp (by omega) (fun k hk _ t ht => PG_snd hP k hk p hp t ht), Option.bind_some, C_crowded s (Gd_BR hS hP) (PG_okP hP) (by omega) (PG_snd hP c (by omega)), Option.bind_some, fit_set hS.1 (by omega)]
          rfl
  · have hn := hP.1
    show fX7_fits s1 x y = _
    unfold fX7_fits R_fits
    rw [M_whyNot s1 x y hn hP.2.1, Option.bind_some]
    cases e : inR x 0 ((n : Int) - 1)
    · rw [why_out1 e]; rfl
    · cases e2 : inR y 0 3
      · rw [why_out2 e2]; rfl
      · obtain ⟨p, hp, rfl⟩ := isP_ex hn e
        obtain ⟨c, hc, rfl⟩ := inR_ex (h := 3) (by omega) e2
        rw [whyG_in hn hp (by omega), if_pos rfl, if_pos rfl, nI_clamp (by omega), nI_clamp (by omega), M_fitting s1 hp (by omega) (PG_okM hP), Option.bind_some]
        cases e3 : wshG (s1.1 20) p c <;> rfl
def R_both (x y : Int32) (g : Nat → Int32) (n : Nat) : Int32 ⊕ Fin 8 := if inR x 0 ((n : Int) - 1) then (if inR y 0 ((n : Int) - 1) then (if x = y then .inr 0 else .inl (busyG g x.toNatClampNeg (-1) 4 &&& busyG g y.toNatClampNeg (-1) 4)) else .inr 0) else .inr 0
theorem call_both {s : Mem} (hR : Rel s) (x y : Int32) : OK2 (fX6_both s x y) (fun s1 => fX7_both s1 x y) := by
  refine ok_r hR (R_both x y) (fun n hS hP => ?_) (fun s1 n f hS hP => ?_)
  · have hn := hP.1
    unfold fX6_both R_both gX6_both_21
    rw [C_isPupil s x hn hP.2.2.1, Option.bind_some, bi_n0, C_isPupil s y hn hP.2.2.1, Option.bind_some, bi_n0]
    cases e : inR x 0 ((n : Int) - 1)
    · rfl
    · cases e2 : inR y 0 ((n : Int) - 1)
      · rfl
      · obtain ⟨p, hp, rfl⟩ := isP_ex hn e
        obtain ⟨q, hq, rfl⟩ := isP_ex hn e2
        rw [if_pos rfl, if_pos rfl, if_pos rfl, if_pos rfl, nI_clamp (by omega), nI_clamp (by omega), C_busyA s hS hP hp, Option.bind_some, C_busyA s hS hP hq, Option.bind_some]
        by_cases z : nI p = nI q
        · rw [if_pos z, if_pos z]; rfl
        · rw [if_neg z, if_neg z]; rfl
  · have hn := hP.1
    show fX7_both s1 x y = _
    unfold fX7_both R_both gX7_both_21
    rw [M_isPupil s1 x hn hP.2.1, Option.bind_some, bi_n0, M_isPupil s1 y hn hP.2.1, Option.bind_some, bi_n0]
    cases e : inR x 0 ((n : Int) - 1)
    · rfl
    · cases e2 : inR y 0 ((n : Int) - 1)
      · rfl
      · obtain ⟨p, hp, rfl⟩ := isP_ex hn e
        obtain ⟨q, hq, rfl⟩ := isP_ex hn e2
        rw [if_pos rfl, if_pos rfl, if_pos rfl, if_pos rfl, nI_clamp (by omega), nI_clamp (by omega), M_busyA s1 (PG_okM hP) hp, Option.bind_some, M_busyA s1 (PG_okM hP) hq, Option.bind_some]
        by_cases z : nI p = nI q
        · rw [if_pos z, if_pos z]; rfl
        · rw [if_neg z, if_neg z]; rfl
def undG (a b : Nat) : Bool := decide (b = 0) || decide (b = a) || (decide (a = 3) && decide (b = 1)) || (decide (a = 4) && decide (b = 2))
theorem C_isUnder : ∀ a, a < 6 → ∀ b, b < 6 → fX1_isUnder (nI a) (nI b) = some (bi (undG a b)) := by decide +kernel
def R_as (x y : Int32) (g : Nat → Int32) (n : Nat) : Int32 ⊕ Fin 8 := if inR x 0 ((n : Int) - 1) then (if inR y 0 5 then (if undG (g (97 + 7 * x.toNatClampNeg)).toNatClampNeg y.toNatClampNeg then .inl (costI y (busyG g x.toNatClampNeg (-1) 4)) else .inr 2) else .inr 0) else .inr 0
theorem call_as {s : Mem} (hR : Rel s) (x y : Int32) : OK2 (fX6_as s x y) (fun s1 => fX7_as s1 x y) := by
  refine ok_r hR (R_as x y) (fun n hS hP => ?_) (fun s1 n f hS hP => ?_)
  · have hn := hP.1
    unfold fX6_as R_as gX6_as_15
    rw [C_isPupil s x hn hP.2.2.1, Option.bind_some, bi_n0, C_isKind, Option.bind_some, bi_n0]
    cases e : inR x 0 ((n : Int) - 1)
    · rfl
    · cases e2 : inR y 0 5
      · rfl
      · obtain ⟨p, hp, rfl⟩ := isP_ex hn e
        obtain ⟨b, hb, rfl⟩ := inR_ex (h := 5) (by omega) e2
        obtain ⟨a, ha, hk⟩ := (hP.2.2.2.2 p hp).1
        rw [if_pos rfl, if_pos rfl, if_pos rfl, if_pos rfl, nI_clamp (show p < 2 ^ 31 by omega), C_kind s hP hp, Option.bind_some, hk, C_isUnder a ha b (by omega), Option.bind_some, bi_n0, nI_clamp (by omega), nI_clamp (by omega), C_busyA s hS hP hp, Option.bind_some, C_price _ (busy_hr hS hP hp _ 4 (by omega)), Option.bind_some]
        cases undG a b <;> rfl
  · have hn := hP.1
    show fX7_as s1 x y = _
    unfold fX7_as R_as gX7_as_15
    rw [M_isPupil s1 x hn hP.2.1, Option.bind_some, bi_n0, M_isKind, Option.bind_some, bi_n0]
    cases e : inR x 0 ((n : Int) - 1)
    · rfl
    · cases e2 : inR y 0 5
      · rfl
      · obtain ⟨p, hp, rfl⟩ := isP_ex hn e
        obtain ⟨b, hb, rfl⟩ := inR_ex (h := 5) (by omega) e2
        obtain ⟨a, ha, hk⟩ := (hP.2.2.2.2 p hp).1
        have h62 : gX7_as_62 s1 (nI p) (nI b) = some (costI (nI b) (busyG (s1.1 20) p (-1) 4), s1) := by
          unfold gX7_as_62
          rw [M_busyA s1 (PG_okM hP) hp, Option.bind_some, M_cost _ (busy_hr hS hP hp _ 4 (by omega)), Option.bind_some]
        have r0 : (nI b = (0 : Int32)) ↔ b = 0 := nI_eq (b := 0) (by omega) (by omega)
        have r1 : (nI b = nI a) ↔ b = a := nI_eq (by omega) (by omega)
        have r2 : (nI a = (3 : Int32)) ↔ a = 3 := nI_eq (b := 3) (by omega) (by omega)
        have r3 : (nI b = (1 : Int32)) ↔ b = 1 := nI_eq (b := 1) (by omega) (by omega)
        have r4 : (nI a = (4 : Int32)) ↔ a = 4 := nI_eq (b := 4) (by omega) (by omega)
        have r5 : (nI b = (2 : Int32)) ↔ b = 2 := nI_eq (b := 2) (by omega) (by omega)
        rw [if_pos rfl, if_pos rfl, nI_clamp (show p < 2 ^ 31 by omega), M_kindOf s1 (by omega), Option.bind_some, hk, nI_clamp (by omega), nI_clamp (by omega)]
        unfold gX7_as_46 gX7_as_56
        rw [h62]
        simp only [r0, r1, r2, r3, r4, r5]
        unfold undG
        by_cases c0 : b = 0
        · simp [c0, ansM]
        · by_cases c1 : b = a
          · simp [c1, ansM]
          · by_cases c2 : a = 3
            · by_cases c3 : b = 1
              · simp [c2, c3, ansM]
              · simp [c0, c1, c2, c3, ansM, show ¬ b = 3 by omega]; rfl
            · by_cases c4 : a = 4
              · by_cases c5 : b = 2
                · simp [c4, c5, ansM]
                · simp [c0, c1, c4, c5, ansM, show ¬ b = 4 by omega]; rfl
              · simp [c0, c1, c2, c4, ansM]; rfl
