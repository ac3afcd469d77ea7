/-! the reference: seats; what a best seating is worth -/
theorem preL_0 (o : Option (Int × List Nat)) : preL 0 [] o = o := by
  cases o with
  | none => rfl
  | some u => show some (0 + u.1, u.2) = some u; rw [Int.zero_add]
theorem M_seats46 (s : Mem) {n cs p : Nat} (hM : okM (s.1 20) n) (hcs : cs < 4) (hp : p < n) : lp (fun a => bX7_seats_46 a.2 (nI cs) (nI p) a.1) 600 ((0 : Int32), up2 s 27 p 0) = some (up2 s 27 p (setG (mayG (s.1 20) cs p) 8)) := by
  have hn := hM.1
  have hs : ∀ i, i < 8 → bX7_seats_46 (up2 s 27 p (setG (mayG (s.1 20) cs p) i)) (nI cs) (nI p) (nI i) = some (.inr (nI (i + 1), up2 s 27 p (setG (mayG (s.1 20) cs p) (i + 1)))) := by
    intro i hi
    have e : setG (mayG (s.1 20) cs p) (i + 1) = if mayG (s.1 20) cs p i then setG (mayG (s.1 20) cs p) i ||| ((1 : Int32) <<< (nI i &&& 31)) else setG (mayG (s.1 20) cs p) i := rfl
    have e20 : (up2 s 27 p (setG (mayG (s.1 20) cs p) i)).1 20 = s.1 20 := up2_n (by omega)
    have hl := M_isLawful (up2 s 27 p (setG (mayG (s.1 20) cs p) i)) hcs hi
    have hc := M_clashes (up2 s 27 p (setG (mayG (s.1 20) cs p) i)) (n := n) hp hcs hi (by rw [e20]; exact hM)
    rw [e20] at hl hc
    have huu : ∀ v w, up2 (up2 s 27 p v) 27 p w = up2 s 27 p w := fun v w => by rw [up2_R, up2_R, upR_s, upR_R, upd_upd, up2_R]
    unfold bX7_seats_46
    rw [if_neg (nI_c8 hi), M_wishes _ (by omega), Option.bind_some, M_has, Option.bind_some, bi_n0, e20, hl, Option.bind_some, bi_n0, hc, Option.bind_some, bi_n0, gd_in (by omega) (by omega), gd_in (by omega) (by omega), nI_clamp (by omega), e, up2_s, pk_us, huu]
    simp only [lt_e, nI_p1]
    unfold mayG freG wshG
    cases decide ((s.1 20 (99 + 7 * p) >>> (nI cs &&& 31)) &&& (1 : Int32) = 1) <;> cases lawG (s.1 20) cs i <;> cases clsG (s.1 20) p cs i <;> rfl
  have he : bX7_seats_46 (up2 s 27 p (setG (mayG (s.1 20) cs p) 8)) (nI cs) (nI p) (nI 8) = some (.inl (up2 s 27 p (setG (mayG (s.1 20) cs p) 8))) := by
    unfold bX7_seats_46
    rw [if_pos (by decide)]
  exact lp_at (body := fun a => bX7_seats_46 a.2 (nI cs) (nI p) a.1) (a := ((0 : Int32), up2 s 27 p 0)) (k := 600) (fun i => (nI i, up2 s 27 p (setG (mayG (s.1 20) cs p) i))) 8 rfl hs he (by omega)
theorem M_seats23 (s : Mem) {n cs : Nat} (hM : okM (s.1 20) n) (hcs : cs < 4) : ∃ m2, lp (fun a => bX7_seats_23 a.2 (nI cs) a.1) 600 ((0 : Int32), s) = some m2 ∧ ((∀ a, a ≠ 27 → m2.1 a = s.1 a) ∧ m2.2 = s.2 ∧ ∀ p, p < n → m2.1 27 p = setG (mayG (s.1 20) cs p) 8) := by
  have hn := hM.1
  refine lp_inv (α := Int32 × Mem) (β := Mem) (fun i a => a.1 = nI i ∧ (∀ b, b ≠ 27 → a.2.1 b = s.1 b) ∧ a.2.2 = s.2 ∧ ∀ p, p < i → a.2.1 27 p = setG (mayG (s.1 20) cs p) 8) (fun m2 => (∀ a, a ≠ 27 → m2.1 a = s.1 a) ∧ m2.2 = s.2 ∧ ∀ p, p < n → m2.1 27 p = setG (mayG (s.1 20) cs p) 8) n ?_ ?_ (by omega) ⟨rfl, fun _ _ => rfl, rfl, fun p hp => by omega⟩
  · rintro i ⟨x, m'⟩ hi ⟨q1, q2, q3, q4⟩
    simp only at q1 q2 q3 q4
    subst q1
    left
    have e20 : m'.1 20 = s.1 20 := q2 20 (by omega)
    have h46 := M_seats46 m' (n := n) (cs := cs) (p := i) (by rw [e20]; exact hM) hcs hi
    rw [e20] at h46
    have eb : bX7_seats_23 m' (nI cs) (nI i) = some (.inr (nI (i + 1), up2 m' 27 i (setG (mayG (s.1 20) cs i) 8))) := by
      unfold bX7_seats_23
      simp only [cl96]
      rw [gd96, e20, hM.2.1, if_neg (nI_cn hi hn), gd_in (by omega) (by omega), nI_clamp (by omega), lt_e, h46, Option.bind_some, lt_e, nI_p1]
    refine ⟨_, eb, rfl, fun b hb => (up2_n hb).trans (q2 b hb), q3, fun p hp => ?_⟩
    show (up2 m' 27 i _).1 27 p = _
    rw [up2_s]
    by_cases z : p = i
    · subst z; rw [pk_us]
    · rw [pk_un z]; exact q4 p (by omega)
  · rintro ⟨x, m'⟩ ⟨q1, q2, q3, q4⟩
    simp only at q1 q2 q3 q4
    subst q1
    refine ⟨m', ?_, q2, q3, q4⟩
    show bX7_seats_23 m' (nI cs) (nI n) = _
    unfold bX7_seats_23
    simp only [cl96]
    rw [gd96, q2 20 (by omega), hM.2.1, if_pos (nI_le (Nat.le_refl n) (by omega))]
theorem M_seats117 (s : Mem) {cs : Nat} (hcs : cs < 4) : ∃ m2, lp (fun a => bX7_seats_117 a.2 (nI cs) a.1) 600 ((0 : Int32), s) = some m2 ∧ ((∀ a, a ≠ 26 → m2.1 a = s.1 a) ∧ m2.2 = s.2 ∧ ∀ so, so < 3 → ∀ w, w < 2 → m2.1 26 (2 * so + w) = s.1 20 (24 * cs + 8 * so + 4 * w + 2)) := by
  have inner : ∀ (so : Nat), so < 3 → ∀ m0 : Mem, (∀ a, a ≠ 26 → m0.1 a = s.1 a) → m0.2 = s.2 → (∀ so', so' < so → ∀ w, w < 2 → m0.1 26 (2 * so' + w) = s.1 20 (24 * cs + 8 * so' + 4 * w + 2)) → ∃ m2, lp (fun a => bX7_seats_126 a.2 (nI cs) (nI so) a.1) 600 ((0 : Int32), m0) = some m2 ∧ ((∀ a, a ≠ 26 → m2.1 a = s.1 a) ∧ m2.2 = s.2 ∧ (∀ so', so' < so → ∀ w, w < 2 → m2.1 26 (2 * so' + w) = s.1 20 (24 * cs + 8 * so' + 4 * w + 2)) ∧ ∀ w, w < 2 → m2.1 26 (2 * so + w) = s.1 20 (24 * cs + 8 * so + 4 * w + 2)) := by
    intro so hso m0 h1 h2 h3
    refine lp_inv (α := Int32 × Mem) (β := Mem) (fun i a => a.1 = nI i ∧ (∀ b, b ≠ 26 → a.2.1 b = s.1 b) ∧ a.2.2 = s.2 ∧ (∀ so', so' < so → ∀ w, w < 2 → a.2.1 26 (2 * so' + w) = s.1 20 (24 * cs + 8 * so' + 4 * w + 2)) ∧ ∀ w, w < i → a.2.1 26 (2 * so + w) = s.1 20 (24 * cs + 8 * so + 4 * w + 2)) (fun m2 => (∀ a, a ≠ 26 → m2.1 a = s.1 a) ∧ m2.2 = s.2 ∧ (∀ so', so' < so → ∀ w, w < 2 → m2.1 26 (2 * so' + w) = s.1 20 (24 * cs + 8 * so' + 4 * w + 2)) ∧ ∀ w, w < 2 → m2.1 26 (2 * so + w) = s.1 20 (24 * cs + 8 * so + 4 * w + 2)) 2 ?_ ?_ (by omega) ⟨rfl, h1, h2, h3, fun w hw => by omega⟩
    · rintro i ⟨x, m'⟩ hi ⟨q1, q2, q3, q4, q5⟩
      simp only at q1 q2 q3 q4 q5
      subst q1
      left
      have eb : bX7_seats_126 m' (nI cs) (nI so) (nI i) = some (.inr (nI (i + 1), up2 m' 26 (2 * so + i) (s.1 20 (24 * cs + 8 * so + 4 * i + 2)))) := by
        unfold bX7_seats_126
        rw [if_neg (nI_c2 hi), M_at cs hcs so hso i hi, Option.bind_some, nI_p2, nI_mul2, nI_add, gd_in (by omega) (by omega), gd_in (by omega) (by omega), nI_clamp (by omega), nI_clamp (by omega), lt_e, lt_e, nI_p1, q2 20 (by omega)]
      refine ⟨_, eb, rfl, fun b hb => (up2_n hb).trans (q2 b hb), q3, fun so' hs' w hw => ?_, fun w hw => ?_⟩
      · show (up2 m' 26 _ _).1 26 _ = _
        rw [up2_s, pk_un (by omega)]; exact q4 so' hs' w hw
      · show (up2 m' 26 _ _).1 26 _ = _
        rw [up2_s]
        by_cases z : w = i
        · subst z; rw [pk_us]
        · rw [pk_un (by omega)]; exact q5 w (by omega)
    · rintro ⟨x, m'⟩ ⟨q1, q2, q3, q4, q5⟩
      simp only at q1 q2 q3 q4 q5
      subst q1
      refine ⟨m', ?_, q2, q3, q4, q5⟩
      show bX7_seats_126 m' (nI cs) (nI so) (nI 2) = _
      unfold bX7_seats_126
      rw [if_pos (by decide)]
  refine lp_inv (α := Int32 × Mem) (β := Mem) (fun i a => a.1 = nI i ∧ (∀ b, b ≠ 26 → a.2.1 b = s.1 b) ∧ a.2.2 = s.2 ∧ ∀ so', so' < i → ∀ w, w < 2 → a.2.1 26 (2 * so' + w) = s.1 20 (24 * cs + 8 * so' + 4 * w + 2)) (fun m2 => (∀ a, a ≠ 26 → m2.1 a = s.1 a) ∧ m2.2 = s.2 ∧ ∀ so, so < 3 → ∀ w, w < 2 → m2.1 26 (2 * so + w) = s.1 20 (24 * cs + 8 * so + 4 * w + 2)) 3 ?_ ?_ (by omega) ⟨rfl, fun _ _ => rfl, rfl, fun so' h => by omega⟩
  · rintro i ⟨x, m'⟩ hi ⟨q1, q2, q3, q4⟩
    simp only at q1 q2 q3 q4
    subst q1
    left
    obtain ⟨m2, k1, k2, k3, k4, k5⟩ := inner i hi m' q2 q3 q4
    have eb : bX7_seats_117 m' (nI cs) (nI i) = some (.inr (nI (i + 1), m2)) := by
      unfold bX7_seats_117
      rw [if_neg (nI_c3 hi), k1, Option.bind_some, lt_e, nI_p1]
    refine ⟨_, eb, rfl, k2, k3, fun so' hs' w hw => ?_⟩
    by_cases z : so' = i
    · subst z; exact k5 w hw
    · exact k4 so' (by omega) w hw
  · rintro ⟨x, m'⟩ ⟨q1, q2, q3, q4⟩
    simp only at q1 q2 q3 q4
    subst q1
    refine ⟨m', ?_, q2, q3, q4⟩
    show bX7_seats_117 m' (nI cs) (nI 3) = _
    unfold bX7_seats_117
    rw [if_pos (by decide)]
theorem hl_0 (K1 K0 : Nat) : hl K1 K0 0 0 = true := by
  unfold hl
  rw [decide_eq_true (Nat.zero_le _), decide_eq_true (by omega)]; rfl
theorem M_seats {s : Mem} {f : Nat → Int32} {n cs : Nat} {ev : Bool} {wh : Option Nat} (hS : SG f (s.1 20)) (hM : okM (s.1 20) n) (hcs : cs < 4) (hwn : ∀ p, wh = some p → p < n) (hwe : ∀ p, wh = some p → ev = false) : ∃ m2, fX7_seats s (nI cs) (bi ev) (whI wh) = some m2 ∧ (∀ a, a ≠ 19 → a < 24 ∨ 27 < a → m2.1 a = s.1 a) ∧ (∀ j, j < 12 ∨ 17 < j → m2.1 19 j = s.1 19 j) ∧ (∀ a, a ≠ 19 → m2.2 a = s.2 a) ∧ m2.2 19 11 = lN (cnt (baseC f (s.1 20) n cs (0, 0, 0)) n st00) ∧ AccR m2 (s.1 20) f n cs ev wh (best (cmR f (s.1 20) n cs ev wh) n st00) := by
  have hn := hM.1
  generalize hs5 : upL (up2 (up2 (up2 s 19 15 (bi ev)) 19 17 (whI wh)) 19 16 0) 19 11 0 = s5
  have s5o : ∀ a, a ≠ 19 → s5.1 a = s.1 a := fun a ha => by rw [← hs5]; show (up2 (up2 (up2 s 19 15 (bi ev)) 19 17 (whI wh)) 19 16 0).1 a = _; rw [up2_n ha, up2_n ha, up2_n ha]
  have s5r : ∀ j, s5.1 19 j = if j = 16 then 0 else if j = 17 then whI wh else if j = 15 then bi ev else s.1 19 j := by
    intro j
    rw [← hs5]
    show (up2 (up2 (up2 s 19 15 (bi ev)) 19 17 (whI wh)) 19 16 0).1 19 j = _
    rw [up2_get, up2_get, up2_get]
    by_cases z1 : j = 16
    · rw [if_pos ⟨rfl, z1⟩, if_pos z1]
    · rw [if_neg (fun z => z1 z.2), if_neg z1]
      by_cases z2 : j = 17
      · rw [if_pos ⟨rfl, z2⟩, if_pos z2]
      · rw [if_neg (fun z => z2 z.2), if_neg z2]
        by_cases z3 : j = 15
        · rw [if_pos ⟨rfl, z3⟩, if_pos z3]
        · rw [if_neg (fun z => z3 z.2), if_neg z3]
  have s5l : ∀ a, a ≠ 19 → s5.2 a = s.2 a := fun a ha => by rw [← hs5, upL_R, upRL_n ha]; rfl
  have s5c : s5.2 19 11 = 0 := by rw [← hs5, upL_s, pk_uLs]
  obtain ⟨m1, k1, k2, k3, k4⟩ := M_seats23 s5 (n := n) (cs := cs) (by rw [s5o 20 (by omega)]; exact hM) hcs
  rw [s5o 20 (by omega)] at k4
  obtain ⟨b, j1, j2, j3, j4⟩ := M_seats117 m1 hcs
  have b20 : b.1 20 = s.1 20 := by rw [j2 20 (by omega), k2 20 (by omega), s5o 20 (by omega)]
  have b19 : b.1 19 = s5.1 19 := by rw [j2 19 (by omega), k2 19 (by omega)]
  have m120 : m1.1 20 = s.1 20 := by rw [k2 20 (by omega), s5o 20 (by omega)]
  rw [m120] at j4
  have hB : BaseR b f n cs ev wh := by
    unfold BaseR
    rw [b20]
    refine ⟨hS, hM, hcs, fun p hp => by rw [j2 27 (by omega)]; exact k4 p hp, ?_, ?_, hwn, hwe⟩
    · rw [b19, s5r, if_neg (by omega), if_neg (by omega), if_pos rfl]
    · rw [b19, s5r, if_neg (by omega), if_pos rfl]
  have hT : TryR b f n cs (fun _ => 0) 0 b := by
    refine ⟨⟨fun _ _ _ _ _ => rfl, fun _ _ _ _ _ => rfl, fun _ _ => rfl⟩, fun so hs w hw ho => ?_, fun p hp => by omega⟩
    rw [j4 so hs w hw, b20, (kN_v hS hcs hs hw).2, iI_n]
    have : cw (stF (fun _ => 0) 0) so w = 0 := by
      show (if w = 1 then 0 else 0 - 0) = 0
      split <;> rfl
    rw [this]; congr 1
  have hA : AccR b (b.1 20) f n cs ev wh none := by
    show b.1 19 16 = 0
    rw [b19, s5r, if_pos rfl]
  have hh : hold (baseC f (b.1 20) n cs (0, 0, 0)) (stF (fun _ => 0) 0) = true := by
    show (hl _ _ 0 0 && (hl _ _ 0 0 && hl _ _ 0 0)) = true
    rw [hl_0, hl_0, hl_0]; rfl
  obtain ⟨m2, d1, ⟨⟨d2, d3, d4⟩, -, -⟩, d5, d6⟩ := dfs hB n 0 8 (fun _ => 0) b none (by omega) (by omega) hT hh ⟨Nat.le_refl 0, Nat.le_refl 0, Nat.le_refl 0⟩ (Nat.le_refl 0) hA
  have e0 : (if vioB wh (hadG (b.1 20) cs) (fun _ => 0) 0 = true then (none : Option (Int × List Nat)) else pck none (preL (pvN (cmR f (b.1 20) n cs ev wh) (fun _ => 0) 0) (dl (fun _ => 0) 0) (best (cmR f (b.1 20) n cs ev wh) n (stF (fun _ => 0) 0)))) = best (cmR f (b.1 20) n cs ev wh) n st00 := by
    show pck none (preL 0 [] (best (cmR f (b.1 20) n cs ev wh) n st00)) = _
    rw [preL_0]; rfl
  rw [e0, b20] at d6
  rw [b20] at d5
  refine ⟨m2, ?_, fun a q1 q2 => ?_, fun j hj => ?_, fun a ha => ?_, ?_, d6⟩
  · unfold fX7_seats
    rw [gz_bi, lt_e, lt_e, lt_e, lt_e, hs5, k1, Option.bind_some, j1, Option.bind_some]
    unfold fX7_seatsFrom
    rw [show (0 : Int32) = nI 0 from rfl, d1]; rfl
  · rw [d2 a (by omega) (by omega) (by omega) q1, j2 a (by omega), k2 a (by omega), s5o a q1]
  · rw [d3 j (by omega) (by omega) (by omega) (by omega), b19, s5r, if_neg (by omega), if_neg (by omega), if_neg (by omega)]
  · rw [d4 a ha, j3, k3, s5l a ha]
  · rw [d5, j3, k3, s5c]
    show (0 : Int64) + lN _ = _
    rw [Int64.zero_add]; rfl
/-- the digits of the best: allowed, and what they are worth -/
theorem best_pv (c : SCx) : ∀ r k D u, r + k = cN c → best c r (stF D k) = some u → ∃ D' : Nat → Nat, (∀ p, p < k → D' p = D p) ∧ (∀ p, k ≤ p → p < cN c → D' p = u.2.getD (p - k) 0) ∧ pvN c D k + u.1 = pvN c D' (cN c) + -(cG c) * (gapS c (stF D' (cN c)) : Int) ∧ ∀ p, k ≤ p → p < cN c → D' p < 9 ∧ cAl c p (D' p) = true
  | 0, k, D, u, hk, e => by
    have ek : k = cN c := by omega
    refine ⟨D, fun _ _ => rfl, fun p h1 h2 => by omega, ?_, fun p h1 h2 => by omega⟩
    rw [← Option.some.inj e, ek]
  | r + 1, k, D, u, hk, e => by
    obtain ⟨dg, hd, h2⟩ := foldB_ex c _ _ _ 9 u e
    rw [show cN c - (r + 1) = k by omega] at h2
    obtain ⟨ha, st', u', h3, h4, h5⟩ := thrB_ex h2
    have est : st' = stF (updD D k dg) (k + 1) := by
      show st' = stN (stF (updD D k dg) k) (updD D k dg k)
      rw [updD_s, stF_cg (D' := D) k (fun p hp => updD_n D dg hp)]
      unfold stN
      rcases h3 with ⟨q, rfl⟩ | ⟨q, rfl, -⟩
      · rw [if_pos q]
      · rw [if_neg q]
    rw [est] at h4
    obtain ⟨D', w1, w2, w3, w4⟩ := best_pv c r (k + 1) (updD D k dg) u' (by omega) h4
    have ek : D' k = dg := by rw [w1 k (by omega), updD_s]
    refine ⟨D', fun p hp => by rw [w1 p (by omega), updD_n D dg hp], fun p p1 p2 => ?_, ?_, fun p p1 p2 => ?_⟩
    · rw [h5]
      by_cases q : p = k
      · subst q; rw [ek, Nat.sub_self]; rfl
      · rw [w2 p (by omega) p2, show p - k = p - (k + 1) + 1 by omega]; rfl
    · rw [← w3, h5]
      show pvN c D k + (joinC c k dg + u'.1) = pvN c (updD D k dg) k + joinC c k (updD D k dg k) + u'.1
      rw [updD_s, pvN_cg (D' := D) k (fun p hp => updD_n D dg hp)]; omega
    · by_cases q : p = k
      · subst q; rw [ek]; exact ⟨hd, ha⟩
      · exact w4 p (by omega) p2
theorem best_dig {c : SCx} {u : Int × List Nat} (e : best c (cN c) st00 = some u) : (∀ p, p < cN c → u.2.getD p 0 < 9 ∧ cAl c p (u.2.getD p 0) = true) ∧ u.1 = pvN c (fun p => u.2.getD p 0) (cN c) + -(cG c) * (gapS c (stF (fun p => u.2.getD p 0) (cN c)) : Int) := by
  obtain ⟨D', -, w2, w3, w4⟩ := best_pv c (cN c) 0 (fun _ => 0) u (by omega) e
  have hd : ∀ p, p < cN c → D' p = (fun p => u.2.getD p 0) p := fun p hp => by rw [w2 p (by omega) hp, Nat.sub_zero]
  refine ⟨fun p hp => ?_, ?_⟩
  · have := w4 p (by omega) hp
    rw [hd p hp] at this; exact this
  · rw [pvN_cg _ hd, stF_cg _ hd] at w3
    rw [← w3]
    show u.1 = 0 + u.1
    rw [Int.zero_add]
