/-! calls that seat a course anew -/
theorem ChC_idle {s s1 m : Mem} {f : Nat → Int32} (h : ChC s s1 f) (hr : ∀ a, a < 5 ∨ 11 < a → m.1 a = s1.1 a) (hl : m.2 = s1.2) : ChC s m f := by
  obtain ⟨h1, h2, h3, h4⟩ := h
  refine ⟨by rw [hr 2 (by omega)]; exact h1, ?_, by rw [hl]; exact h3, fun a q1 q2 q3 q4 => by rw [hr a q4]; exact h4 a q1 q2 q3 q4⟩
  intro sl u a b c d
  rw [hr 3 (by omega), hr 4 (by omega)]
  exact h2 sl u a b c d
theorem best_some {c : SCx} (h : ∀ k, k < cN c → cAl c k 0 = true) : ∀ r, r ≤ cN c → ∀ st, ∃ u, best c r st = some u
  | 0, _, st => ⟨_, rfl⟩
  | r + 1, hr, st => by
    obtain ⟨u, hu⟩ := best_some h r (by omega) st
    cases e : foldB c (cN c - (r + 1)) (best c r) st 9 with
    | some w => exact ⟨w, e⟩
    | none =>
      have := (foldB_first c (cN c - (r + 1)) (best c r) st 9).2 e 0 (by omega)
      unfold thrB thr0 at this
      rw [h _ (by omega), if_pos rfl, if_pos rfl, hu] at this
      cases this
def near (r : Int) : Option (Int × List Nat) → Option (Int × List Nat) → Prop
  | none, none => True
  | some a, some b => a.1 - r ≤ b.1 ∧ b.1 ≤ a.1
  | _, _ => False
theorem near_pck {r : Int} (hr : 0 ≤ r) {a1 a2 b1 b2 : Option (Int × List Nat)} (ha : near r a1 a2) (hb : near r b1 b2) : near r (pck a1 b1) (pck a2 b2) := by
  cases a1 with
  | none =>
    cases a2 with
    | none => exact hb
    | some _ => exact ha.elim
  | some x1 =>
    cases a2 with
    | none => exact ha.elim
    | some x2 =>
      cases b1 with
      | none =>
        cases b2 with
        | none => exact ha
        | some _ => exact hb.elim
      | some y1 =>
        cases b2 with
        | none => exact hb.elim
        | some y2 =>
          have h1 : x1.1 - r ≤ x2.1 ∧ x2.1 ≤ x1.1 := ha
          have h2 : y1.1 - r ≤ y2.1 ∧ y2.1 ≤ y1.1 := hb
          show near r (if x1.1 < y1.1 then some y1 else some x1) (if x2.1 < y2.1 then some y2 else some x2)
          by_cases q1 : x1.1 < y1.1 <;> by_cases q2 : x2.1 < y2.1
          · rw [if_pos q1, if_pos q2]; exact h2
          · rw [if_pos q1, if_neg q2]; show y1.1 - r ≤ x2.1 ∧ x2.1 ≤ y1.1; omega
          · rw [if_neg q1, if_pos q2]; show x1.1 - r ≤ y2.1 ∧ y2.1 ≤ x1.1; omega
          · rw [if_neg q1, if_neg q2]; exact h1
theorem near_best (f g : Nat → Int32) (n cs : Nat) : ∀ (r : Nat) (st : St), near ((r : Nat) : Int) (best (baseC f g n cs (10000, 0, 0)) r st) (best (baseC f g n cs (10000, 0, 1)) r st)
  | 0, st => by
    show (-(0 : Int)) * _ - ((0 : Nat) : Int) ≤ (-(0 : Int)) * _ ∧ (-(0 : Int)) * _ ≤ (-(0 : Int)) * _
    exact ⟨by rw [Int.neg_zero, Int.zero_mul, Int.zero_mul]; omega, Int.le_refl _⟩
  | r + 1, st => by
    have ih := near_best f g n cs r
    have hj : ∀ k dg, joinC (baseC f g n cs (10000, 0, 0)) k dg - 1 ≤ joinC (baseC f g n cs (10000, 0, 1)) k dg ∧ joinC (baseC f g n cs (10000, 0, 1)) k dg ≤ joinC (baseC f g n cs (10000, 0, 0)) k dg := by
      intro k dg
      have e1 : joinC (baseC f g n cs (10000, 0, 0)) k dg = (if dg = 0 then 0 else 10000) - (if hadG g cs k = 0 ∨ hadG g cs k = dg then 0 else 0) := rfl
      have e2 : joinC (baseC f g n cs (10000, 0, 1)) k dg = (if dg = 0 then 0 else 10000) - (if hadG g cs k = 0 ∨ hadG g cs k = dg then 0 else 1) := rfl
      rw [e1, e2]
      by_cases q : hadG g cs k = 0 ∨ hadG g cs k = dg
      · rw [if_pos q, if_pos q]; omega
      · rw [if_neg q, if_neg q]; omega
    have hext : ∀ k dg o1 o2, near (r : Int) o1 o2 → near ((r + 1 : Nat) : Int) (ext (joinC (baseC f g n cs (10000, 0, 0)) k dg) dg o1) (ext (joinC (baseC f g n cs (10000, 0, 1)) k dg) dg o2) := by
      intro k dg o1 o2 h
      have := hj k dg
      cases o1 with
      | none =>
        cases o2 with
        | none => trivial
        | some _ => exact h.elim
      | some a =>
        cases o2 with
        | none => exact h.elim
        | some b =>
          have h' : a.1 - (r : Int) ≤ b.1 ∧ b.1 ≤ a.1 := h
          show (joinC (baseC f g n cs (10000, 0, 0)) k dg + a.1) - ((r + 1 : Nat) : Int) ≤ joinC (baseC f g n cs (10000, 0, 1)) k dg + b.1 ∧ joinC (baseC f g n cs (10000, 0, 1)) k dg + b.1 ≤ joinC (baseC f g n cs (10000, 0, 0)) k dg + a.1
          omega
    have hth : ∀ k dg, near ((r + 1 : Nat) : Int) (thrB (baseC f g n cs (10000, 0, 0)) k (best (baseC f g n cs (10000, 0, 0)) r) st dg) (thrB (baseC f g n cs (10000, 0, 1)) k (best (baseC f g n cs (10000, 0, 1)) r) st dg) := by
      intro k dg
      unfold thrB thr0
      have e1 : cAl (baseC f g n cs (10000, 0, 1)) k dg = cAl (baseC f g n cs (10000, 0, 0)) k dg := rfl
      have e2 : hold (baseC f g n cs (10000, 0, 1)) (stA st (dg - 1)) = hold (baseC f g n cs (10000, 0, 0)) (stA st (dg - 1)) := rfl
      rw [e1, e2]
      cases cAl (baseC f g n cs (10000, 0, 0)) k dg
      · trivial
      · rw [if_pos rfl, if_pos rfl]
        by_cases q : dg = 0
        · rw [if_pos q, if_pos q]; exact hext k 0 _ _ (ih st)
        · rw [if_neg q, if_neg q]
          cases hold (baseC f g n cs (10000, 0, 0)) (stA st (dg - 1))
          · trivial
          · rw [if_pos rfl, if_pos rfl]; exact hext k dg _ _ (ih _)
    have hf : ∀ k i, near ((r + 1 : Nat) : Int) (foldB (baseC f g n cs (10000, 0, 0)) k (best (baseC f g n cs (10000, 0, 0)) r) st i) (foldB (baseC f g n cs (10000, 0, 1)) k (best (baseC f g n cs (10000, 0, 1)) r) st i) := by
      intro k i
      induction i with
      | zero => trivial
      | succ i hi => rw [foldB_s, foldB_s]; exact near_pck (by omega) hi (hth k i)
    exact hf _ 9
/-- how many sit is the same, whoever must move -/
theorem most_put {f g : Nat → Int32} {n cs : Nat} {u1 u2 : Int × List Nat} (hn : n ≤ 6) (e1 : best (baseC f g n cs (10000, 0, 0)) n st00 = some u1) (e2 : best (baseC f g n cs (10000, 0, 1)) n st00 = some u2) : putN (fun p => u1.2.getD p 0) n = putN (fun p => u2.2.getD p 0) n := by
  have hnr := near_best f g n cs n st00
  rw [e1, e2] at hnr
  have hnr' : u1.1 - (n : Int) ≤ u2.1 ∧ u2.1 ≤ u1.1 := hnr
  have b1 : u1.1 = pvN (baseC f g n cs (10000, 0, 0)) (fun p => u1.2.getD p 0) n + -(0 : Int) * _ := (best_dig (c := baseC f g n cs (10000, 0, 0)) e1).2
  have b2 : u2.1 = pvN (baseC f g n cs (10000, 0, 1)) (fun p => u2.2.getD p 0) n + -(0 : Int) * _ := (best_dig (c := baseC f g n cs (10000, 0, 1)) e2).2
  have p1 : pvN (baseC f g n cs (10000, 0, 0)) (fun p => u1.2.getD p 0) n = 10000 * (putN (fun p => u1.2.getD p 0) n : Int) - 0 * _ := pvN_v (baseC f g n cs (10000, 0, 0)) (fun p => u1.2.getD p 0) n
  have p2 : pvN (baseC f g n cs (10000, 0, 1)) (fun p => u2.2.getD p 0) n = 10000 * (putN (fun p => u2.2.getD p 0) n : Int) - 1 * (movN (hadG g cs) (fun p => u2.2.getD p 0) n : Int) := pvN_v (baseC f g n cs (10000, 0, 1)) (fun p => u2.2.getD p 0) n
  rw [Int.neg_zero, Int.zero_mul] at b1 b2
  rw [Int.zero_mul] at p1
  have := movN_le (hadG g cs) (fun p => u2.2.getD p 0) n
  omega
/-- the class's search for a course, nobody being bound to sit -/
theorem C_search {m : Mem} {g : Nat → Int32} {n cs : Nat} (w : Int × Int × Int) (hS : SG (m.1 2) g) (hP : PG (m.1 2) g n) (hcs : cs < 4) (wS : 0 ≤ w.1 ∧ w.1 ≤ 10000) (wG : 0 ≤ w.2.1 ∧ w.2.1 ≤ 100) (wM : 0 ≤ w.2.2 ∧ w.2.2 ≤ 1) : ∃ m1 m2 u, fX3_prepare m (nI cs) = some m1 ∧ fX3_finds m1 (iI w.1) (iI w.2.1) (iI w.2.2) = some (1, m2) ∧ (∀ a, a < 5 ∨ 11 < a → m2.1 a = m.1 a) ∧ m2.2 = m.2 ∧ m2.1 5 6 = nI n ∧ (∀ k, k < n → m2.1 8 k = nI (hadG g cs k) ∧ hadG g cs k < 9) ∧ best (baseC (m.1 2) g n cs w) n st00 = some u ∧ (∀ k, k < n → m2.1 9 k = nI (u.2.getD k 0) ∧ u.2.getD k 0 < 9) ∧ dgOK g cs n (fun p => u.2.getD p 0) := by
  obtain ⟨m1, ps, k1, k2, k3, k4, k5, k6, k7⟩ := C_prepare w hS hP hcs
  obtain ⟨b, m2, j1, j2, j3, j4, j5⟩ := C_finds (c := baseC (m.1 2) g n cs w) k4 (Prep_Seat k2 wS wG wM) k3
  obtain ⟨u, hu⟩ := best_some (c := baseC (m.1 2) g n cs w) (fun _ _ => rfl) n (Nat.le_refl n) st00
  rcases j5 with ⟨q, -, -⟩ | ⟨u', q, rfl, hd⟩
  · rw [show cN (baseC (m.1 2) g n cs w) = n from rfl, hu] at q; cases q
  · rw [show cN (baseC (m.1 2) g n cs w) = n from rfl, hu] at q
    obtain rfl := Option.some.inj q
    have hbd := (best_dig (c := baseC (m.1 2) g n cs w) hu).1
    refine ⟨m1, m2, u, k1, j1, fun a ha => by rw [j2 a (by omega) (by omega) (by omega), k5 a ha], by rw [j4, k6], by rw [j3 6 (by omega)]; exact k2.2.1, fun k hk => by rw [j2 8 (by omega) (by omega) (by omega)]; exact k2.2.2.2.1 k hk, hu, fun k hk => ⟨hd k hk, (hbd k hk).1⟩, fun p hp => ⟨(hbd p hp).1, fun hne => ?_⟩⟩
    have ha := (hbd p hp).2
    have : mayG g cs p (u.2.getD p 0 - 1) = true := by
      have e : cAl (baseC (m.1 2) g n cs w) p (u.2.getD p 0) = if u.2.getD p 0 = 0 then true else mayG g cs p (u.2.getD p 0 - 1) := rfl
      rw [e, if_neg hne] at ha; exact ha
    unfold mayG freG at this
    exact (Bool.and_eq_true_iff.mp (Bool.and_eq_true_iff.mp this).2).1
theorem M_becomesBest {s1 m : Mem} {n cs : Nat} {D : Nat → Nat} {fs u : Nat} (hfs : fs < 30) (hu : u ≤ 30) (e3 : s1.1 19 2 = nI fs) (e4 : s1.1 19 3 = nI u) (hn : n ≤ 6) (hcs : cs < 4) (h96 : s1.1 20 96 = nI n) (h25 : ∀ p, p < n → m.1 25 p = nI (D p)) (hm : ∀ a, a ≠ 19 → a < 24 ∨ 27 < a → m.1 a = s1.1 a) (hm19 : ∀ j, j < 12 ∨ 17 < j → m.1 19 j = s1.1 19 j) (hml : ∀ a, a ≠ 19 → m.2 a = s1.2 a) : ∃ s2, fX7_becomesBest m (nI cs) = some s2 ∧ ChM s1 s2 (bsG cs D (s1.1 20) n) ∧ (∀ j, j ≠ 2 → j ≠ 3 → s2.1 19 j = m.1 19 j) := by
  have m20 : m.1 20 = s1.1 20 := hm 20 (by omega) (by omega)
  generalize hY : upR m 23 (va_cpy (m.1 20) (m.1 23) 0 0 139) = Y
  have Y20 : Y.1 20 = s1.1 20 := by rw [← hY, upR_n (by omega), m20]
  have hs : ∀ i, i < n → bX7_becomesBest_6 (upR Y 20 (bsG cs D (s1.1 20) i)) (nI cs) (nI i) = some (.inr (nI (i + 1), upR Y 20 (bsG cs D (s1.1 20) (i + 1)))) := by
    intro i hi
    unfold bX7_becomesBest_6
    simp only [cl96]
    rw [gd96, upR_s, bsG_low cs D (s1.1 20) i 96 (by omega), h96, if_neg (nI_cn hi hn), gd_in (by omega) (by omega), nI_clamp (by omega), upR_n (by omega), ← hY, upR_n (by omega), h25 i hi, hY, puts_up _ _ _ (by omega) hcs, Option.bind_some, lt_e, nI_p1, bsG_s]
    rfl
  have he : bX7_becomesBest_6 (upR Y 20 (bsG cs D (s1.1 20) n)) (nI cs) (nI n) = some (.inl (upR Y 20 (bsG cs D (s1.1 20) n))) := by
    unfold bX7_becomesBest_6
    simp only [cl96]
    rw [gd96, upR_s, bsG_low cs D (s1.1 20) n 96 (by omega), h96, if_pos (nI_le (Nat.le_refl n) (by omega))]
  have hl := lp_at (body := fun a => bX7_becomesBest_6 a.2 (nI cs) a.1) (a := ((0 : Int32), Y)) (k := 600) (fun i => (nI i, upR Y 20 (bsG cs D (s1.1 20) i))) n (by show _ = ((0 : Int32), upR Y 20 (s1.1 20)); rw [← Y20, upR_id]) hs he (by omega)
  obtain ⟨s2, w1, w2, w3, w4⟩ := M_changes s1 (upR Y 20 (bsG cs D (s1.1 20) n)) hfs hu e3 e4 (fun j hj => by rw [upR_n (by omega), ← hY, upR_s, pk_cpy_in (by omega) (by omega), m20, show 0 + (j - 0) = j by omega]) (by rw [upR_n (by omega), ← hY, upR_n (by omega), hm19 2 (by omega)]) (by rw [upR_n (by omega), ← hY, upR_n (by omega), hm19 3 (by omega)]) (by rw [upR_n (by omega), ← hY, upR_n (by omega), hm19 4 (by omega)]) (by rw [upR_n (by omega), ← hY, upR_n (by omega), hm19 19 (by omega)]) (fun a ha => by rw [upR_2, ← hY, upR_2]; exact hml a ha) (fun a ha => by rw [upR_n (by omega), ← hY, upR_n (by omega), hm a (by omega) (by omega)])
  rw [upR_s] at w2
  refine ⟨s2, ?_, w2, fun j q1 q2 => by rw [w4 j q1 q2, upR_n (by omega), ← hY, upR_n (by omega)]⟩
  unfold fX7_becomesBest
  rw [M_aside, Option.bind_some, hY, hl, Option.bind_some, w1]
  rfl
theorem call_most {s : Mem} (hR : Rel s) (x : Int32) : OK2 (fX6_most s x) (fun s1 => fX7_most s1 x) := by
  obtain ⟨hS, n, hP⟩ := hR.1
  have hn := hP.1
  cases e : inR x 0 3
  · refine fnd hR 0 (by omega) _ ?_ (fun s1 h1 _ => ?_)
    · unfold fX6_most; rw [C_isCourse, e]; rfl
    · show fX7_most s1 x = _
      unfold fX7_most; rw [M_isCourse, e]; rfl
  obtain ⟨cs, hcs, rfl⟩ := inR_ex (h := 3) (by omega) e
  obtain ⟨m1, m2, u, k1, k2, k3, k4, k5, k6, k7, k8, -⟩ := C_search (m := s) (10000, 0, 0) hS hP (show cs < 4 by omega) (by decide) (by decide) (by decide)
  have m20 : m2.1 20 = s.1 20 := k3 20 (by omega)
  obtain ⟨m3, j1, j2, j3, j4, j5, j6⟩ := M_seats (s := m2) (f := s.1 2) (n := n) (cs := cs) (ev := false) (wh := none) (by rw [m20]; exact hS) (by rw [m20]; exact PG_okM hP) (by omega) (fun p h => by cases h) (fun p h => by cases h)
  rw [m20] at j6
  obtain ⟨u2, hu2⟩ := best_some (c := cmR (s.1 2) (s.1 20) n cs false none) (fun _ _ => rfl) n (Nat.le_refl n) st00
  rw [hu2] at j6
  obtain ⟨-, -, -, P, E, V, -, -, -, a7, -, -, -, -, a11, -⟩ := j6
  have hput := most_put hn k7 (show best (baseC (s.1 2) (s.1 20) n cs (10000, 0, 1)) n st00 = some u2 from hu2)
  refine ⟨nI (putN (fun p => u.2.getD p 0) n), m2, m3, ?_, ?_, ?_⟩
  · unfold fX6_most
    rw [C_isCourse, e, Option.bind_some, bi_n0, if_pos rfl, k1, Option.bind_some, show (10000 : Int32) = iI 10000 from rfl, show (0 : Int32) = iI 0 from rfl, k2, Option.bind_some, C_seated hn k5 k8]
    rfl
  · show fX7_most m2 (nI cs) = _
    unfold fX7_most
    have j1' : fX7_seats m2 (nI cs) (0 : Int32) (-1 : Int32) = some m3 := j1
    rw [M_isCourse, e, Option.bind_some, bi_n0, if_pos rfl, j1', Option.bind_some, a7, a11 rfl, hput]
  · refine Rel_idle hR (fun a q1 q2 q3 => by rw [j2 a q2 (by omega), k3 a q1]) (fun j hj => by rw [j3 j (by omega), k3 19 (by omega)]) (fun a q1 _ => by rw [j4 a q1, k4])
theorem ok_bs {s s1 m3 : Mem} {n cs : Nat} {u : Int × List Nat} {f : Nat → Int32} (hR : Rel s) (hS : SG (s.1 2) (s.1 20)) (hP : PG (s.1 2) (s.1 20) n) (hcs : cs < 4) (hC : ChC s s1 (bsF cs (fun p => u.2.getD p 0) (s.1 2) n)) (h20 : s1.1 20 = s.1 20) (hD : dgOK (s.1 20) cs n (fun p => u.2.getD p 0)) (h25 : ∀ p, p < n → m3.1 25 p = nI (u.2.getD p 0)) (hm : ∀ a, a ≠ 19 → a < 24 ∨ 27 < a → m3.1 a = s1.1 a) (hm19 : ∀ j, j < 12 ∨ 17 < j → m3.1 19 j = s1.1 19 j) (hml : ∀ a, a ≠ 19 → m3.2 a = s1.2 a) : ∃ s2, fX7_becomesBest m3 (nI cs) = some s2 ∧ Rel s2 ∧ s2.1 20 = bsG cs (fun p => u.2.getD p 0) (s.1 20) n ∧ ∀ j, j ≠ 2 → j ≠ 3 → s2.1 19 j = m3.1 19 j := by
  have hn := hP.1
  obtain ⟨uu, sl, fs, hu, hsl, hfs, -, -, e3, e4, -⟩ := hR.2.1
  have g19 : s1.1 19 = s.1 19 := hC.2.2.2 19 (by omega) (by omega) (by omega) (by omega)
  obtain ⟨s2, w1, w2, w3⟩ := M_becomesBest (s1 := s1) (m := m3) (n := n) (cs := cs) (D := fun p => u.2.getD p 0) hfs hu (by rw [g19]; exact e3) (by rw [g19]; exact e4) hn hcs (by rw [h20]; exact hP.2.1) h25 hm hm19 hml
  rw [h20] at w2
  have hG := Gd_bs hS hP hcs hD n (Nat.le_refl n)
  exact ⟨s2, w1, Rel_step hR hC w2 ⟨hG.1, n, hG.2⟩, w2.1, w3⟩
theorem call_seat {s : Mem} (hR : Rel s) (x : Int32) : OK2 (fX6_seat s x) (fun s1 => fX7_seat s1 x) := by
  obtain ⟨hS, n, hP⟩ := hR.1
  have hn := hP.1
  cases e : inR x 0 3
  · refine fnd hR 0 (by omega) _ ?_ (fun s1 h1 _ => ?_)
    · unfold fX6_seat; rw [C_isCourse, e]; rfl
    · show fX7_seat s1 x = _
      unfold fX7_seat; rw [M_isCourse, e]; rfl
  obtain ⟨cs, hcs, rfl⟩ := inR_ex (h := 3) (by omega) e
  obtain ⟨s0, b1, b2, b3, b4, b5, b6, b7⟩ := C_beg hR
  obtain ⟨m1, m2, u, k1, k2, k3, k4, k5, k6, k7, k8, k9⟩ := C_search (m := s0) (g := s.1 20) (n := n) (10000, 0, 1) (by rw [b3]; exact hS) (by rw [b3]; exact hP) (show cs < 4 by omega) (by decide) (by decide) (by decide)
  have m22 : m2.1 2 = s.1 2 := by rw [k3 2 (by omega), b3]
  rw [b3] at k7
  have hbs := C_becomesSo (m := m2) (n := n) (cs := cs) (D := fun p => u.2.getD p 0) hn (by omega) k5 (fun k hk => (k8 k hk).1)
  rw [m22] at hbs
  generalize hs1 : upR m2 2 (bsF cs (fun p => u.2.getD p 0) (s.1 2) n) = s1 at hbs
  have hC : ChC s s1 (bsF cs (fun p => u.2.getD p 0) (s.1 2) n) := by rw [← hs1]; exact ChC_up _ (ChC_idle b6 k3 k4)
  have s120 : s1.1 20 = s.1 20 := by rw [← hs1, upR_n (by omega), k3 20 (by omega), b4]
  obtain ⟨m3, j1, j2, j3, j4, j5, j6⟩ := M_seats (s := s1) (f := s.1 2) (n := n) (cs := cs) (ev := false) (wh := none) (by rw [s120]; exact hS) (by rw [s120]; exact PG_okM hP) (by omega) (fun p h => by cases h) (fun p h => by cases h)
  rw [s120] at j6
  rw [show best (cmR (s.1 2) (s.1 20) n cs false none) n st00 = some u from k7] at j6
  obtain ⟨-, -, a3, P, E, V, -, -, -, -, -, a9, -, a10, -, -⟩ := j6
  obtain ⟨s2, w1, w2, -, w3⟩ := ok_bs (f := s.1 2) hR hS hP (show cs < 4 by omega) hC s120 k9 a3 j2 j3 j4
  refine ⟨nI V, s1, s2, ?_, ?_, w2⟩
  · unfold fX6_seat gX6_seat_56
    have hmv := C_moved (m := s1) (n := n) (H := hadG (s.1 20) cs) (D := fun p => u.2.getD p 0) hn (by rw [← hs1, upR_n (by omega)]; exact k5) (fun k hk => by rw [← hs1, upR_n (by omega)]; exact k6 k hk) (fun k hk => by rw [← hs1, upR_n (by omega)]; exact k8 k hk)
    rw [C_isCourse, e, Option.bind_some, bi_n0, if_pos rfl, b1, Option.bind_some, k1, Option.bind_some, show (10000 : Int32) = iI 10000 from rfl, show (0 : Int32) = iI 0 from rfl, show (1 : Int32) = iI 1 from rfl, k2, Option.bind_some, if_neg (show ¬ ((1 : Int32), m2).1 = iI 0 from (by decide : ¬ (1 : Int32) = iI 0)), hbs, Option.bind_some, hmv, a10]
    rfl
  · show fX7_seat s1 (nI cs) = _
    unfold fX7_seat
    have j1' : fX7_seats s1 (nI cs) (0 : Int32) (-1 : Int32) = some m3 := j1
    rw [M_isCourse, e, Option.bind_some, bi_n0, if_pos rfl, j1', Option.bind_some, w1, Option.bind_some, w3 14 (by omega) (by omega), a9]
theorem call_ways {s : Mem} (hR : Rel s) (x : Int32) : OK2 (fX6_ways s x) (fun s1 => fX7_ways s1 x) := by
  obtain ⟨hS, n, hP⟩ := hR.1
  have hn := hP.1
  cases e : inR x 0 3
  · refine fndL hR 0 (by omega) _ ?_ (fun s1 h1 _ => ?_)
    · unfold fX6_ways; rw [C_isCourse, e]; rfl
    · show fX7_ways s1 x = _
      unfold fX7_ways; rw [M_isCourse, e]; rfl
  obtain ⟨cs, hcs, rfl⟩ := inR_ex (h := 3) (by omega) e
  obtain ⟨m1, ps, k1, k2, k3, k4, k5, k6, k7⟩ := C_prepare (m := s) (0, 0, 0) hS hP (show cs < 4 by omega)
  obtain ⟨m2, h1, h2, h3⟩ := C_howMany (c := baseC (s.1 2) (s.1 20) n cs (0, 0, 0)) k4 (Prep_SeatN k2 (show 0 ≤ (0 : Int) ∧ (0 : Int) ≤ 10000 from by decide) (show 0 ≤ (0 : Int) ∧ (0 : Int) ≤ 100 from by decide) (show 0 ≤ (0 : Int) ∧ (0 : Int) ≤ 1 from by decide)) k3
  have h2' : ∀ a, a < 5 ∨ 11 < a → m2.1 a = s.1 a := fun a ha => by rw [h2 a (by omega) (by omega), k5 a ha]
  have m20 : m2.1 20 = s.1 20 := h2' 20 (by omega)
  obtain ⟨m3, j1, j2, j3, j4, j5, -⟩ := M_seats (s := m2) (f := s.1 2) (n := n) (cs := cs) (ev := false) (wh := none) (by rw [m20]; exact hS) (by rw [m20]; exact PG_okM hP) (by omega) (fun p h => by cases h) (fun p h => by cases h)
  rw [m20] at j5
  have hc := cnt_le (baseC (s.1 2) (s.1 20) n cs (0, 0, 0)) n st00
  have h9 := p9 (r := n) hn
  refine ⟨lN (cnt (baseC (s.1 2) (s.1 20) n cs (0, 0, 0)) n st00), m2, m3, ?_, ?_, ?_⟩
  · unfold fX6_ways
    rw [C_isCourse, e, Option.bind_some, bi_n0, if_pos rfl, k1, Option.bind_some, h1, Option.bind_some]
    show some ((nI (cnt (baseC (s.1 2) (s.1 20) n cs (0, 0, 0)) n st00)).toInt64, m2) = _
    rw [nI_l (by omega)]
  · show fX7_ways m2 (nI cs) = _
    unfold fX7_ways
    have j1' : fX7_seats m2 (nI cs) (0 : Int32) (-1 : Int32) = some m3 := j1
    rw [M_isCourse, e, Option.bind_some, bi_n0, if_pos rfl, j1', Option.bind_some, j5]
  · refine Rel_idle hR (fun a q1 q2 q3 => by rw [j2 a q2 (by omega), h2' a q1]) (fun j hj => by rw [j3 j (by omega), h2' 19 (by omega)]) (fun a q1 _ => by rw [j4 a q1, h3, k6])
