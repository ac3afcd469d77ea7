/-! evens, chain, lets -/
theorem bsG_v (cs : Nat) (D : Nat → Nat) (g : Nat → Int32) (p : Nat) : ∀ i, p < i → bsG cs D g i (100 + 7 * p + cs) = dgI (D p)
  | 0, h => by omega
  | i + 1, h => by
    rw [bsG_s]
    by_cases q : p = i
    · rw [q, pk_us]
    · rw [pk_un (by omega)]; exact bsG_v cs D g p i (by omega)
theorem bsF_v (cs : Nat) (D : Nat → Nat) (f : Nat → Int32) (p : Nat) : ∀ i, p < i → bsF cs D f i (99 + 7 * p + cs) = dgI (D p)
  | 0, h => by omega
  | i + 1, h => by
    rw [bsF_s]
    by_cases q : p = i
    · rw [q, pk_us]
    · rw [pk_un (by omega)]; exact bsF_v cs D f p i (by omega)
theorem inS_F {D : Nat → Nat} : ∀ k, (∀ p, p < k → D p < 9) → inS (stF D k) ∧ (stF D k).1 ≤ k
  | 0, _ => ⟨⟨Nat.le_refl 0, Nat.le_refl 0, Nat.le_refl 0⟩, Nat.le_refl 0⟩
  | k + 1, h => by
    obtain ⟨i1, i2⟩ := inS_F k (fun p hp => h p (by omega))
    have h9 := h k (by omega)
    show inS (stN (stF D k) (D k)) ∧ (stN (stF D k) (D k)).1 ≤ k + 1
    refine ⟨?_, stN_le i2⟩
    unfold stN
    by_cases q : D k = 0
    · rw [if_pos q]; exact i1
    · rw [if_neg q]; exact inS_A i1 (by omega)
theorem tak_cw {g : Nat → Int32} {cs so w n : Nat} {D : Nat → Nat} (hc : cs < 4) (hs : so < 3) (hw : w < 2) (hn : n ≤ 6) (hD : ∀ p, p < n → D p < 9) (ho : opn g cs so 0 = true ∧ opn g cs so 1 = true) : ∀ i, i ≤ n → takG (bsG cs D g n) cs so w (-1) i = cw (stF D i) so w
  | 0, _ => by show 0 = (if w = 1 then 0 else 0 - 0); split <;> rfl
  | i + 1, hi => by
    have ih := tak_cw hc hs hw hn hD ho i (by omega)
    have h9 := hD i (by omega)
    have e : takG (bsG cs D g n) cs so w (-1) (i + 1) = if nI i = (-1 : Int32) then takG (bsG cs D g n) cs so w (-1) i else match trp (bsG cs D g n) i cs with | none => takG (bsG cs D g n) cs so w (-1) i | some t => if prt t so = w ∧ opn (bsG cs D g n) cs so (prt t so) = true then takG (bsG cs D g n) cs so w (-1) i + 1 else takG (bsG cs D g n) cs so w (-1) i := rfl
    have hne : ¬ nI i = (-1 : Int32) := fun q => nI_pos (n := i) (by omega) (by rw [q]; decide)
    have hv := bsG_v cs D g i n (by omega)
    have hst : stF D (i + 1) = stN (stF D i) (D i) := rfl
    have hin := (inS_F (D := D) i (fun p hp => hD p (by omega))).1
    rw [e, if_neg hne, ih, hst]
    unfold trp
    rw [hv]
    unfold dgI stN
    by_cases q : D i = 0
    · rw [if_pos q, q, if_pos (by decide)]
    · obtain ⟨t, ht⟩ : ∃ t, D i = t + 1 := ⟨D i - 1, by omega⟩
      rw [if_neg q, ht, nI_pred, if_neg (nI_pos (by omega)), nI_clamp (by omega), Nat.add_sub_cancel, cw_A (by omega) hs hw (inS_so hin hs)]
      have hp := prt_lt t (by omega) so hs
      have hop : opn (bsG cs D g n) cs so (prt t so) = true := by
        rw [opn_cg (g := g) (fun j hj => bsG_low cs D g n j (by omega)) hc hs hp]
        obtain z | z : prt t so = 0 ∨ prt t so = 1 := by omega
        · rw [z]; exact ho.1
        · rw [z]; exact ho.2
      show (if prt t so = w ∧ opn (bsG cs D g n) cs so (prt t so) = true then cw (stF D i) so w + 1 else cw (stF D i) so w) = _
      by_cases z : w = prt t so
      · rw [if_pos ⟨z.symm, hop⟩, if_pos z]
      · rw [if_neg (fun y => z y.1.symm), if_neg z]; rfl
theorem unv_gap {f g : Nat → Int32} {cs n : Nat} {D : Nat → Nat} {w : Int × Int × Int} (hc : cs < 4) (hn : n ≤ 6) (hD : ∀ p, p < n → D p < 9) : unvG (bsG cs D g n) n cs 3 = nI (gapS (baseC f g n cs w) (stF D n)) := by
  obtain ⟨hin, hle⟩ := inS_F (D := D) n hD
  have key : ∀ so, so < 3 → ∀ a : Nat, (if opn (bsG cs D g n) cs so 0 && opn (bsG cs D g n) cs so 1 then nI a + abI (nI (takG (bsG cs D g n) cs so 0 (-1) n) - nI (takG (bsG cs D g n) cs so 1 (-1) n)) else nI a) = nI (a + gp (opn g cs so 0 && opn g cs so 1) (stF D n).1 ((stF D n).2 so)) := by
    intro so hs a
    rw [opn_cg (g := g) (fun j hj => bsG_low cs D g n j (by omega)) hc hs (by omega), opn_cg (g := g) (fun j hj => bsG_low cs D g n j (by omega)) hc hs (by omega)]
    cases e : (opn g cs so 0 && opn g cs so 1)
    · rfl
    · obtain ⟨o0, o1⟩ := Bool.and_eq_true_iff.mp e
      have hi := inS_so hin hs
      rw [if_pos rfl, tak_cw hc hs (w := 0) (by omega) hn hD ⟨o0, o1⟩ n (Nat.le_refl n), tak_cw hc hs (w := 1) (by omega) hn hD ⟨o0, o1⟩ n (Nat.le_refl n)]
      have c0 : cw (stF D n) so 0 = (stF D n).1 - (stF D n).2 so := rfl
      have c1 : cw (stF D n) so 1 = (stF D n).2 so := rfl
      rw [c0, c1, abI_nat (by omega) (by omega), nI_add]
      show _ = nI (a + (if true = true then (((stF D n).1 : Int) - 2 * ((stF D n).2 so : Int)).natAbs else 0))
      rw [if_pos rfl]
      congr 2
      omega
  have k0 := key 0 (by omega) 0
  have k1 := key 1 (by omega) (0 + gp (opn g cs 0 0 && opn g cs 0 1) (stF D n).1 ((stF D n).2 0))
  have k2 := key 2 (by omega) (0 + gp (opn g cs 0 0 && opn g cs 0 1) (stF D n).1 ((stF D n).2 0) + gp (opn g cs 1 0 && opn g cs 1 1) (stF D n).1 ((stF D n).2 1))
  rw [unvG_s, unvG_s, unvG_s]
  have z0 : unvG (bsG cs D g n) n cs 0 = nI 0 := rfl
  rw [z0, k0, k1, k2, Nat.zero_add]
  rfl
theorem call_evens {s : Mem} (hR : Rel s) (x : Int32) : OK2 (fX6_evens s x) (fun s1 => fX7_evens s1 x) := by
  obtain ⟨hS, n, hP⟩ := hR.1
  have hn := hP.1
  cases e : inR x 0 3
  · refine fnd hR 0 (by omega) _ ?_ (fun s1 h1 _ => ?_)
    · unfold fX6_evens; rw [C_isCourse, e]; rfl
    · show fX7_evens s1 x = _
      unfold fX7_evens; rw [M_isCourse, e]; rfl
  obtain ⟨cs, hcs, rfl⟩ := inR_ex (h := 3) (by omega) e
  obtain ⟨s0, b1, b2, b3, b4, b5, b6, b7⟩ := C_beg hR
  obtain ⟨m1, m2, u, k1, k2, k3, k4, k5, k6, k7, k8, k9⟩ := C_search (m := s0) (g := s.1 20) (n := n) (10000, 100, 1) (by rw [b3]; exact hS) (by rw [b3]; exact hP) (show cs < 4 by omega) (by decide) (by decide) (by decide)
  have m22 : m2.1 2 = s.1 2 := by rw [k3 2 (by omega), b3]
  rw [b3] at k7
  have hbs := C_becomesSo (m := m2) (n := n) (cs := cs) (D := fun p => u.2.getD p 0) hn (by omega) k5 (fun k hk => (k8 k hk).1)
  rw [m22] at hbs
  generalize hs1 : upR m2 2 (bsF cs (fun p => u.2.getD p 0) (s.1 2) n) = s1 at hbs
  have hC : ChC s s1 (bsF cs (fun p => u.2.getD p 0) (s.1 2) n) := by rw [← hs1]; exact ChC_up _ (ChC_idle b6 k3 k4)
  have s120 : s1.1 20 = s.1 20 := by rw [← hs1, upR_n (by omega), k3 20 (by omega), b4]
  obtain ⟨m3, j1, j2, j3, j4, j5, j6⟩ := M_seats (s := s1) (f := s.1 2) (n := n) (cs := cs) (ev := true) (wh := none) (by rw [s120]; exact hS) (by rw [s120]; exact PG_okM hP) (by omega) (fun p h => by cases h) (fun p h => by cases h)
  rw [s120] at j6
  rw [show best (cmR (s.1 2) (s.1 20) n cs true none) n st00 = some u from k7] at j6
  obtain ⟨-, -, a3, P, E, V, -, -, -, -, a8, -, -, -, -, a12⟩ := j6
  obtain ⟨s2, w1, w2, -, w3⟩ := ok_bs (f := s.1 2) hR hS hP (show cs < 4 by omega) hC s120 k9 a3 j2 j3 j4
  have hG := Gd_bs hS hP (show cs < 4 by omega) k9 n (Nat.le_refl n)
  have hun := C_unevenness s1 (g := bsG cs (fun p => u.2.getD p 0) (s.1 20) n) (n := n) (c := cs) (by rw [hC.1]; exact hG.1) (by rw [hC.1]; exact hG.2) (by omega)
  rw [unv_gap (f := s.1 2) (w := (0, 0, 0)) (by omega) hn (fun p hp => (k9 p hp).1), ← a12 rfl] at hun
  refine ⟨nI E, s1, s2, ?_, ?_, w2⟩
  · unfold fX6_evens gX6_evens_57
    rw [C_isCourse, e, Option.bind_some, bi_n0, if_pos rfl, b1, Option.bind_some, k1, Option.bind_some, show (10000 : Int32) = iI 10000 from rfl, show (100 : Int32) = iI 100 from rfl, show (1 : Int32) = iI 1 from rfl, k2, Option.bind_some, if_neg (show ¬ ((1 : Int32), m2).1 = 0 from (by decide : ¬ (1 : Int32) = 0)), hbs, Option.bind_some, hun]
    rfl
  · show fX7_evens s1 (nI cs) = _
    unfold fX7_evens
    have j1' : fX7_seats s1 (nI cs) (1 : Int32) (-1 : Int32) = some m3 := j1
    rw [M_isCourse, e, Option.bind_some, bi_n0, if_pos rfl, j1', Option.bind_some, w1, Option.bind_some, w3 13 (by omega) (by omega), a8]
/-- a finding, the reference having tried in between -/
theorem fndY {s : Mem} (hR : Rel s) (k : Nat) (hk : k < 8) {x : Option (Int32 × Mem)} {F : Mem → Option (Int32 × Mem)} (hx : x = (fX6_finding s (nI k)).bind (fun y => some (y.1, y.2))) (hy : ∀ s1 : Mem, (∀ a, a ≠ 18 → s1.1 a = s.1 a) → s1.2 = s.2 → ∃ y : Mem, F s1 = (fX7_finds y (nI k)).bind (fun z => some (z.1, z.2)) ∧ (∀ a, a ≠ 19 → a < 23 ∨ 27 < a → y.1 a = s1.1 a) ∧ (∀ j, j = 2 ∨ j = 3 ∨ j = 4 ∨ j = 19 → y.1 19 j = s1.1 19 j) ∧ ∀ a, a ≠ 19 → y.2 a = s1.2 a) : OK2 x F := by
  have h1 := Rel_told hR hk
  generalize hs1 : up2 s 18 k (s.1 18 k + 1) = s1 at h1
  have q1 : ∀ a, a ≠ 18 → s1.1 a = s.1 a := fun a ha => by rw [← hs1, up2_1, if_neg ha]
  obtain ⟨y, y1, y2, y3, y4⟩ := hy s1 q1 (by rw [← hs1]; rfl)
  refine ⟨(-1000001 : Int32) - nI k, s1, up2 y 22 k (y.1 22 k + 1), ?_, ?_, ?_⟩
  · rw [hx, C_finding s hk, hs1]; rfl
  · rw [y1, M_finds _ hk]; rfl
  · refine Rel_idle h1 (fun a a1 a2 a3 => ?_) (fun j hj => ?_) (fun a a1 _ => y4 a a1)
    · rw [up2_1, up2_1]
      by_cases e : a = 22
      · rw [if_pos e, if_pos e, y2 22 (by omega) (by omega)]
      · rw [if_neg e, if_neg e, y2 a a2 a3]
    · rw [up2_n (by omega), up2_n (by omega)]; exact y3 j hj
/-- the class's search, a pupil and all that sit being bound to -/
theorem C_searchM {m : Mem} {g : Nat → Int32} {n cs p : Nat} (hS : SG (m.1 2) g) (hP : PG (m.1 2) g n) (hcs : cs < 4) (hp : p < n) : ∃ m1 m2 m3 b, fX3_prepare m (nI cs) = some m1 ∧ fX3_mustSit m1 (nI p) = some m2 ∧ fX3_finds m2 0 0 1 = some (b, m3) ∧ (∀ a, a < 5 ∨ 11 < a → m3.1 a = m.1 a) ∧ m3.2 = m.2 ∧ m3.1 5 6 = nI n ∧ (∀ k, k < n → m3.1 8 k = nI (hadG g cs k) ∧ hadG g cs k < 9) ∧ ((best (cmR (m.1 2) g n cs false (some p)) n st00 = none ∧ b = 0) ∨ ∃ u, best (cmR (m.1 2) g n cs false (some p)) n st00 = some u ∧ b = 1 ∧ (∀ k, k < n → m3.1 9 k = nI (u.2.getD k 0) ∧ u.2.getD k 0 < 9) ∧ dgOK g cs n (fun p => u.2.getD p 0)) := by
  obtain ⟨m1, ps, k1, k2, k3, k4, k5, k6, k7⟩ := C_prepare (m := m) (g := g) (n := n) (cs := cs) (0, 0, 1) hS hP hcs
  obtain ⟨m2, h1, h2, h3, h4⟩ := C_mustSit (c := baseC (m.1 2) g n cs (0, 0, 1)) (p := p) k2 hp
  have hps : psM m2 ps := by unfold psM at *; rw [h3 5 (by omega)]; exact k3
  obtain ⟨b, m3, j1, j2, j3, j4, j5⟩ := C_finds (c := mustC (baseC (m.1 2) g n cs (0, 0, 1)) p) (must_ps p k4) (Prep_Seat h2 (show 0 ≤ (0 : Int) ∧ (0 : Int) ≤ 10000 from by decide) (show 0 ≤ (0 : Int) ∧ (0 : Int) ≤ 100 from by decide) (show 0 ≤ (1 : Int) ∧ (1 : Int) ≤ 1 from by decide)) hps
  refine ⟨m1, m2, m3, b, k1, h1, j1, fun a ha => by rw [j2 a (by omega) (by omega) (by omega), h3 a (by omega), k5 a ha], by rw [j4, h4, k6], by rw [j3 6 (by omega)]; exact h2.2.1, fun k hk => by rw [j2 8 (by omega) (by omega) (by omega)]; exact h2.2.2.2.1 k hk, ?_⟩
  rcases j5 with ⟨q, rfl, -⟩ | ⟨u, q, rfl, hd⟩
  · exact Or.inl ⟨q, rfl⟩
  · have hbd := (best_dig (c := mustC (baseC (m.1 2) g n cs (0, 0, 1)) p) q).1
    refine Or.inr ⟨u, q, rfl, fun k hk => ⟨hd k hk, (hbd k hk).1⟩, fun p' hp' => ⟨(hbd p' hp').1, fun hne => ?_⟩⟩
    have ha := (hbd p' hp').2
    have hmay : mayG g cs p' (u.2.getD p' 0 - 1) = true := by
      have e : cAl (mustC (baseC (m.1 2) g n cs (0, 0, 1)) p) p' (u.2.getD p' 0) = if u.2.getD p' 0 = 0 then (true && !(decide (p' = p) || decide (hadG g cs p' ≠ 0))) else (if u.2.getD p' 0 = 0 then true else mayG g cs p' (u.2.getD p' 0 - 1)) := rfl
      rw [e, if_neg hne, if_neg hne] at ha; exact ha
    unfold mayG freG at hmay
    exact (Bool.and_eq_true_iff.mp (Bool.and_eq_true_iff.mp hmay).2).1
theorem lets_pre {s : Mem} (hR : Rel s) {n : Nat} (hP : PG (s.1 2) (s.1 20) n) (x y : Int32) (G : Int32 × Mem → Option (Int32 × Mem)) (H : Int32 × Mem → Option (Int32 × Mem)) (hG : ∀ k : Nat, k < 8 → ∀ m : Mem, G ((-1 : Int32) - nI k, m) = (fX6_finding m (nI k)).bind (fun y => some (y.1, y.2))) (hH : ∀ k : Nat, k < 8 → ∀ m : Mem, H (nI k, m) = (fX7_finds m (nI k)).bind (fun y => some (y.1, y.2))) (main : ∀ p c, p < n → c < 4 → x = nI p → y = nI c → wshG (s.1 20) p c = true → s.1 20 (100 + 7 * p + c) < 0 → OK2 ((fX6_letIn s x y).bind G) (fun s1 => (fX7_whyNoSeat s1 x y).bind H)) : OK2 ((fX6_letIn s x y).bind G) (fun s1 => (fX7_whyNoSeat s1 x y).bind H) := by
  have hn := hP.1
  have m96 : ∀ s1 : Mem, (∀ a, a ≠ 18 → s1.1 a = s.1 a) → s1.1 20 96 = nI n := fun s1 h1 => by rw [h1 20 (by omega)]; exact hP.2.1
  have out0 : ∀ s1 : Mem, (∀ a, a ≠ 18 → s1.1 a = s.1 a) → whyG (s1.1 20) n x y = 0 → (fX7_whyNoSeat s1 x y).bind H = (fX7_finds s1 (nI 0)).bind (fun y => some (y.1, y.2)) := by
    intro s1 h1 hw
    unfold fX7_whyNoSeat
    rw [M_whyNot s1 x y hn (m96 s1 h1), Option.bind_some, hw, if_neg (by decide), Option.bind_some]
    exact hH 0 (by omega) s1
  cases e : inR x 0 ((n : Int) - 1)
  · refine fnd hR 0 (by omega) _ ?_ (fun s1 h1 _ => out0 s1 h1 (why_out1 e))
    unfold fX6_letIn; rw [C_isPupil s x hn hP.2.2.1, e, Option.bind_some, show bi false = 0 from rfl, if_pos rfl, Option.bind_some]
    exact hG 0 (by omega) s
  cases e2 : inR y 0 3
  · refine fnd hR 0 (by omega) _ ?_ (fun s1 h1 _ => out0 s1 h1 (why_out2 e2))
    unfold fX6_letIn; rw [C_isPupil s x hn hP.2.2.1, e, Option.bind_some, bi_n0, if_pos rfl, C_isCourse, e2, Option.bind_some, show bi false = 0 from rfl, if_pos rfl, Option.bind_some]
    exact hG 0 (by omega) s
  obtain ⟨p, hp, rfl⟩ := isP_ex hn e
  obtain ⟨c, hc, rfl⟩ := inR_ex (h := 3) (by omega) e2
  have hx : fX6_letIn s (nI p) (nI c) = if wshG (s.1 20) p c = true then (if s.1 20 (100 + 7 * p + c) < (0 : Int32) then (fX3_prepare s (nI c)).bind (fun y5 => (fX3_mustSit y5 (nI p)).bind (fun y6 => (fX3_finds y6 (0 : Int32) (0 : Int32) (1 : Int32)).bind (fun y7 => if y7.1 = (0 : Int32) then some (((-4 : Int32), y7.2)) else (fX3_moved y7.2).bind (fun y8 => some ((y8, y7.2)))))) else some (((-5 : Int32), s))) else some (((-4 : Int32), s)) := by
    have hb : s.1 2 (99 + 7 * p + c) = s.1 20 (100 + 7 * p + c) := by
      have := hP.2.2.2.1 p hp (3 + c) (by omega)
      rw [show 96 + 7 * p + (3 + c) = 99 + 7 * p + c by omega, show 97 + 7 * p + (3 + c) = 100 + 7 * p + c by omega] at this
      exact this
    unfold fX6_letIn
    rw [C_isPupil s _ hn hP.2.2.1, e, Option.bind_some, bi_n0, if_pos rfl, C_isCourse, e2, Option.bind_some, bi_n0, if_pos rfl, C_wsh s hP hp, Option.bind_some, bi_n0, C_sits s (by omega) (by omega), Option.bind_some, hb]
  have hy : ∀ s1 : Mem, s1.1 20 = s.1 20 → fX7_whyNoSeat s1 (nI p) (nI c) = if wshG (s.1 20) p c = true then (if s.1 20 (100 + 7 * p + c) < (0 : Int32) then (fX7_seats s1 (nI c) (0 : Int32) (nI p)).bind (fun y3 => if (y3.1 19 16) = (0 : Int32) then some (((3 : Int32), y3)) else some (((-1 : Int32), y3))) else some (((4 : Int32), s1))) else some (((3 : Int32), s1)) := by
    intro s1 e20
    unfold fX7_whyNoSeat
    rw [M_whyNot s1 _ _ hn (by rw [e20]; exact hP.2.1), Option.bind_some, whyG_in hn hp (by omega), M_triple s1 (by omega) (by omega), Option.bind_some, e20]
    cases wshG (s.1 20) p c <;> rfl
  cases e3 : wshG (s.1 20) p c
  · refine fnd hR 3 (by omega) _ ?_ (fun s1 h1 _ => ?_)
    · rw [hx, e3, if_neg (by decide), Option.bind_some]
      exact hG 3 (by omega) s
    · show (fX7_whyNoSeat s1 (nI p) (nI c)).bind H = _
      rw [hy s1 (h1 20 (by omega)), e3, if_neg (by decide), Option.bind_some]
      exact hH 3 (by omega) s1
  by_cases q : s.1 20 (100 + 7 * p + c) < 0
  · exact main p c hp (by omega) rfl rfl e3 q
  · refine fnd hR 4 (by omega) _ ?_ (fun s1 h1 _ => ?_)
    · rw [hx, e3, if_pos rfl, if_neg q, Option.bind_some]
      exact hG 4 (by omega) s
    · show (fX7_whyNoSeat s1 (nI p) (nI c)).bind H = _
      rw [hy s1 (h1 20 (by omega)), e3, if_pos rfl, if_neg q, Option.bind_some]
      exact hH 4 (by omega) s1
/-- what both find when one may be let in -/
theorem lets_main {s : Mem} (hR : Rel s) {n p c : Nat} (hS : SG (s.1 2) (s.1 20)) (hP : PG (s.1 2) (s.1 20) n) (hp : p < n) (hc : c < 4) (hw : wshG (s.1 20) p c = true) (hq : s.1 20 (100 + 7 * p + c) < 0) : ∃ m3, Rel m3 ∧ (∀ a, a < 5 ∨ 11 < a → m3.1 a = s.1 a) ∧ m3.2 = s.2 ∧ ((fX6_letIn s (nI p) (nI c) = some (-4, m3) ∧ ∀ s1 : Mem, s1.1 20 = s.1 20 → ∃ y, fX7_whyNoSeat s1 (nI p) (nI c) = some (3, y) ∧ (∀ a, a ≠ 19 → a < 24 ∨ 27 < a → y.1 a = s1.1 a) ∧ (∀ j, j < 12 ∨ 17 < j → y.1 19 j = s1.1 19 j) ∧ ∀ a, a ≠ 19 → y.2 a = s1.2 a) ∨ ∃ u : Int × List Nat, m3.1 5 6 = nI n ∧ (∀ k, k < n → m3.1 9 k = nI (u.2.getD k 0)) ∧ dgOK (s.1 20) c n (fun p => u.2.getD p 0) ∧ fX6_letIn s (nI p) (nI c) = some (nI (movN (hadG (s.1 20) c) (fun p => u.2.getD p 0) n), m3) ∧ ∀ s1 : Mem, s1.1 20 = s.1 20 → ∃ y, fX7_whyNoSeat s1 (nI p) (nI c) = some (-1, y) ∧ (∀ a, a ≠ 19 → a < 24 ∨ 27 < a → y.1 a = s1.1 a) ∧ (∀ j, j < 12 ∨ 17 < j → y.1 19 j = s1.1 19 j) ∧ (∀ a, a ≠ 19 → y.2 a = s1.2 a) ∧ y.1 19 14 = nI (movN (hadG (s.1 20) c) (fun p => u.2.getD p 0) n) ∧ ∀ k, k < n → y.1 25 k = nI (u.2.getD k 0)) := by
  have hn := hP.1
  obtain ⟨m1, m2, m3, b, k1, k2, k3, k4, k5, k6, k7, k8⟩ := C_searchM (m := s) hS hP hc hp
  have hx : fX6_letIn s (nI p) (nI c) = if b = (0 : Int32) then some (((-4 : Int32), m3)) else (fX3_moved m3).bind (fun y8 => some ((y8, m3))) := by
    have hb : s.1 2 (99 + 7 * p + c) = s.1 20 (100 + 7 * p + c) := BR_sits (Gd_BR hS hP) hp hc
    unfold fX6_letIn
    rw [C_isPupil s _ hn hP.2.2.1, inR_nI (by omega) (by omega) (by omega), Option.bind_some, bi_n0, if_pos rfl, C_isCourse, inR_nI (by omega) (by omega) (by omega), Option.bind_some, bi_n0, if_pos rfl, C_wsh s hP hp, hw, Option.bind_some, bi_n0, if_pos rfl, C_sits s (by omega) hc, Option.bind_some, hb, if_pos hq, k1, Option.bind_some, k2, Option.bind_some, k3, Option.bind_some]
  have hM : ∀ s1 : Mem, s1.1 20 = s.1 20 → ∃ y, fX7_seats s1 (nI c) (0 : Int32) (nI p) = some y ∧ fX7_whyNoSeat s1 (nI p) (nI c) = (if (y.1 19 16) = (0 : Int32) then some (((3 : Int32), y)) else some (((-1 : Int32), y))) ∧ (∀ a, a ≠ 19 → a < 24 ∨ 27 < a → y.1 a = s1.1 a) ∧ (∀ j, j < 12 ∨ 17 < j → y.1 19 j = s1.1 19 j) ∧ (∀ a, a ≠ 19 → y.2 a = s1.2 a) ∧ AccR y (s.1 20) (s.1 2) n c false (some p) (best (cmR (s.1 2) (s.1 20) n c false (some p)) n st00) := by
    intro s1 e20
    obtain ⟨y, j1, j2, j3, j4, j5, j6⟩ := M_seats (s := s1) (f := s.1 2) (n := n) (cs := c) (ev := false) (wh := some p) (by rw [e20]; exact hS) (by rw [e20]; exact PG_okM hP) hc (fun q h => by cases h; exact hp) (fun q h => rfl)
    rw [e20] at j6
    have j1' : fX7_seats s1 (nI c) (0 : Int32) (nI p) = some y := j1
    refine ⟨y, j1', ?_, j2, j3, j4, j6⟩
    unfold fX7_whyNoSeat
    rw [M_whyNot s1 _ _ hn (by rw [e20]; exact hP.2.1), Option.bind_some, whyG_in hn hp hc, e20, hw, if_pos rfl, if_pos (by decide), M_triple s1 (by omega) hc, Option.bind_some, e20, if_pos hq, j1', Option.bind_some]
  refine ⟨m3, Rel_idle hR (fun a q1 q2 q3 => k4 a q1) (fun j _ => by rw [k4 19 (by omega)]) (fun a _ _ => by rw [k5]), k4, k5, ?_⟩
  rcases k8 with ⟨q, rfl⟩ | ⟨u, q, rfl, hd, hok⟩
  · left
    refine ⟨by rw [hx, if_pos rfl], fun s1 e20 => ?_⟩
    obtain ⟨y, y0, y1, y2, y3, y4, y5⟩ := hM s1 e20
    rw [q] at y5
    have h16 : y.1 19 16 = 0 := y5
    exact ⟨y, by rw [y1, h16, if_pos rfl], y2, y3, y4⟩
  · right
    refine ⟨u, k6, fun k hk => (hd k hk).1, hok, ?_, fun s1 e20 => ?_⟩
    · rw [hx, if_neg (by decide), C_moved hn k6 k7 hd]; rfl
    · obtain ⟨y, y0, y1, y2, y3, y4, y5⟩ := hM s1 e20
      rw [q] at y5
      obtain ⟨a1, a2, a3, P, E, V, -, -, -, -, -, a9, -, a10, -, -⟩ := y5
      exact ⟨y, by rw [y1, a1, if_neg (by decide)], y2, y3, y4, by rw [a9, a10], a3⟩
theorem call_chain {s : Mem} (hR : Rel s) (x y : Int32) : OK2 (fX6_chain s x y) (fun s1 => fX7_chain s1 x y) := by
  obtain ⟨hS, n, hP⟩ := hR.1
  have hn := hP.1
  have hdef : ∀ s1, fX7_chain s1 x y = (fX7_whyNoSeat s1 x y).bind (fun y1 => if (0 : Int32) ≤ y1.1 then (fX7_finds y1.2 y1.1).bind (fun y2 => some ((y2.1, y2.2))) else some ((y1.2.1 19 14, y1.2))) := fun _ => rfl
  unfold fX6_chain
  refine lets_pre hR hP x y _ (fun y1 => if (0 : Int32) ≤ y1.1 then (fX7_finds y1.2 y1.1).bind (fun y2 => some ((y2.1, y2.2))) else some ((y1.2.1 19 14, y1.2))) (fun k hk m => ?_) (fun k hk m => ?_) (fun p c hp hc ex ey hw hq => ?_)
  · show (if (0 : Int32) ≤ (-1 : Int32) - nI k then some ((-1 : Int32) - nI k, m) else (fX6_finding m ((-1 : Int32) - ((-1 : Int32) - nI k))).bind (fun y2 => some ((y2.1, y2.2)))) = _
    have n1 := enc_neg ⟨k, hk⟩
    have n2 := enc_inv ⟨k, hk⟩
    simp only at n1 n2
    rw [if_neg n1, n2]
  · show (if (0 : Int32) ≤ nI k then (fX7_finds m (nI k)).bind (fun y2 => some ((y2.1, y2.2))) else some ((m.1 19 14, m))) = _
    rw [if_pos (nI_pos' (by omega))]
  · subst ex ey
    obtain ⟨m3, r1, r2, r3, r4⟩ := lets_main hR hS hP hp hc hw hq
    rcases r4 with ⟨h1, h2⟩ | ⟨u, h5, h6, hok, h1, h2⟩
    · refine fndY r1 3 (by omega) ?_ (fun s1 g1 g2 => ?_)
      · rw [h1, Option.bind_some]
        show (if (0 : Int32) ≤ (-4 : Int32) then some ((-4 : Int32), m3) else (fX6_finding m3 ((-1 : Int32) - (-4 : Int32))).bind (fun y2 => some ((y2.1, y2.2)))) = _
        rw [if_neg (by decide), show (-1 : Int32) - (-4 : Int32) = nI 3 from by decide]
      · obtain ⟨z, z1, z2, z3, z4⟩ := h2 s1 (by rw [g1 20 (by omega), r2 20 (by omega)])
        refine ⟨z, ?_, fun a q1 q2 => z2 a q1 (by omega), fun j hj => z3 j (by omega), z4⟩
        show (fX7_whyNoSeat s1 (nI p) (nI c)).bind _ = _
        rw [z1, Option.bind_some]; rfl
    · obtain ⟨z, z1, z2, z3, z4, z5, z6⟩ := h2 m3 (r2 20 (by omega))
      have hmv := movN_le (hadG (s.1 20) c) (fun p => u.2.getD p 0) n
      refine ⟨nI (movN (hadG (s.1 20) c) (fun p => u.2.getD p 0) n), m3, z, ?_, ?_, Rel_idle r1 (fun a q1 q2 q3 => z2 a q2 (by omega)) (fun j hj => z3 j (by omega)) (fun a q1 _ => z4 a q1)⟩
      · rw [h1, Option.bind_some]
        show (if (0 : Int32) ≤ nI (movN (hadG (s.1 20) c) (fun p => u.2.getD p 0) n) then some (nI (movN (hadG (s.1 20) c) (fun p => u.2.getD p 0) n), m3) else _) = _
        rw [if_pos (nI_pos' (by omega))]
      · show (fX7_whyNoSeat m3 (nI p) (nI c)).bind _ = _
        rw [z1, Option.bind_some]
        show (if (0 : Int32) ≤ (-1 : Int32) then _ else some ((z.1 19 14, z))) = _
        rw [if_neg (by decide), z5]
theorem call_lets {s : Mem} (hR : Rel s) (x y : Int32) : OK2 (fX6_lets s x y) (fun s1 => fX7_lets s1 x y) := by
  obtain ⟨hS, n, hP⟩ := hR.1
  have hn := hP.1
  have hdef : ∀ s1, fX7_lets s1 x y = (fX7_whyNoSeat s1 x y).bind (fun y1 => if y1.1 < (0 : Int32) then (fX7_becomesBest y1.2 y).bind (fun y2 => (fX7_triple y2 x y).bind (fun y3 => some ((y3, y2)))) else (fX7_finds y1.2 y1.1).bind (fun y4 => some ((y4.1, y4.2)))) := fun _ => rfl
  unfold fX6_lets
  refine lets_pre hR hP x y _ (fun y1 => if y1.1 < (0 : Int32) then (fX7_becomesBest y1.2 y).bind (fun y2 => (fX7_triple y2 x y).bind (fun y3 => some ((y3, y2)))) else (fX7_finds y1.2 y1.1).bind (fun y4 => some ((y4.1, y4.2)))) (fun k hk m => ?_) (fun k hk m => ?_) (fun p c hp hc ex ey hw hq => ?_)
  · show (if (0 : Int32) ≤ (-1 : Int32) - nI k then _ else (fX6_finding m ((-1 : Int32) - ((-1 : Int32) - nI k))).bind (fun y5 => some ((y5.1, y5.2)))) = _
    have n1 := enc_neg ⟨k, hk⟩
    have n2 := enc_inv ⟨k, hk⟩
    simp only at n1 n2
    rw [if_neg n1, n2]
  · show (if nI k < (0 : Int32) then _ else (fX7_finds m (nI k)).bind (fun y4 => some ((y4.1, y4.2)))) = _
    rw [if_neg (nI_pos (by omega))]
  · subst ex ey
    obtain ⟨m3, r1, r2, r3, r4⟩ := lets_main hR hS hP hp hc hw hq
    rcases r4 with ⟨h1, h2⟩ | ⟨u, h5, h6, hok, h1, h2⟩
    · refine fndY r1 3 (by omega) ?_ (fun s1 g1 g2 => ?_)
      · rw [h1, Option.bind_some]
        show (if (0 : Int32) ≤ (-4 : Int32) then _ else (fX6_finding m3 ((-1 : Int32) - (-4 : Int32))).bind (fun y2 => some ((y2.1, y2.2)))) = _
        rw [if_neg (by decide), show (-1 : Int32) - (-4 : Int32) = nI 3 from by decide]
      · obtain ⟨z, z1, z2, z3, z4⟩ := h2 s1 (by rw [g1 20 (by omega), r2 20 (by omega)])
        refine ⟨z, ?_, fun a q1 q2 => z2 a q1 (by omega), fun j hj => z3 j (by omega), z4⟩
        show (fX7_whyNoSeat s1 (nI p) (nI c)).bind _ = _
        rw [z1, Option.bind_some]; rfl
    · have hmv := movN_le (hadG (s.1 20) c) (fun p => u.2.getD p 0) n
      have e2 : m3.1 2 = s.1 2 := r2 2 (by omega)
      have e20 : m3.1 20 = s.1 20 := r2 20 (by omega)
      obtain ⟨s0, b1, b2, b3, b4, b5, b6, b7⟩ := C_beg r1
      have hbs := C_becomesSo (m := s0) (n := n) (cs := c) (D := fun p => u.2.getD p 0) hn hc (by rw [b7 5 (by omega) (by omega)]; exact h5) (fun k hk => by rw [b7 9 (by omega) (by omega)]; exact h6 k hk)
      rw [b3] at hbs
      generalize hs1 : upR s0 2 (bsF c (fun p => u.2.getD p 0) (m3.1 2) n) = s1 at hbs
      have hC : ChC m3 s1 (bsF c (fun p => u.2.getD p 0) (m3.1 2) n) := by rw [← hs1]; exact b2 _
      have s120 : s1.1 20 = m3.1 20 := by rw [← hs1, upR_n (by omega), b4]
      obtain ⟨z, z1, z2, z3, z4, z5, z6⟩ := h2 s1 (by rw [s120, e20])
      obtain ⟨s2, w1, w2, w3, w4⟩ := ok_bs (f := s.1 2) (n := n) (u := u) r1 (by rw [e2, e20]; exact hS) (by rw [e2, e20]; exact hP) hc hC s120 (by rw [e20]; exact hok) z6 z2 z3 z4
      refine ⟨dgI (u.2.getD p 0), s1, s2, ?_, ?_, w2⟩
      · rw [h1, Option.bind_some]
        show (if (0 : Int32) ≤ nI (movN (hadG (s.1 20) c) (fun p => u.2.getD p 0) n) then (fX6_begin m3).bind (fun y2 => (fX3_becomesSo y2 (nI c)).bind (fun y3 => (fX0_sits y3 (nI p) (nI c)).bind (fun y4 => some ((y4, y3))))) else _) = _
        rw [if_pos (nI_pos' (by omega)), b1, Option.bind_some, hbs, Option.bind_some, C_sits s1 (by omega) hc, Option.bind_some, hC.1, bsF_v c (fun p => u.2.getD p 0) (m3.1 2) p n hp]
      · show (fX7_whyNoSeat s1 (nI p) (nI c)).bind _ = _
        rw [z1, Option.bind_some]
        show (if (-1 : Int32) < (0 : Int32) then (fX7_becomesBest z (nI c)).bind (fun y2 => (fX7_triple y2 (nI p) (nI c)).bind (fun y3 => some ((y3, y2)))) else _) = _
        rw [if_pos (by decide), w1, Option.bind_some, M_triple s2 (by omega) hc, Option.bind_some, w3, bsG_v c (fun p => u.2.getD p 0) (m3.1 20) p n hp]
