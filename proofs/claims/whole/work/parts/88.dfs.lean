/-! the reference: all seatings tried -/
theorem M_looks {m : Mem} {f : Nat → Int32} {n cs : Nat} {ev : Bool} {wh : Option Nat} {D : Nat → Nat} {acc : Option (Int × List Nat)} (hS : SG f (m.1 20)) (hM : okM (m.1 20) n) (hcs : cs < 4) (hD : digR m D n) (hw : m.1 19 17 = whI wh) (hwn : ∀ p, wh = some p → p < n) (hev : m.1 19 15 = bi ev) (hwe : ∀ p, wh = some p → ev = false) (hF : FreeR (m.1 20) cs m (stF D n)) (hi : inS (stF D n)) (h6 : (stF D n).1 ≤ 6) (hA : AccR m (m.1 20) f n cs ev wh acc) : ∃ m', fX7_looks m (nI cs) = some m' ∧ (∀ a, a ≠ 19 → a ≠ 25 → m'.1 a = m.1 a) ∧ (∀ j, j ≠ 12 → j ≠ 13 → j ≠ 14 → j ≠ 16 → m'.1 19 j = m.1 19 j) ∧ (∀ a, a ≠ 19 → m'.2 a = m.2 a) ∧ m'.2 19 11 = m.2 19 11 + 1 ∧ AccR m' (m.1 20) f n cs ev wh (if vioB wh (hadG (m.1 20) cs) D n = true then acc else pck acc (some (pvN (cmR f (m.1 20) n cs ev wh) D n + -(cG (cmR f (m.1 20) n cs ev wh)) * (gapS (cmR f (m.1 20) n cs ev wh) (stF D n) : Int), dl D n))) := by
  have hn := hM.1
  generalize hs1 : upL m 19 11 (m.2 19 11 + 1) = s1
  have s1r : s1.1 = m.1 := by rw [← hs1]; rfl
  have s1L : ∀ a, a ≠ 19 → s1.2 a = m.2 a := fun a ha => by rw [← hs1, upL_R, upRL_n ha]
  have s1c : s1.2 19 11 = m.2 19 11 + 1 := by rw [← hs1, upL_s, pk_uLs]
  have hD1 : digR s1 D n := by unfold digR; rw [s1r]; exact hD
  have hA1 : AccR s1 (m.1 20) f n cs ev wh acc := AccR_cg hA (by rw [s1r]) (fun j _ => by rw [s1r])
  obtain ⟨b, l1, l2⟩ := M_looks17 (m := s1) (wh := wh) (by rw [s1r]; exact hM) hcs hD1 (by rw [s1r]; exact hw) hwn
  rw [s1r] at l2
  have hx : fX7_looks m (nI cs) = Sum.elim (fun q22 => some q22) (fun t21 => if (s1.1 19 15) = (0 : Int32) then gX7_looks_137 s1 t21.1 t21.2 (0 : Int32) else (fX7_unevenNow s1 (nI cs)).bind (fun y41 => gX7_looks_137 s1 t21.1 t21.2 y41)) b := by
    unfold fX7_looks
    rw [lt_e, hs1, l1, Option.bind_some]
  rcases l2 with ⟨v1, rfl⟩ | ⟨v1, rfl⟩
  · rw [v1, if_pos rfl]
    exact ⟨s1, hx, fun a _ _ => by rw [s1r], fun j _ _ _ _ => by rw [s1r], s1L, s1c, hA1⟩
  · rw [v1, if_neg (by decide)]
    have hpv := pvN_v (cmR f (m.1 20) n cs ev wh) D n
    rw [cm_S, cm_M, cm_H] at hpv
    have gle : gapS (baseC f (m.1 20) n cs (0, 0, 0)) (stF D n) ≤ 18 := by
      have a0 := gp_le (p := cP (baseC f (m.1 20) n cs (0, 0, 0)) 0) hi.1
      have a1 := gp_le (p := cP (baseC f (m.1 20) n cs (0, 0, 0)) 1) hi.2.1
      have a2 := gp_le (p := cP (baseC f (m.1 20) n cs (0, 0, 0)) 2) hi.2.2
      unfold gapS; omega
    have hput := putN_le D n
    have hmov := movN_le (hadG (m.1 20) cs) D n
    have hun := M_unevenNow (m := s1) (f := f) (n := n) (cs := cs) (w := (0, 0, 0)) (st := stF D n) (by rw [s1r]; exact hS) hcs (by rw [s1r]; intro so hs w hw2 ho; rw [s1r]; exact hF so hs w hw2 ho) hi h6
    rw [s1r] at hun
    have fin : ∀ E : Nat, E ≤ 18 → (ev = true → E = gapS (baseC f (m.1 20) n cs (0, 0, 0)) (stF D n)) → (ev = false → E = 0) → ∃ m', gX7_looks_137 s1 (nI (putN D n)) (nI (movN (hadG (m.1 20) cs) D n)) (nI E) = some m' ∧ (∀ a, a ≠ 19 → a ≠ 25 → m'.1 a = m.1 a) ∧ (∀ j, j ≠ 12 → j ≠ 13 → j ≠ 14 → j ≠ 16 → m'.1 19 j = m.1 19 j) ∧ (∀ a, a ≠ 19 → m'.2 a = m.2 a) ∧ m'.2 19 11 = m.2 19 11 + 1 ∧ AccR m' (m.1 20) f n cs ev wh (pck acc (some (pvN (cmR f (m.1 20) n cs ev wh) D n + -(cG (cmR f (m.1 20) n cs ev wh)) * (gapS (cmR f (m.1 20) n cs ev wh) (stF D n) : Int), dl D n))) := by
      intro E hE e1 e2
      have hP : (if wh = none then putN D n else 0) ≤ 6 := by split <;> omega
      obtain ⟨m', k1, k2, k3, k4, k5⟩ := M_look148 (m := s1) (f := f) (g := m.1 20) (n := n) (cs := cs) (ev := ev) (wh := wh) (D := D) (acc := acc) (P := if wh = none then putN D n else 0) (E := E) (V := movN (hadG (m.1 20) cs) D n) hn hP hE (by omega) hD1 hA1 rfl (fun z => if_pos z) e1
      have hval : (10000 * ((if wh = none then putN D n else 0 : Nat) : Int) - 100 * (E : Int) - (movN (hadG (m.1 20) cs) D n : Int)) = pvN (cmR f (m.1 20) n cs ev wh) D n + -(cG (cmR f (m.1 20) n cs ev wh)) * (gapS (cmR f (m.1 20) n cs ev wh) (stF D n) : Int) := by
        rw [hpv, cm_gap f (m.1 20) n cs ev wh (0, 0, 0), cm_G]
        cases wh with
        | none =>
          rw [if_pos rfl, if_pos rfl, if_pos rfl]
          cases ev with
          | true => rw [if_pos rfl, e1 rfl]; omega
          | false => rw [if_neg (by decide), e2 rfl]; omega
        | some p =>
          rw [if_neg (by intro z; cases z), if_neg (by intro z; cases z), if_neg (by intro z; cases z), e2 (hwe p rfl)]; omega
      rw [hval] at k5
      refine ⟨m', ?_, fun a q1 q2 => by rw [k2 a q1 q2, s1r], fun j q1 q2 q3 q4 => by rw [k3 j q1 q2 q3 q4, s1r], fun a ha => by rw [k4]; exact s1L a ha, by rw [k4]; exact s1c, k5⟩
      unfold gX7_looks_137
      rw [s1r, hw]
      cases wh with
      | none => rw [show whI none = -1 from rfl, if_pos (by decide)]; exact k1
      | some p =>
        have hp := hwn p rfl
        rw [show whI (some p) = nI p from rfl, if_neg (nI_pos (by omega))]; exact k1
    rw [Sum.elim_inr, s1r, hev] at hx
    cases e : ev with
    | true =>
      subst e
      obtain ⟨m', k1, k2⟩ := fin _ gle (fun _ => rfl) (fun z => by cases z)
      rw [show bi true = 1 from rfl, if_neg (by decide), hun, Option.bind_some] at hx
      exact ⟨m', by rw [hx]; exact k1, k2⟩
    | false =>
      subst e
      obtain ⟨m', k1, k2⟩ := fin 0 (by omega) (fun z => by cases z) (fun _ => rfl)
      rw [show bi false = 0 from rfl, if_pos rfl] at hx
      exact ⟨m', by rw [hx]; exact k1, k2⟩
theorem set_has1 (F : Nat → Bool) {t : Nat} (ht : t < 8) : decide ((setG F 8 >>> (nI t &&& 31)) &&& (1 : Int32) = 1) = F t := by
  have h := set_has F ht
  obtain ⟨j, hj, e⟩ := pk_andE (setG F 8 >>> (nI t &&& 31)) (m := 1) 1 (by decide)
  rw [e] at h ⊢
  obtain rfl | rfl : j = 0 ∨ j = 1 := by omega
  · rw [(h.mp rfl)]; decide
  · cases e2 : F t
    · exact absurd (h.mpr e2) (by decide)
    · decide
def preL (v : Int) (l : List Nat) : Option (Int × List Nat) → Option (Int × List Nat)
  | none => none
  | some u => some (v + u.1, l ++ u.2)
theorem pre_ext (v j : Int) (l : List Nat) (dg : Nat) (o : Option (Int × List Nat)) : preL (v + j) (l ++ [dg]) o = preL v l (ext j dg o) := by
  cases o with
  | none => rfl
  | some u =>
    show some (v + j + u.1, l ++ [dg] ++ u.2) = some (v + (j + u.1), l ++ (dg :: u.2))
    rw [Int.add_assoc, List.append_assoc]; rfl
theorem pck_pre (v : Int) (l : List Nat) (acc a b : Option (Int × List Nat)) : pck (pck acc (preL v l a)) (preL v l b) = pck acc (preL v l (pck a b)) := by
  cases a with
  | none => show pck (pck acc none) (preL v l b) = pck acc (preL v l b); rw [pck_n]
  | some a =>
    cases b with
    | none => show pck (pck acc (preL v l (some a))) none = pck acc (preL v l (some a)); rw [pck_n]
    | some b =>
      have e1 : pck (some a) (some b) = if a.1 < b.1 then some b else some a := rfl
      rw [e1]
      cases acc with
      | none =>
        show (if v + a.1 < v + b.1 then some (v + b.1, l ++ b.2) else some (v + a.1, l ++ a.2)) = preL v l (if a.1 < b.1 then some b else some a)
        by_cases q : a.1 < b.1
        · rw [if_pos q, if_pos (by omega)]; rfl
        · rw [if_neg q, if_neg (by omega)]; rfl
      | some c =>
        have e2 : pck (some c) (preL v l (some a)) = if c.1 < v + a.1 then some (v + a.1, l ++ a.2) else some c := rfl
        rw [e2]
        by_cases q1 : c.1 < v + a.1
        · rw [if_pos q1]
          show (if v + a.1 < v + b.1 then some (v + b.1, l ++ b.2) else some (v + a.1, l ++ a.2)) = _
          by_cases q : a.1 < b.1
          · rw [if_pos q, if_pos (by omega)]
            show _ = if c.1 < v + b.1 then some (v + b.1, l ++ b.2) else some c
            rw [if_pos (by omega)]
          · rw [if_neg q, if_neg (by omega)]
            show _ = if c.1 < v + a.1 then some (v + a.1, l ++ a.2) else some c
            rw [if_pos (by omega)]
        · rw [if_neg q1]
          show (if c.1 < v + b.1 then some (v + b.1, l ++ b.2) else some c) = _
          by_cases q : a.1 < b.1
          · rw [if_pos q]; rfl
          · rw [if_neg q]
            show _ = if c.1 < v + a.1 then some (v + a.1, l ++ a.2) else some c
            rw [if_neg q1, if_neg (by omega)]
/-- the best so far, i digits of pupil k having been tried -/
def accT (c : SCx) (wh : Option Nat) (H D : Nat → Nat) (k r : Nat) (acc : Option (Int × List Nat)) (i : Nat) : Option (Int × List Nat) := if vioB wh H D k = true then acc else pck acc (preL (pvN c D k) (dl D k) (foldB c k (best c r) (stF D k) i))
def updD (D : Nat → Nat) (k dg : Nat) : Nat → Nat := fun q => if q = k then dg else D q
theorem updD_s (D : Nat → Nat) (k dg : Nat) : updD D k dg k = dg := if_pos rfl
theorem updD_n (D : Nat → Nat) {k q : Nat} (dg : Nat) (h : q < k) : updD D k dg q = D q := if_neg (by omega)
theorem acc_step (f g : Nat → Int32) (n cs : Nat) (ev : Bool) (wh : Option Nat) (D : Nat → Nat) (k r dg : Nat) (acc : Option (Int × List Nat)) (hal : dg ≠ 0 → cAl (cmR f g n cs ev wh) k dg = true ∧ hold (cmR f g n cs ev wh) (stA (stF D k) (dg - 1)) = true) : (if vioB wh (hadG g cs) (updD D k dg) (k + 1) = true then accT (cmR f g n cs ev wh) wh (hadG g cs) D k r acc dg else pck (accT (cmR f g n cs ev wh) wh (hadG g cs) D k r acc dg) (preL (pvN (cmR f g n cs ev wh) (updD D k dg) (k + 1)) (dl (updD D k dg) (k + 1)) (best (cmR f g n cs ev wh) r (stF (updD D k dg) (k + 1))))) = accT (cmR f g n cs ev wh) wh (hadG g cs) D k r acc (dg + 1) := by
  have e1 : vioB wh (hadG g cs) (updD D k dg) (k + 1) = (vioB wh (hadG g cs) D k || (decide (dg = 0) && !cAl (cmR f g n cs ev wh) k 0)) := by
    rw [vioB_s, vi1_A f g n cs ev, updD_s, vio_cg (D' := D) k (fun p hp => updD_n D dg hp)]
  have e2 : pvN (cmR f g n cs ev wh) (updD D k dg) (k + 1) = pvN (cmR f g n cs ev wh) D k + joinC (cmR f g n cs ev wh) k dg := by
    show pvN _ (updD D k dg) k + joinC _ k (updD D k dg k) = _
    rw [updD_s, pvN_cg (D' := D) k (fun p hp => updD_n D dg hp)]
  have e3 : dl (updD D k dg) (k + 1) = dl D k ++ [dg] := by
    show dl (updD D k dg) k ++ [updD D k dg k] = _
    rw [updD_s, dl_cg (D' := D) k (fun p hp => updD_n D dg hp)]
  have e4 : stF (updD D k dg) (k + 1) = stN (stF D k) dg := by
    show stN (stF (updD D k dg) k) (updD D k dg k) = _
    rw [updD_s, stF_cg (D' := D) k (fun p hp => updD_n D dg hp)]
  rw [e1, e2, e3, e4, pre_ext]
  unfold accT
  cases hv : vioB wh (hadG g cs) D k
  · simp only [Bool.false_or, Bool.false_eq_true, if_false]
    by_cases q : dg = 0
    · subst q
      have e0 : stN (stF D k) 0 = stF D k := rfl
      rw [e0, foldB_s]
      cases ha : cAl (cmR f g n cs ev wh) k 0
      · have : thrB (cmR f g n cs ev wh) k (best (cmR f g n cs ev wh) r) (stF D k) 0 = none := by unfold thrB; rw [ha]; rfl
        rw [this, pck_n]
        rfl
      · have : thrB (cmR f g n cs ev wh) k (best (cmR f g n cs ev wh) r) (stF D k) 0 = ext (joinC (cmR f g n cs ev wh) k 0) 0 (best (cmR f g n cs ev wh) r (stF D k)) := by unfold thrB thr0; rw [ha]; rfl
        rw [this, pck_pre]
        rfl
    · obtain ⟨h1, h2⟩ := hal q
      have e0 : stN (stF D k) dg = stA (stF D k) (dg - 1) := if_neg q
      have : thrB (cmR f g n cs ev wh) k (best (cmR f g n cs ev wh) r) (stF D k) dg = ext (joinC (cmR f g n cs ev wh) k dg) dg (best (cmR f g n cs ev wh) r (stA (stF D k) (dg - 1))) := by
        unfold thrB thr0
        rw [h1, if_pos rfl, if_neg q, h2, if_pos rfl]
      rw [decide_eq_false q, Bool.false_and, if_neg (by decide), foldB_s, this, e0, pck_pre]
  · rw [Bool.true_or, if_pos rfl, if_pos rfl, if_pos rfl]
theorem acc_skip (f g : Nat → Int32) (n cs : Nat) (ev : Bool) (wh : Option Nat) (D : Nat → Nat) (k r dg : Nat) (acc : Option (Int × List Nat)) (h : thrB (cmR f g n cs ev wh) k (best (cmR f g n cs ev wh) r) (stF D k) dg = none) : accT (cmR f g n cs ev wh) wh (hadG g cs) D k r acc (dg + 1) = accT (cmR f g n cs ev wh) wh (hadG g cs) D k r acc dg := by
  unfold accT
  rw [foldB_s, h, pck_n]
/-- where the reference's search begins -/
def BaseR (b : Mem) (f : Nat → Int32) (n cs : Nat) (ev : Bool) (wh : Option Nat) : Prop := SG f (b.1 20) ∧ okM (b.1 20) n ∧ cs < 4 ∧ (∀ p, p < n → b.1 27 p = setG (mayG (b.1 20) cs p) 8) ∧ b.1 19 15 = bi ev ∧ b.1 19 17 = whI wh ∧ (∀ p, wh = some p → p < n) ∧ (∀ p, wh = some p → ev = false)
/-- a try under way -/
def TryR (b : Mem) (f : Nat → Int32) (n cs : Nat) (D : Nat → Nat) (k : Nat) (m : Mem) : Prop := FrR b m ∧ FreeR (b.1 20) cs m (stF D k) ∧ digR m D k
theorem dfs {b : Mem} {f : Nat → Int32} {n cs : Nat} {ev : Bool} {wh : Option Nat} (hB : BaseR b f n cs ev wh) : ∀ (r k fuel : Nat) (D : Nat → Nat) (m : Mem) (acc : Option (Int × List Nat)), r + k = n → r < fuel → TryR b f n cs D k m → hold (baseC f (b.1 20) n cs (0, 0, 0)) (stF D k) = true → inS (stF D k) → (stF D k).1 ≤ k → AccR m (b.1 20) f n cs ev wh acc → ∃ m', hX7_seatsFrom fuel m (nI cs) (nI k) = some m' ∧ TryR b f n cs D k m' ∧ m'.2 19 11 = m.2 19 11 + lN (cnt (baseC f (b.1 20) n cs (0, 0, 0)) r (stF D k)) ∧ AccR m' (b.1 20) f n cs ev wh (if vioB wh (hadG (b.1 20) cs) D k = true then acc else pck acc (preL (pvN (cmR f (b.1 20) n cs ev wh) D k) (dl D k) (best (cmR f (b.1 20) n cs ev wh) r (stF D k))))
  | 0, k, fuel, D, m, acc, hrk, hfu, hT, hh, hi, hk6, hA => by
    obtain ⟨hS, hM, hcs, -, hev, hw, hwn, hwe⟩ := hB
    obtain ⟨⟨f1, f2, f3⟩, hF, hD⟩ := hT
    have hn := hM.1
    have ek : k = n := by omega
    subst ek
    have e20 : m.1 20 = b.1 20 := f1 20 (by omega) (by omega) (by omega) (by omega)
    obtain ⟨fu, rfl⟩ : ∃ fu, fuel = fu + 1 := ⟨fuel - 1, by omega⟩
    obtain ⟨m', k1, k2, k3, k4, k5, k6⟩ := M_looks (m := m) (f := f) (n := k) (cs := cs) (ev := ev) (wh := wh) (D := D) (acc := acc) (by rw [e20]; exact hS) (by rw [e20]; exact hM) hcs hD (by rw [f2 17 (by omega) (by omega) (by omega) (by omega)]; exact hw) hwn (by rw [f2 15 (by omega) (by omega) (by omega) (by omega)]; exact hev) hwe (by rw [e20]; exact hF) hi (by omega) (by rw [e20]; exact hA)
    rw [e20] at k6
    refine ⟨m', ?_, ⟨⟨fun a q1 q2 q3 q4 => by rw [k2 a q4 q2]; exact f1 a q1 q2 q3 q4, fun j q1 q2 q3 q4 => by rw [k3 j q1 q2 q3 q4]; exact f2 j q1 q2 q3 q4, fun a ha => by rw [k4 a ha]; exact f3 a ha⟩, fun so hs w hw' ho => by rw [k2 26 (by omega) (by omega)]; exact hF so hs w hw' ho, fun p hp => by rw [k2 24 (by omega) (by omega)]; exact hD p hp⟩, k5, ?_⟩
    · show eX7_seatsFrom (hX7_seatsFrom fu) m (nI cs) (nI k) = some m'
      unfold eX7_seatsFrom
      simp only [cl96]
      rw [gd96, e20, hM.2.1, if_pos rfl, k1]; rfl
    · have e : preL (pvN (cmR f (b.1 20) k cs ev wh) D k) (dl D k) (best (cmR f (b.1 20) k cs ev wh) 0 (stF D k)) = some (pvN (cmR f (b.1 20) k cs ev wh) D k + -(cG (cmR f (b.1 20) k cs ev wh)) * (gapS (cmR f (b.1 20) k cs ev wh) (stF D k) : Int), dl D k) := by
        show some (pvN (cmR f (b.1 20) k cs ev wh) D k + -(cG (cmR f (b.1 20) k cs ev wh)) * (gapS (cmR f (b.1 20) k cs ev wh) (stF D k) : Int), dl D k ++ []) = _
        rw [List.append_nil]
      rw [e]
      exact k6
  | r + 1, k, fuel, D, m, acc, hrk, hfu, hT, hh, hi, hk6, hA => by
    have hB0 := hB
    obtain ⟨hS, hM, hcs, h27, hev, hw, hwn, hwe⟩ := hB
    have hn := hM.1
    have hk : k < n := by omega
    obtain ⟨⟨f1, f2, f3⟩, hF, hD⟩ := hT
    have e20 : m.1 20 = b.1 20 := f1 20 (by omega) (by omega) (by omega) (by omega)
    obtain ⟨fu, rfl⟩ : ∃ fu, fuel = fu + 1 := ⟨fuel - 1, by omega⟩
    -- the digit 0
    have try0 : TryR b f n cs (updD D k 0) (k + 1) (up2 m 24 k 0) := by
      refine ⟨⟨fun a q1 q2 q3 q4 => by rw [up2_n q1]; exact f1 a q1 q2 q3 q4, fun j q1 q2 q3 q4 => by rw [up2_n (by omega)]; exact f2 j q1 q2 q3 q4, fun a ha => f3 a ha⟩, fun so hs w hw' ho => ?_, fun p hp => ?_⟩
      · have e4 : stF (updD D k 0) (k + 1) = stF D k := by
          show stN (stF (updD D k 0) k) (updD D k 0 k) = _
          rw [updD_s, stF_cg (D' := D) k (fun p hp => updD_n D 0 hp)]; rfl
        rw [e4, up2_n (by omega)]; exact hF so hs w hw' ho
      · rw [up2_s]
        by_cases q : p = k
        · subst q; rw [pk_us, updD_s]; exact ⟨rfl, by omega⟩
        · rw [pk_un q, updD_n D 0 (by omega)]; exact hD p (by omega)
    have st0e : stF (updD D k 0) (k + 1) = stF D k := by
      show stN (stF (updD D k 0) k) (updD D k 0 k) = _
      rw [updD_s, stF_cg (D' := D) k (fun p hp => updD_n D 0 hp)]; rfl
    have acc0 : AccR (up2 m 24 k 0) (b.1 20) f n cs ev wh (accT (cmR f (b.1 20) n cs ev wh) wh (hadG (b.1 20) cs) D k r acc 0) := by
      have e : accT (cmR f (b.1 20) n cs ev wh) wh (hadG (b.1 20) cs) D k r acc 0 = acc := by
        unfold accT
        have : foldB (cmR f (b.1 20) n cs ev wh) k (best (cmR f (b.1 20) n cs ev wh) r) (stF D k) 0 = none := rfl
        rw [this]
        show (if vioB wh (hadG (b.1 20) cs) D k = true then acc else pck acc none) = acc
        rw [pck_n]; split <;> rfl
      rw [e]
      exact AccR_cg hA (up2_n (by omega)) (fun j _ => by rw [up2_n (by omega)])
    obtain ⟨m1, g1, g2, g3, g4⟩ := dfs hB0 r (k + 1) fu (updD D k 0) (up2 m 24 k 0) _ (by omega) (by omega) try0 (by rw [st0e]; exact hh) (by rw [st0e]; exact hi) (by rw [st0e]; omega) acc0
    rw [acc_step f (b.1 20) n cs ev wh D k r 0 acc (fun q => absurd rfl q)] at g4
    rw [st0e] at g3
    have key : ∃ m2, lp (fun a => bX7_seatsFrom_34 (hX7_seatsFrom fu) a.2 (nI cs) (nI k) a.1) 600 ((0 : Int32), m1) = some m2 ∧ (FrR b m2 ∧ FreeR (b.1 20) cs m2 (stF D k) ∧ digR m2 D k ∧ m2.2 19 11 = m.2 19 11 + lN (foldN (baseC f (b.1 20) n cs (0, 0, 0)) k (cnt (baseC f (b.1 20) n cs (0, 0, 0)) r) (stF D k) 9) ∧ AccR m2 (b.1 20) f n cs ev wh (accT (cmR f (b.1 20) n cs ev wh) wh (hadG (b.1 20) cs) D k r acc 9)) := by
      refine lp_inv (α := Int32 × Mem) (β := Mem) (fun i a => a.1 = nI i ∧ FrR b a.2 ∧ FreeR (b.1 20) cs a.2 (stF D k) ∧ digR a.2 D k ∧ a.2.2 19 11 = m.2 19 11 + lN (foldN (baseC f (b.1 20) n cs (0, 0, 0)) k (cnt (baseC f (b.1 20) n cs (0, 0, 0)) r) (stF D k) (i + 1)) ∧ AccR a.2 (b.1 20) f n cs ev wh (accT (cmR f (b.1 20) n cs ev wh) wh (hadG (b.1 20) cs) D k r acc (i + 1))) (fun m2 => FrR b m2 ∧ FreeR (b.1 20) cs m2 (stF D k) ∧ digR m2 D k ∧ m2.2 19 11 = m.2 19 11 + lN (foldN (baseC f (b.1 20) n cs (0, 0, 0)) k (cnt (baseC f (b.1 20) n cs (0, 0, 0)) r) (stF D k) 9) ∧ AccR m2 (b.1 20) f n cs ev wh (accT (cmR f (b.1 20) n cs ev wh) wh (hadG (b.1 20) cs) D k r acc 9)) 8 ?_ ?_ (by omega) ⟨rfl, g2.1, by rw [← st0e]; exact g2.2.1, fun p hp => by have := g2.2.2 p (by omega); rw [updD_n D 0 hp] at this; exact this, ?_, g4⟩
      · rintro t ⟨x, m'⟩ ht ⟨q1, q2, q3, q4, q5, q6⟩
        simp only at q1 q2 q3 q4 q5 q6
        subst q1
        left
        obtain ⟨p1, p2, p3⟩ := id q2
        have e20' : m'.1 20 = b.1 20 := p1 20 (by omega) (by omega) (by omega) (by omega)
        have hmay : m'.1 27 k = setG (mayG (b.1 20) cs k) 8 := by rw [p1 27 (by omega) (by omega) (by omega) (by omega)]; exact h27 k hk
        have hhas : fX7_has (m'.1 27 k) (nI t) = some (bi (mayG (b.1 20) cs k t)) := by rw [M_has, hmay, set_has1 _ ht]
        have skip : thrB (cmR f (b.1 20) n cs ev wh) k (best (cmR f (b.1 20) n cs ev wh) r) (stF D k) (t + 1) = none → thrN (baseC f (b.1 20) n cs (0, 0, 0)) k (cnt (baseC f (b.1 20) n cs (0, 0, 0)) r) (stF D k) (t + 1) = 0 → bX7_seatsFrom_34 (hX7_seatsFrom fu) m' (nI cs) (nI k) (nI t) = some (.inr (nI (t + 1), m')) → ∃ a', (fun a : Int32 × Mem => bX7_seatsFrom_34 (hX7_seatsFrom fu) a.2 (nI cs) (nI k) a.1) (nI t, m') = some (.inr a') ∧ (a'.1 = nI (t + 1) ∧ FrR b a'.2 ∧ FreeR (b.1 20) cs a'.2 (stF D k) ∧ digR a'.2 D k ∧ a'.2.2 19 11 = m.2 19 11 + lN (foldN (baseC f (b.1 20) n cs (0, 0, 0)) k (cnt (baseC f (b.1 20) n cs (0, 0, 0)) r) (stF D k) (t + 1 + 1)) ∧ AccR a'.2 (b.1 20) f n cs ev wh (accT (cmR f (b.1 20) n cs ev wh) wh (hadG (b.1 20) cs) D k r acc (t + 1 + 1))) := by
          intro z1 z2 z3
          refine ⟨(nI (t + 1), m'), z3, rfl, q2, q3, q4, ?_, ?_⟩
          · rw [foldN_s, z2, Nat.add_zero]; exact q5
          · rw [acc_skip f (b.1 20) n cs ev wh D k r (t + 1) acc z1]; exact q6
        cases em : mayG (b.1 20) cs k t
        · refine skip ?_ ?_ ?_
          · unfold thrB; rw [cm_A, em]; rfl
          · unfold thrN; rw [show cAl (baseC f (b.1 20) n cs (0, 0, 0)) k (t + 1) = mayG (b.1 20) cs k t from rfl, em]; rfl
          · unfold bX7_seatsFrom_34
            rw [if_neg (nI_c8 ht), gd_in (by omega) (by omega), nI_clamp (by omega), hhas, Option.bind_some, bi_n0, em, if_neg (by decide), lt_e, nI_p1]
        · have hlaw : lawG (b.1 20) cs t = true := by
            unfold mayG freG at em
            exact (Bool.and_eq_true_iff.mp (Bool.and_eq_true_iff.mp em).2).1
          have hfree := M_isFree (m := m') (f := f) (n := n) (cs := cs) (t := t) (w := (0, 0, 0)) (st := stF D k) (by rw [e20']; exact hS) hcs ht (by rw [e20']; exact hlaw) (by rw [e20']; exact q3) hi (by omega) (by rw [e20']; exact hh)
          rw [e20'] at hfree
          have ecA : cAl (cmR f (b.1 20) n cs ev wh) k (t + 1) = true := by rw [cm_A]; exact em
          have ecA0 : cAl (baseC f (b.1 20) n cs (0, 0, 0)) k (t + 1) = true := em
          cases eh : hold (baseC f (b.1 20) n cs (0, 0, 0)) (stA (stF D k) t)
          · refine skip ?_ ?_ ?_
            · unfold thrB thr0
              rw [ecA, if_pos rfl, if_neg (by omega), Nat.add_sub_cancel, cm_hold f (b.1 20) n cs ev wh (0, 0, 0), eh]; rfl
            · unfold thrN
              rw [ecA0, if_pos rfl, if_neg (by omega), Nat.add_sub_cancel, eh]; rfl
            · unfold bX7_seatsFrom_34
              rw [if_neg (nI_c8 ht), gd_in (by omega) (by omega), nI_clamp (by omega), hhas, Option.bind_some, bi_n0, em, if_pos rfl, hfree, Option.bind_some, bi_n0, eh, if_neg (by decide), lt_e, nI_p1]
          · obtain ⟨m2, d1, d2, d3, d4⟩ := M_sits (up2 m' 24 k (nI (t + 1))) (cs := cs) (t := t) (-1) hcs ht
            rw [up2_n (show 20 ≠ 24 by omega), e20'] at d4
            have stT : stF (updD D k (t + 1)) (k + 1) = stA (stF D k) t := by
              show stN (stF (updD D k (t + 1)) k) (updD D k (t + 1) k) = _
              rw [updD_s, stF_cg (D' := D) k (fun p hp => updD_n D (t + 1) hp)]
              unfold stN
              rw [if_neg (by omega), Nat.add_sub_cancel]
            have tryT : TryR b f n cs (updD D k (t + 1)) (k + 1) m2 := by
              refine ⟨⟨fun a z1 z2 z3 z4 => by rw [d2 a z3, up2_n z1]; exact p1 a z1 z2 z3 z4, fun j z1 z2 z3 z4 => by rw [d2 19 (by omega), up2_n (by omega)]; exact p2 j z1 z2 z3 z4, fun a ha => by rw [d3]; exact p3 a ha⟩, ?_, fun p hp => ?_⟩
              · rw [stT]
                exact Free_down (m := up2 m' 24 k (nI (t + 1))) ht hi (fun so hs w hw' ho => by rw [up2_n (by omega)]; exact q3 so hs w hw' ho) d4
              · rw [d2 24 (by omega), up2_s]
                by_cases z : p = k
                · subst z; rw [pk_us, updD_s]; exact ⟨rfl, by omega⟩
                · rw [pk_un z, updD_n D (t + 1) (by omega)]; exact q4 p (by omega)
            have accA : AccR m2 (b.1 20) f n cs ev wh (accT (cmR f (b.1 20) n cs ev wh) wh (hadG (b.1 20) cs) D k r acc (t + 1)) := AccR_cg q6 (by rw [d2 25 (by omega), up2_n (by omega)]) (fun j _ => by rw [d2 19 (by omega), up2_n (by omega)])
            obtain ⟨m3, w1, w2, w3, w4⟩ := dfs hB0 r (k + 1) fu (updD D k (t + 1)) m2 _ (by omega) (by omega) tryT (by rw [stT]; exact eh) (by rw [stT]; exact inS_A hi ht) (by rw [stT]; show (stF D k).1 + 1 ≤ k + 1; omega) accA
            rw [acc_step f (b.1 20) n cs ev wh D k r (t + 1) acc (fun _ => ⟨ecA, by rw [Nat.add_sub_cancel, cm_hold f (b.1 20) n cs ev wh (0, 0, 0)]; exact eh⟩)] at w4
            rw [stT] at w3
            obtain ⟨⟨v1, v2, v3⟩, vF, vD⟩ := w2
            have e203 : m3.1 20 = b.1 20 := v1 20 (by omega) (by omega) (by omega) (by omega)
            obtain ⟨m4, y1, y2, y3, y4⟩ := M_sits m3 (cs := cs) (t := t) 1 hcs ht
            rw [e203] at y4
            have eb : bX7_seatsFrom_34 (hX7_seatsFrom fu) m' (nI cs) (nI k) (nI t) = some (.inr (nI (t + 1), m4)) := by
              unfold bX7_seatsFrom_34
              rw [if_neg (nI_c8 ht), gd_in (by omega) (by omega), nI_clamp (by omega), hhas, Option.bind_some, bi_n0, em, if_pos rfl, hfree, Option.bind_some, bi_n0, eh, if_pos rfl, gd_in (by omega) (by omega), nI_p1, lt_e, show (-1 : Int32) = iI (-1) from rfl, d1, Option.bind_some, nI_p1, w1, Option.bind_some, show (1 : Int32) = iI 1 from rfl, y1, Option.bind_some, lt_e]
            refine ⟨_, eb, rfl, ⟨fun a z1 z2 z3 z4 => by show m4.1 a = _; rw [y2 a z3]; exact v1 a z1 z2 z3 z4, fun j z1 z2 z3 z4 => by show m4.1 19 j = _; rw [y2 19 (by omega)]; exact v2 j z1 z2 z3 z4, fun a ha => by show m4.2 a = _; rw [y3]; exact v3 a ha⟩, ?_, fun p hp => ?_, ?_, ?_⟩
            · rw [stT] at vF
              exact Free_up ht hi vF y4
            · show m4.1 24 p = _ ∧ _
              rw [y2 24 (by omega)]
              have := vD p (by omega)
              rw [updD_n D (t + 1) hp] at this
              exact this
            · show m4.2 19 11 = _
              have et : thrN (baseC f (b.1 20) n cs (0, 0, 0)) k (cnt (baseC f (b.1 20) n cs (0, 0, 0)) r) (stF D k) (t + 1) = cnt (baseC f (b.1 20) n cs (0, 0, 0)) r (stA (stF D k) t) := by
                unfold thrN
                rw [ecA0, if_pos rfl, if_neg (by omega), Nat.add_sub_cancel, eh, if_pos rfl]
              rw [y3, w3, d3, up2_2, q5, foldN_s _ _ _ _ (t + 1), et, ← lN_add, Int64.add_assoc]
            · exact AccR_cg w4 (by show m4.1 25 = _; rw [y2 25 (by omega)]) (fun j _ => by show m4.1 19 j = _; rw [y2 19 (by omega)])
      · rintro ⟨x, m'⟩ ⟨q1, q2, q3, q4, q5, q6⟩
        simp only at q1 q2 q3 q4 q5 q6
        subst q1
        refine ⟨m', ?_, q2, q3, q4, q5, q6⟩
        show bX7_seatsFrom_34 (hX7_seatsFrom fu) m' (nI cs) (nI k) (nI 8) = _
        unfold bX7_seatsFrom_34
        rw [if_pos (by decide)]
      · show m1.2 19 11 = _
        have et : foldN (baseC f (b.1 20) n cs (0, 0, 0)) k (cnt (baseC f (b.1 20) n cs (0, 0, 0)) r) (stF D k) (0 + 1) = cnt (baseC f (b.1 20) n cs (0, 0, 0)) r (stF D k) := by
          rw [foldN_s]
          show 0 + thrN _ _ _ _ 0 = _
          rw [Nat.zero_add]
          rfl
        rw [g3, et]; rfl
    obtain ⟨m2, k1, k2, k3, k4, k5, k6⟩ := key
    obtain ⟨p1, p2, p3⟩ := k2
    refine ⟨up2 m2 24 k 0, ?_, ⟨⟨fun a z1 z2 z3 z4 => by rw [up2_n z1]; exact p1 a z1 z2 z3 z4, fun j z1 z2 z3 z4 => by rw [up2_n (by omega)]; exact p2 j z1 z2 z3 z4, fun a ha => p3 a ha⟩, fun so hs w hw' ho => by rw [up2_n (by omega)]; exact k3 so hs w hw' ho, fun p hp => by rw [up2_s, pk_un (by omega)]; exact k4 p hp⟩, ?_, ?_⟩
    · show eX7_seatsFrom (hX7_seatsFrom fu) m (nI cs) (nI k) = _
      unfold eX7_seatsFrom
      simp only [cl96]
      rw [gd96, e20, hM.2.1, if_neg (by rw [nI_eq (by omega) (by omega)]; omega), gd_in (by omega) (by omega), nI_clamp (by omega), lt_e, nI_p1, g1, Option.bind_some, k1, Option.bind_some, gd_in (by omega) (by omega), lt_e]
    · show m2.2 19 11 = _
      rw [k5]
      show _ = m.2 19 11 + lN (foldN (baseC f (b.1 20) n cs (0, 0, 0)) (n - (r + 1)) (cnt (baseC f (b.1 20) n cs (0, 0, 0)) r) (stF D k) 9)
      rw [show n - (r + 1) = k by omega]
    · have e : best (cmR f (b.1 20) n cs ev wh) (r + 1) (stF D k) = foldB (cmR f (b.1 20) n cs ev wh) k (best (cmR f (b.1 20) n cs ev wh) r) (stF D k) 9 := by
        show foldB (cmR f (b.1 20) n cs ev wh) (cN (cmR f (b.1 20) n cs ev wh) - (r + 1)) (best (cmR f (b.1 20) n cs ev wh) r) (stF D k) 9 = _
        rw [cm_N, show n - (r + 1) = k by omega]
      rw [e]
      exact AccR_cg k6 (up2_n (by omega)) (fun j _ => by rw [up2_n (by omega)])
