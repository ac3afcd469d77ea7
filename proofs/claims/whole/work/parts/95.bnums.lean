/-! text: numbers and letters, the reference's -/
def dgB (x : Nat) : Bool := decide (48 ≤ x ∧ x ≤ 57)
theorem M_inb {x : Nat} (hx : x < 256) {lo hi : Int64} (l h : Nat) (hl : lo.toInt = (l : Int)) (hh : hi.toInt = (h : Int)) : fX7_in ((nI x).toInt64) lo hi = some (bi (decide (l ≤ x ∧ x ≤ h))) := by
  rw [mi_in (nI x) (l : Int) (h : Int) hl hh]
  unfold inR
  rw [nI_toInt (by omega)]
  congr 2
  exact decide_eq_decide.mpr (by omega)
theorem M_courseHere {L : Nat} {b : Nat → Nat} (hB : Bt L b) {s : Mem} (hT : TM L b s) {st en : Nat} (h2 : s.1 19 20 = nI st) (h3 : s.1 19 21 = nI en) (h4 : s.1 19 22 = -1) (hs : st ≤ en) (he : en ≤ L) : fX7_courseHere s = some (oI (one b st en 97 3)) := by
  have hL := hB.1
  unfold fX7_courseHere one
  rw [h4, if_neg (by decide), h2, h3, pk_sub hs]
  by_cases e1 : en = st + 1
  · have hb := hB.2 st (by omega)
    rw [if_pos (show nI (en - st) = (1 : Int32) from by rw [e1, Nat.add_sub_cancel_left]; rfl), gd_in (by omega) (by omega), nI_clamp (by omega), hT st (by omega), M_inb hb 97 100 (by decide) (by decide), Option.bind_some, gd_in (by omega) (by omega)]
    by_cases e2 : 97 ≤ b st ∧ b st ≤ 100
    · rw [decide_eq_true e2, if_neg (show ¬ bi true = (0 : Int32) from by decide), if_pos (show en = st + 1 ∧ 97 ≤ b st ∧ b st ≤ 97 + 3 from ⟨e1, e2⟩), show (97 : Int32) = nI 97 from rfl, pk_sub e2.1]; rfl
    · rw [decide_eq_false e2, if_pos (show bi false = (0 : Int32) from rfl), if_neg (show ¬ (en = st + 1 ∧ 97 ≤ b st ∧ b st ≤ 97 + 3) from fun z => e2 z.2)]; rfl
  · rw [if_neg (show ¬ nI (en - st) = (1 : Int32) from fun z => e1 (by have := (nI_eq (b := 1) (by omega) (by omega)).mp z; omega)), if_neg (show ¬ (en = st + 1 ∧ 97 ≤ b st ∧ b st ≤ 97 + 3) from fun z => e1 z.1)]; rfl
theorem M_nh1 {L : Nat} {b : Nat → Nat} (hB : Bt L b) {s : Mem} (hT : TM L b s) {en j v : Nat} (m x : Int32) (h3 : s.1 19 21 = nI en) (hj : j < en) (he : en ≤ L) : bX7_numberHere_39 s m x (nI v) (nI j) = if dgB (b j) then some (.inr (nI (10 * v + b j - 48), nI (j + 1))) else some (.inl (.inl (-1))) := by
  have hL := hB.1
  have hb := hB.2 j (by omega)
  unfold bX7_numberHere_39 dgB
  rw [h3, if_neg (by rw [nI_leI (by omega) (by omega)]; omega), gd_in (by omega) (by omega), nI_clamp (by omega), hT j (by omega), M_inb hb 48 57 (by decide) (by decide), Option.bind_some, gd_in (by omega) (by omega)]
  by_cases e2 : 48 ≤ b j ∧ b j ≤ 57
  · rw [decide_eq_true e2, if_neg (show ¬ bi true = (0 : Int32) from by decide), if_pos rfl, lt_e, lt_e, show (10 : Int32) = nI 10 from rfl, show (48 : Int32) = nI 48 from rfl, pk_mul, nI_add, pk_sub (by omega), nI_p1]
  · rw [decide_eq_false e2, if_pos (show bi false = (0 : Int32) from rfl), if_neg (by decide)]
theorem M_nh2 {s : Mem} {en : Nat} (m x v : Int32) (h3 : s.1 19 21 = nI en) (he : en ≤ 120) : bX7_numberHere_39 s m x v (nI en) = some (.inl (.inr v)) := by
  unfold bX7_numberHere_39
  rw [h3, if_pos (by rw [nI_leI (by omega) (by omega)]; omega)]
def nuB (m : Nat) (b : Nat → Nat) (st en : Nat) : Option Nat := if en = st + 1 then (if dgB (b st) then (if b st - 48 ≤ m then some (b st - 48) else none) else none) else if en = st + 2 then (if dgB (b st) then (if dgB (b (st + 1)) then (if 10 * (b st - 48) + b (st + 1) - 48 < 10 then none else if 10 * (b st - 48) + b (st + 1) - 48 ≤ m then some (10 * (b st - 48) + b (st + 1) - 48) else none) else none) else none) else none
theorem nu103 (s : Mem) {m v : Nat} (hm : m < 100) (hv : v < 1000) : gX7_numberHere_103 s (nI m) (nI v) = some (oI (if v ≤ m then some v else none)) := by
  unfold gX7_numberHere_103
  by_cases e : v ≤ m
  · rw [if_pos (by rw [nI_leI (by omega) (by omega)]; omega), if_pos e]; rfl
  · rw [if_neg (by rw [nI_leI (by omega) (by omega)]; omega), if_neg e]; rfl
theorem M_numberHere {L : Nat} {b : Nat → Nat} (hB : Bt L b) {s : Mem} (hT : TM L b s) {st en m : Nat} (hm : m < 100) (h2 : s.1 19 20 = nI st) (h3 : s.1 19 21 = nI en) (h4 : s.1 19 22 = -1) (hs : st ≤ en) (he : en ≤ L) : fX7_numberHere s (nI m) = some (oI (nuB m b st en)) := by
  have hL := hB.1
  obtain ⟨f, hf⟩ := f600
  unfold fX7_numberHere nuB
  rw [lt_e, h4, if_neg (by decide), h2, h3, pk_sub hs, M_inb (x := en - st) (by omega) 1 2 (by decide) (by decide), Option.bind_some]
  by_cases e1 : en = st + 1
  · rw [decide_eq_true (show 1 ≤ en - st ∧ en - st ≤ 2 from by omega), if_neg (show ¬ bi true = (0 : Int32) from by decide), lt_e, if_pos e1, hf]
    have n2 : ¬ nI (en - st) = (2 : Int32) := fun z => by have := (nI_eq (b := 2) (by omega) (by omega)).mp z; omega
    have a1 := M_nh1 hB hT (nI m) (nI (en - st)) (v := 0) (j := st) h3 (by omega) he
    have hb := hB.2 st (by omega)
    by_cases d1 : dgB (b st) = true
    · rw [if_pos d1] at a1
      rw [lp_r (α := Int32 × Int32) (body := fun a => bX7_numberHere_39 s (nI m) (nI (en - st)) a.1 a.2) (a := ((0 : Int32), nI st)) a1, lp_l (α := Int32 × Int32) (body := fun a => bX7_numberHere_39 s (nI m) (nI (en - st)) a.1 a.2) (a := (nI (10 * 0 + b st - 48), nI (st + 1))) (by rw [← e1]; exact M_nh2 _ _ _ h3 (by omega)), Option.bind_some, if_pos d1]
      show (if nI (en - st) = (2 : Int32) then (if nI (10 * 0 + b st - 48) < (10 : Int32) then some (-1 : Int32) else gX7_numberHere_103 s (nI m) (nI (10 * 0 + b st - 48))) else gX7_numberHere_103 s (nI m) (nI (10 * 0 + b st - 48))) = _
      rw [if_neg n2, nu103 s hm (by omega), show 10 * 0 + b st - 48 = b st - 48 from by omega]
    · rw [if_neg d1] at a1
      rw [lp_l (α := Int32 × Int32) (body := fun a => bX7_numberHere_39 s (nI m) (nI (en - st)) a.1 a.2) (a := ((0 : Int32), nI st)) a1, if_neg d1]; rfl
  · by_cases e2 : en = st + 2
    · rw [decide_eq_true (show 1 ≤ en - st ∧ en - st ≤ 2 from by omega), if_neg (show ¬ bi true = (0 : Int32) from by decide), lt_e, if_neg e1, if_pos e2, hf]
      have n2 : nI (en - st) = (2 : Int32) := by rw [e2, Nat.add_sub_cancel_left]; rfl
      have a1 := M_nh1 hB hT (nI m) (nI (en - st)) (v := 0) (j := st) h3 (by omega) he
      have a2 := M_nh1 hB hT (nI m) (nI (en - st)) (v := 10 * 0 + b st - 48) (j := st + 1) h3 (by omega) he
      have hb := hB.2 st (by omega)
      have hb1 := hB.2 (st + 1) (by omega)
      by_cases d1 : dgB (b st) = true
      · rw [if_pos d1] at a1
        rw [lp_r (α := Int32 × Int32) (body := fun a => bX7_numberHere_39 s (nI m) (nI (en - st)) a.1 a.2) (a := ((0 : Int32), nI st)) a1, if_pos d1]
        by_cases d2 : dgB (b (st + 1)) = true
        · rw [if_pos d2] at a2
          have ev : 10 * (10 * 0 + b st - 48) + b (st + 1) - 48 = 10 * (b st - 48) + b (st + 1) - 48 := by omega
          rw [lp_r (α := Int32 × Int32) (body := fun a => bX7_numberHere_39 s (nI m) (nI (en - st)) a.1 a.2) (a := (nI (10 * 0 + b st - 48), nI (st + 1))) a2, lp_l (α := Int32 × Int32) (body := fun a => bX7_numberHere_39 s (nI m) (nI (en - st)) a.1 a.2) (a := (nI (10 * (10 * 0 + b st - 48) + b (st + 1) - 48), nI (st + 1 + 1))) (by rw [show st + 1 + 1 = en from e2.symm]; exact M_nh2 _ _ _ h3 (by omega)), Option.bind_some, if_pos d2, ev]
          show (if nI (en - st) = (2 : Int32) then (if nI (10 * (b st - 48) + b (st + 1) - 48) < (10 : Int32) then some (-1 : Int32) else gX7_numberHere_103 s (nI m) (nI (10 * (b st - 48) + b (st + 1) - 48))) else gX7_numberHere_103 s (nI m) (nI (10 * (b st - 48) + b (st + 1) - 48))) = _
          rw [if_pos n2, nu103 s hm (by have := of_decide_eq_true d1; have := of_decide_eq_true d2; omega)]
          have hlt : nI (10 * (b st - 48) + b (st + 1) - 48) < (10 : Int32) ↔ 10 * (b st - 48) + b (st + 1) - 48 < 10 := nI_ltI (b := 10) (by omega) (by omega)
          by_cases e5 : 10 * (b st - 48) + b (st + 1) - 48 < 10
          · rw [if_pos (hlt.mpr e5), if_pos e5]; rfl
          · rw [if_neg (fun z => e5 (hlt.mp z)), if_neg e5]
        · rw [if_neg d2] at a2
          rw [lp_l (α := Int32 × Int32) (body := fun a => bX7_numberHere_39 s (nI m) (nI (en - st)) a.1 a.2) (a := (nI (10 * 0 + b st - 48), nI (st + 1))) a2, if_neg d2]; rfl
      · rw [if_neg d1] at a1
        rw [lp_l (α := Int32 × Int32) (body := fun a => bX7_numberHere_39 s (nI m) (nI (en - st)) a.1 a.2) (a := ((0 : Int32), nI st)) a1, if_neg d1]; rfl
    · rw [decide_eq_false (show ¬ (1 ≤ en - st ∧ en - st ≤ 2) from by omega), if_pos (show bi false = (0 : Int32) from rfl), if_neg e1, if_neg e2]; rfl
theorem nu_one {b : Nat → Nat} {st en m : Nat} (hm : m ≤ 9) : nuB m b st en = one b st en 48 m := by
  unfold nuB one dgB
  simp only [decide_eq_true_eq]
  repeat' split
  all_goals first | rfl | (exfalso; omega) | (congr 1; omega)
theorem nu_hou {b : Nat → Nat} {st en : Nat} : nuB 19 b st en = hou b st en := by
  unfold nuB hou one dgB
  simp only [decide_eq_true_eq]
  repeat' split
  all_goals first | rfl | (exfalso; omega) | (congr 1; omega)
