theorem dX5_length_0 : decode cX5_length 0 = .ok (.aload_n 0, 1) := by decide +kernel
theorem dX5_length_1 : decode cX5_length 1 = .ok (.getfield 15, 3) := by decide +kernel
theorem dX5_length_4 : decode cX5_length 4 = .ok (.ireturn, 1) := by decide +kernel
def fX5_length (s : Mem)  : Option Int32 :=
  some ((s.1 12 1))
set_option maxRecDepth 4000 in
theorem jjX5_length {X : Scr} (d : Nat) (s : Mem)  {r : Int32} {w : Option Value} {s' : Mem} (hh : fX5_length s = some r) (hk : w = some (.int r) ∧ s = s') : J X MX5_length (d + 0) 0 [some (.ref 12)] [] s w s' := by
  unfold fX5_length at hh
  refine J_aload_n (pc := 0) dX5_length_0 rfl ?_
  refine J_getI (pc := 1) (k := 1) flX5_15 so12 fk12_1 dX5_length_1 ?_
  obtain rfl := Option.some.inj hh
  obtain ⟨rfl, rfl⟩ := hk
  exact J_ret (w := some (.int (s.1 12 1))) ⟨dX5_length_4, _, rfl, rfl⟩
theorem jX5_length {X : Scr} (d : Nat) (s : Mem)  {r : Int32} (hh : fX5_length s = some r) : J X MX5_length (d + 0) 0 [some (.ref 12)] [] s (some (.int r)) s := jjX5_length d s hh ⟨rfl, rfl⟩
theorem dX5_hasRoom_0 : decode cX5_hasRoom 0 = .ok (.aload_n 0, 1) := by decide +kernel
theorem dX5_hasRoom_1 : decode cX5_hasRoom 1 = .ok (.getfield 15, 3) := by decide +kernel
theorem dX5_hasRoom_4 : decode cX5_hasRoom 4 = .ok (.iload_n 1, 1) := by decide +kernel
theorem dX5_hasRoom_5 : decode cX5_hasRoom 5 = .ok (.iadd, 1) := by decide +kernel
theorem dX5_hasRoom_6 : decode cX5_hasRoom 6 = .ok (.bipush 120, 2) := by decide +kernel
theorem dX5_hasRoom_8 : decode cX5_hasRoom 8 = .ok (.if_icmp .gt 7, 3) := by decide +kernel
theorem dX5_hasRoom_11 : decode cX5_hasRoom 11 = .ok (.iconst 1, 1) := by decide +kernel
theorem dX5_hasRoom_12 : decode cX5_hasRoom 12 = .ok (.goto 4, 3) := by decide +kernel
theorem dX5_hasRoom_15 : decode cX5_hasRoom 15 = .ok (.iconst 0, 1) := by decide +kernel
theorem dX5_hasRoom_16 : decode cX5_hasRoom 16 = .ok (.ireturn, 1) := by decide +kernel
def fX5_hasRoom (s : Mem) (p0 : Int32) : Option Int32 :=
  if (120 : Int32) < ((s.1 12 1) + p0) then some (0 : Int32) else some (1 : Int32)
set_option maxRecDepth 4000 in
theorem jjX5_hasRoom {X : Scr} (d : Nat) (s : Mem) (p0 : Int32) {r : Int32} {w : Option Value} {s' : Mem} (hh : fX5_hasRoom s p0 = some r) (hk : w = some (.int r) ∧ s = s') : J X MX5_hasRoom (d + 0) 0 [some (.ref 12), some (.int p0)] [] s w s' := by
  unfold fX5_hasRoom at hh
  refine J_aload_n (pc := 0) dX5_hasRoom_0 rfl ?_
  refine J_getI (pc := 1) (k := 1) flX5_15 so12 fk12_1 dX5_hasRoom_1 ?_
  refine J_iload_n (pc := 4) dX5_hasRoom_4 rfl ?_
  refine J_iadd (pc := 5) dX5_hasRoom_5 ?_
  refine J_bipush (pc := 6) dX5_hasRoom_6 cb_120 ?_
  refine J_icmp_gt (pc := 8) 15 dX5_hasRoom_8 (by decide) (fun c1 => ?_) (fun c1 => ?_)
  · replace hh := (if_pos c1).symm.trans hh
    refine J_iconst (pc := 15) dX5_hasRoom_15 ci_0 ?_
    obtain rfl := Option.some.inj hh
    obtain ⟨rfl, rfl⟩ := hk
    exact J_ret (w := some (.int (0 : Int32))) ⟨dX5_hasRoom_16, _, rfl, rfl⟩
  · replace hh := (if_neg c1).symm.trans hh
    refine J_iconst (pc := 11) dX5_hasRoom_11 ci_1 ?_
    refine J_goto (pc := 12) 16 dX5_hasRoom_12 (by decide) ?_
    obtain rfl := Option.some.inj hh
    obtain ⟨rfl, rfl⟩ := hk
    exact J_ret (w := some (.int (1 : Int32))) ⟨dX5_hasRoom_16, _, rfl, rfl⟩
theorem jX5_hasRoom {X : Scr} (d : Nat) (s : Mem) (p0 : Int32) {r : Int32} (hh : fX5_hasRoom s p0 = some r) : J X MX5_hasRoom (d + 0) 0 [some (.ref 12), some (.int p0)] [] s (some (.int r)) s := jjX5_hasRoom d s p0 hh ⟨rfl, rfl⟩
theorem dX5_gets_0 : decode cX5_gets 0 = .ok (.iload_n 2, 1) := by decide +kernel
theorem dX5_gets_1 : decode cX5_gets 1 = .ok (.iconst 1, 1) := by decide +kernel
theorem dX5_gets_2 : decode cX5_gets 2 = .ok (.isub, 1) := by decide +kernel
theorem dX5_gets_3 : decode cX5_gets 3 = .ok (.istore_n 3, 1) := by decide +kernel
theorem dX5_gets_4 : decode cX5_gets 4 = .ok (.iload_n 3, 1) := by decide +kernel
theorem dX5_gets_5 : decode cX5_gets 5 = .ok (.ifCond .lt 44, 3) := by decide +kernel
theorem dX5_gets_8 : decode cX5_gets 8 = .ok (.aload_n 0, 1) := by decide +kernel
theorem dX5_gets_9 : decode cX5_gets 9 = .ok (.getfield 15, 3) := by decide +kernel
theorem dX5_gets_12 : decode cX5_gets 12 = .ok (.bipush 120, 2) := by decide +kernel
theorem dX5_gets_14 : decode cX5_gets 14 = .ok (.if_icmp .ge 35, 3) := by decide +kernel
theorem dX5_gets_17 : decode cX5_gets 17 = .ok (.aload_n 0, 1) := by decide +kernel
theorem dX5_gets_18 : decode cX5_gets 18 = .ok (.getfield 11, 3) := by decide +kernel
theorem dX5_gets_21 : decode cX5_gets 21 = .ok (.aload_n 0, 1) := by decide +kernel
theorem dX5_gets_22 : decode cX5_gets 22 = .ok (.getfield 15, 3) := by decide +kernel
theorem dX5_gets_25 : decode cX5_gets 25 = .ok (.iload_n 1, 1) := by decide +kernel
theorem dX5_gets_26 : decode cX5_gets 26 = .ok (.bipush 8, 2) := by decide +kernel
theorem dX5_gets_28 : decode cX5_gets 28 = .ok (.iload_n 3, 1) := by decide +kernel
theorem dX5_gets_29 : decode cX5_gets 29 = .ok (.imul, 1) := by decide +kernel
theorem dX5_gets_30 : decode cX5_gets 30 = .ok (.ishr, 1) := by decide +kernel
theorem dX5_gets_31 : decode cX5_gets 31 = .ok (.i2b, 1) := by decide +kernel
theorem dX5_gets_32 : decode cX5_gets 32 = .ok (.bastore, 1) := by decide +kernel
theorem dX5_gets_33 : decode cX5_gets 33 = .ok (.aload_n 0, 1) := by decide +kernel
theorem dX5_gets_34 : decode cX5_gets 34 = .ok (.dup, 1) := by decide +kernel
theorem dX5_gets_35 : decode cX5_gets 35 = .ok (.getfield 15, 3) := by decide +kernel
theorem dX5_gets_38 : decode cX5_gets 38 = .ok (.iconst 1, 1) := by decide +kernel
theorem dX5_gets_39 : decode cX5_gets 39 = .ok (.iadd, 1) := by decide +kernel
theorem dX5_gets_40 : decode cX5_gets 40 = .ok (.putfield 15, 3) := by decide +kernel
theorem dX5_gets_43 : decode cX5_gets 43 = .ok (.iinc 3 (-1), 3) := by decide +kernel
theorem dX5_gets_46 : decode cX5_gets 46 = .ok (.goto (-42), 3) := by decide +kernel
theorem dX5_gets_49 : decode cX5_gets 49 = .ok (.aload_n 0, 1) := by decide +kernel
theorem dX5_gets_50 : decode cX5_gets 50 = .ok (.getfield 15, 3) := by decide +kernel
theorem dX5_gets_53 : decode cX5_gets 53 = .ok (.ireturn, 1) := by decide +kernel
def bX5_gets_4 (s : Mem) (v1 : Int32) (v3 : Int32) : Option (Mem ⊕ (Int32 × Mem)) :=
  if v3 < (0 : Int32) then some (Sum.inl s) else if (120 : Int32) ≤ (s.1 12 1) then some (Sum.inl s) else gd (s.1 12 1) 120 (lt (up2 s 13 (s.1 12 1).toNatClampNeg (vp_nar .byte ((v1 >>> (((8 : Int32) * v3) &&& 31)).toInt8.toInt32))) (fun s3 => lt (up2 s3 12 1 ((s3.1 12 1) + (1 : Int32))) (fun s4 => lt (v3 + (-1 : Int32)) (fun x5 => some (Sum.inr (x5, s4))))))
set_option maxRecDepth 4000 in
theorem jbX5_gets_4 {X : Scr} (d : Nat) (s : Mem) (v1 : Int32) (v3 : Int32) {r : (Mem ⊕ (Int32 × Mem))} {w : Option Value} {s' : Mem} (hh : bX5_gets_4 s v1 v3 = some r) (hk : Sum.elim (fun t : Mem => J X MX5_gets (d + 0) 49 [some (.ref 12), none, none, none] [] t w s') (fun a : (Int32 × Mem) => J X MX5_gets (d + 0) 4 [some (.ref 12), some (.int v1), none, some (.int a.1)] [] a.2 w s') r) : J X MX5_gets (d + 0) 4 [some (.ref 12), some (.int v1), none, some (.int v3)] [] s w s' := by
  unfold bX5_gets_4 at hh
  refine J_iload_n (pc := 4) dX5_gets_4 rfl ?_
  refine J_if_lt (pc := 5) 49 dX5_gets_5 (by decide) (fun c7 => ?_) (fun c7 => ?_)
  · replace hh := (if_pos c7).symm.trans hh
    refine J_drop 1 (L' := [some (.ref 12), none, none, some (.int v3)]) rfl ?_
    refine J_drop 3 (L' := [some (.ref 12), none, none, none]) rfl ?_
    obtain rfl := Option.some.inj hh
    exact hk
  · replace hh := (if_neg c7).symm.trans hh
    refine J_aload_n (pc := 8) dX5_gets_8 rfl ?_
    refine J_getI (pc := 9) (k := 1) flX5_15 so12 fk12_1 dX5_gets_9 ?_
    refine J_bipush (pc := 12) dX5_gets_12 cb_120 ?_
    refine J_icmp_ge (pc := 14) 49 dX5_gets_14 (by decide) (fun c6 => ?_) (fun c6 => ?_)
    · replace hh := (if_pos c6).symm.trans hh
      refine J_drop 1 (L' := [some (.ref 12), none, none, some (.int v3)]) rfl ?_
      refine J_drop 3 (L' := [some (.ref 12), none, none, none]) rfl ?_
      obtain rfl := Option.some.inj hh
      exact hk
    · replace hh := (if_neg c6).symm.trans hh
      refine J_aload_n (pc := 17) dX5_gets_17 rfl ?_
      refine J_getR (pc := 18) (k := 0) flX5_11 so12 fk12_0 dX5_gets_18 ?_
      refine J_aload_n (pc := 21) dX5_gets_21 rfl ?_
      refine J_getI (pc := 22) (k := 1) flX5_15 so12 fk12_1 dX5_gets_22 ?_
      refine J_iload_n (pc := 25) dX5_gets_25 rfl ?_
      refine J_bipush (pc := 26) dX5_gets_26 cb_8 ?_
      refine J_iload_n (pc := 28) dX5_gets_28 rfl ?_
      refine J_imul (pc := 29) dX5_gets_29 ?_
      refine J_ishr (pc := 30) dX5_gets_30 ?_
      refine J_i2b (pc := 31) dX5_gets_31 ?_
      obtain ⟨h2, hh⟩ := gd_some hh
      refine J_bastL (pc := 32) dX5_gets_32 sa13 h2 hh (fun s3 hh => ?_)
      refine J_aload_n (pc := 33) dX5_gets_33 rfl ?_
      refine J_dup (pc := 34) dX5_gets_34 rfl ?_
      refine J_getI (pc := 35) (k := 1) flX5_15 so12 fk12_1 dX5_gets_35 ?_
      refine J_iconst (pc := 38) dX5_gets_38 ci_1 ?_
      refine J_iadd (pc := 39) dX5_gets_39 ?_
      refine J_putIL (pc := 40) (k := 1) fpX5_15 so12 fk12_1 rfl rfl dX5_gets_40 hh (fun s4 hh => ?_)
      refine J_iincL (pc := 43) (v := v3 + (-1 : Int32)) (fun x5 => [some (.ref 12), some (.int v1), none, some (.int x5)]) dX5_gets_43 rfl rfl (Nat.le_of_ble_eq_true rfl) (congrArg _ ci_m1) (fun _ => rfl) hh (fun x5 hh => ?_)
      refine J_goto (pc := 46) 4 dX5_gets_46 (by decide) ?_
      obtain rfl := Option.some.inj hh
      exact hk
def fX5_gets (s : Mem) (p0 : Int32) (p1 : Int32) : Option (Int32 × Mem) :=
  lt (p1 - (1 : Int32)) (fun x1 => (lp (fun a => bX5_gets_4 a.2 p0 a.1) 600 (x1, s)).bind (fun y8 => some ((y8.1 12 1, y8))))
set_option maxRecDepth 4000 in
theorem jjX5_gets {X : Scr} (d : Nat) (s : Mem) (p0 : Int32) (p1 : Int32) {r : (Int32 × Mem)} {w : Option Value} {s' : Mem} (hh : fX5_gets s p0 p1 = some r) (hk : w = some (.int r.1) ∧ r.2 = s') : J X MX5_gets (d + 0) 0 [some (.ref 12), some (.int p0), some (.int p1), none] [] s w s' := by
  unfold fX5_gets at hh
  refine J_iload_n (pc := 0) dX5_gets_0 rfl ?_
  refine J_iconst (pc := 1) dX5_gets_1 ci_1 ?_
  refine J_isub (pc := 2) dX5_gets_2 ?_
  refine J_istoreL_n (pc := 3) (fun x1 => [some (.ref 12), some (.int p0), some (.int p1), some (.int x1)]) dX5_gets_3 rfl (Nat.le_of_ble_eq_true rfl) (fun _ => rfl) hh (fun x1 hh => ?_)
  refine J_drop 2 (L' := [some (.ref 12), some (.int p0), none, some (.int x1)]) rfl ?_
  obtain ⟨y8, hy8, hh⟩ := bd_some hh
  refine J_lp (a := (x1, s)) (fun a : (Int32 × Mem) => J X MX5_gets (d + 0) 4 [some (.ref 12), some (.int p0), none, some (.int a.1)] [] a.2 w s') (fun t : Mem => J X MX5_gets (d + 0) 49 [some (.ref 12), none, none, none] [] t w s') (fun a q h1 h2 => jbX5_gets_4 d a.2 p0 a.1 h1 h2) hy8 ?_
  refine J_aload_n (pc := 49) dX5_gets_49 rfl ?_
  refine J_getI (pc := 50) (k := 1) flX5_15 so12 fk12_1 dX5_gets_50 ?_
  obtain rfl := Option.some.inj hh
  obtain ⟨rfl, rfl⟩ := hk
  exact J_ret (w := some (.int (y8.1 12 1))) ⟨dX5_gets_53, _, rfl, rfl⟩
theorem jX5_gets {X : Scr} (d : Nat) (s : Mem) (p0 : Int32) (p1 : Int32) {r : (Int32 × Mem)} (hh : fX5_gets s p0 p1 = some r) : J X MX5_gets (d + 0) 0 [some (.ref 12), some (.int p0), some (.int p1), none] [] s (some (.int r.1)) r.2 := jjX5_gets d s p0 p1 hh ⟨rfl, rfl⟩
theorem dX5_empties_0 : decode cX5_empties 0 = .ok (.aload_n 0, 1) := by decide +kernel
theorem dX5_empties_1 : decode cX5_empties 1 = .ok (.getfield 15, 3) := by decide +kernel
theorem dX5_empties_4 : decode cX5_empties 4 = .ok (.istore_n 1, 1) := by decide +kernel
theorem dX5_empties_5 : decode cX5_empties 5 = .ok (.aload_n 0, 1) := by decide +kernel
theorem dX5_empties_6 : decode cX5_empties 6 = .ok (.iconst 0, 1) := by decide +kernel
theorem dX5_empties_7 : decode cX5_empties 7 = .ok (.putfield 15, 3) := by decide +kernel
theorem dX5_empties_10 : decode cX5_empties 10 = .ok (.iload_n 1, 1) := by decide +kernel
theorem dX5_empties_11 : decode cX5_empties 11 = .ok (.ireturn, 1) := by decide +kernel
def fX5_empties (s : Mem)  : Option (Int32 × Mem) :=
  lt (s.1 12 1) (fun x1 => lt (up2 s 12 1 (0 : Int32)) (fun s2 => some ((x1, s2))))
set_option maxRecDepth 4000 in
theorem jjX5_empties {X : Scr} (d : Nat) (s : Mem)  {r : (Int32 × Mem)} {w : Option Value} {s' : Mem} (hh : fX5_empties s = some r) (hk : w = some (.int r.1) ∧ r.2 = s') : J X MX5_empties (d + 0) 0 [some (.ref 12), none] [] s w s' := by
  unfold fX5_empties at hh
  refine J_aload_n (pc := 0) dX5_empties_0 rfl ?_
  refine J_getI (pc := 1) (k := 1) flX5_15 so12 fk12_1 dX5_empties_1 ?_
  refine J_istoreL_n (pc := 4) (fun x1 => [some (.ref 12), some (.int x1)]) dX5_empties_4 rfl (Nat.le_of_ble_eq_true rfl) (fun _ => rfl) hh (fun x1 hh => ?_)
  refine J_aload_n (pc := 5) dX5_empties_5 rfl ?_
  refine J_iconst (pc := 6) dX5_empties_6 ci_0 ?_
  refine J_putIL (pc := 7) (k := 1) fpX5_15 so12 fk12_1 rfl rfl dX5_empties_7 hh (fun s2 hh => ?_)
  refine J_iload_n (pc := 10) dX5_empties_10 rfl ?_
  obtain rfl := Option.some.inj hh
  obtain ⟨rfl, rfl⟩ := hk
  exact J_ret (w := some (.int x1)) ⟨dX5_empties_11, _, rfl, rfl⟩
theorem jX5_empties {X : Scr} (d : Nat) (s : Mem)  {r : (Int32 × Mem)} (hh : fX5_empties s = some r) : J X MX5_empties (d + 0) 0 [some (.ref 12), none] [] s (some (.int r.1)) r.2 := jjX5_empties d s hh ⟨rfl, rfl⟩
theorem dX5_nextWord_0 : decode cX5_nextWord 0 = .ok (.aload_n 0, 1) := by decide +kernel
theorem dX5_nextWord_1 : decode cX5_nextWord 1 = .ok (.aload_n 0, 1) := by decide +kernel
theorem dX5_nextWord_2 : decode cX5_nextWord 2 = .ok (.getfield 19, 3) := by decide +kernel
theorem dX5_nextWord_5 : decode cX5_nextWord 5 = .ok (.putfield 25, 3) := by decide +kernel
theorem dX5_nextWord_8 : decode cX5_nextWord 8 = .ok (.aload_n 0, 1) := by decide +kernel
theorem dX5_nextWord_9 : decode cX5_nextWord 9 = .ok (.getfield 25, 3) := by decide +kernel
theorem dX5_nextWord_12 : decode cX5_nextWord 12 = .ok (.aload_n 0, 1) := by decide +kernel
theorem dX5_nextWord_13 : decode cX5_nextWord 13 = .ok (.getfield 15, 3) := by decide +kernel
theorem dX5_nextWord_16 : decode cX5_nextWord 16 = .ok (.if_icmp .ge 30, 3) := by decide +kernel
theorem dX5_nextWord_19 : decode cX5_nextWord 19 = .ok (.aload_n 0, 1) := by decide +kernel
theorem dX5_nextWord_20 : decode cX5_nextWord 20 = .ok (.getfield 11, 3) := by decide +kernel
theorem dX5_nextWord_23 : decode cX5_nextWord 23 = .ok (.aload_n 0, 1) := by decide +kernel
theorem dX5_nextWord_24 : decode cX5_nextWord 24 = .ok (.getfield 25, 3) := by decide +kernel
theorem dX5_nextWord_27 : decode cX5_nextWord 27 = .ok (.baload, 1) := by decide +kernel
theorem dX5_nextWord_28 : decode cX5_nextWord 28 = .ok (.bipush 32, 2) := by decide +kernel
theorem dX5_nextWord_30 : decode cX5_nextWord 30 = .ok (.if_icmp .ne 16, 3) := by decide +kernel
theorem dX5_nextWord_33 : decode cX5_nextWord 33 = .ok (.aload_n 0, 1) := by decide +kernel
theorem dX5_nextWord_34 : decode cX5_nextWord 34 = .ok (.dup, 1) := by decide +kernel
theorem dX5_nextWord_35 : decode cX5_nextWord 35 = .ok (.getfield 25, 3) := by decide +kernel
theorem dX5_nextWord_38 : decode cX5_nextWord 38 = .ok (.iconst 1, 1) := by decide +kernel
theorem dX5_nextWord_39 : decode cX5_nextWord 39 = .ok (.iadd, 1) := by decide +kernel
theorem dX5_nextWord_40 : decode cX5_nextWord 40 = .ok (.putfield 25, 3) := by decide +kernel
theorem dX5_nextWord_43 : decode cX5_nextWord 43 = .ok (.goto (-35), 3) := by decide +kernel
theorem dX5_nextWord_46 : decode cX5_nextWord 46 = .ok (.aload_n 0, 1) := by decide +kernel
theorem dX5_nextWord_47 : decode cX5_nextWord 47 = .ok (.aload_n 0, 1) := by decide +kernel
theorem dX5_nextWord_48 : decode cX5_nextWord 48 = .ok (.getfield 25, 3) := by decide +kernel
theorem dX5_nextWord_51 : decode cX5_nextWord 51 = .ok (.putfield 19, 3) := by decide +kernel
theorem dX5_nextWord_54 : decode cX5_nextWord 54 = .ok (.aload_n 0, 1) := by decide +kernel
theorem dX5_nextWord_55 : decode cX5_nextWord 55 = .ok (.getfield 19, 3) := by decide +kernel
theorem dX5_nextWord_58 : decode cX5_nextWord 58 = .ok (.aload_n 0, 1) := by decide +kernel
theorem dX5_nextWord_59 : decode cX5_nextWord 59 = .ok (.getfield 15, 3) := by decide +kernel
theorem dX5_nextWord_62 : decode cX5_nextWord 62 = .ok (.if_icmp .ge 30, 3) := by decide +kernel
theorem dX5_nextWord_65 : decode cX5_nextWord 65 = .ok (.aload_n 0, 1) := by decide +kernel
theorem dX5_nextWord_66 : decode cX5_nextWord 66 = .ok (.getfield 11, 3) := by decide +kernel
theorem dX5_nextWord_69 : decode cX5_nextWord 69 = .ok (.aload_n 0, 1) := by decide +kernel
theorem dX5_nextWord_70 : decode cX5_nextWord 70 = .ok (.getfield 19, 3) := by decide +kernel
theorem dX5_nextWord_73 : decode cX5_nextWord 73 = .ok (.baload, 1) := by decide +kernel
theorem dX5_nextWord_74 : decode cX5_nextWord 74 = .ok (.bipush 32, 2) := by decide +kernel
theorem dX5_nextWord_76 : decode cX5_nextWord 76 = .ok (.if_icmp .eq 16, 3) := by decide +kernel
theorem dX5_nextWord_79 : decode cX5_nextWord 79 = .ok (.aload_n 0, 1) := by decide +kernel
theorem dX5_nextWord_80 : decode cX5_nextWord 80 = .ok (.dup, 1) := by decide +kernel
theorem dX5_nextWord_81 : decode cX5_nextWord 81 = .ok (.getfield 19, 3) := by decide +kernel
theorem dX5_nextWord_84 : decode cX5_nextWord 84 = .ok (.iconst 1, 1) := by decide +kernel
theorem dX5_nextWord_85 : decode cX5_nextWord 85 = .ok (.iadd, 1) := by decide +kernel
theorem dX5_nextWord_86 : decode cX5_nextWord 86 = .ok (.putfield 19, 3) := by decide +kernel
theorem dX5_nextWord_89 : decode cX5_nextWord 89 = .ok (.goto (-35), 3) := by decide +kernel
theorem dX5_nextWord_92 : decode cX5_nextWord 92 = .ok (.return_, 1) := by decide +kernel
def bX5_nextWord_8 (s : Mem)  : Option (Mem ⊕ Mem) :=
  if (s.1 12 1) ≤ (s.1 12 2) then some (Sum.inl s) else gd (s.1 12 2) 120 (if (s.1 13 (s.1 12 2).toNatClampNeg) = (32 : Int32) then lt (up2 s 12 2 ((s.1 12 2) + (1 : Int32))) (fun s3 => some (Sum.inr s3)) else some (Sum.inl s))
set_option maxRecDepth 4000 in
theorem jbX5_nextWord_8 {X : Scr} (d : Nat) (s : Mem)  {r : (Mem ⊕ Mem)} {w : Option Value} {s' : Mem} (hh : bX5_nextWord_8 s = some r) (hk : Sum.elim (fun t : Mem => J X MX5_nextWord (d + 0) 46 [some (.ref 12)] [] t w s') (fun a : Mem => J X MX5_nextWord (d + 0) 8 [some (.ref 12)] [] a w s') r) : J X MX5_nextWord (d + 0) 8 [some (.ref 12)] [] s w s' := by
  unfold bX5_nextWord_8 at hh
  refine J_aload_n (pc := 8) dX5_nextWord_8 rfl ?_
  refine J_getI (pc := 9) (k := 2) flX5_25 so12 fk12_2 dX5_nextWord_9 ?_
  refine J_aload_n (pc := 12) dX5_nextWord_12 rfl ?_
  refine J_getI (pc := 13) (k := 1) flX5_15 so12 fk12_1 dX5_nextWord_13 ?_
  refine J_icmp_ge (pc := 16) 46 dX5_nextWord_16 (by decide) (fun c5 => ?_) (fun c5 => ?_)
  · replace hh := (if_pos c5).symm.trans hh
    obtain rfl := Option.some.inj hh
    exact hk
  · replace hh := (if_neg c5).symm.trans hh
    refine J_aload_n (pc := 19) dX5_nextWord_19 rfl ?_
    refine J_getR (pc := 20) (k := 0) flX5_11 so12 fk12_0 dX5_nextWord_20 ?_
    refine J_aload_n (pc := 23) dX5_nextWord_23 rfl ?_
    refine J_getI (pc := 24) (k := 2) flX5_25 so12 fk12_2 dX5_nextWord_24 ?_
    obtain ⟨h2, hh⟩ := gd_some hh
    refine J_bald (pc := 27) dX5_nextWord_27 sa13 h2 ?_
    refine J_bipush (pc := 28) dX5_nextWord_28 cb_32 ?_
    refine J_icmp_ne (pc := 30) 46 dX5_nextWord_30 (by decide) (fun c4 => ?_) (fun c4 => ?_)
    · replace hh := (if_neg c4).symm.trans hh
      obtain rfl := Option.some.inj hh
      exact hk
    · replace hh := (if_pos c4).symm.trans hh
      refine J_aload_n (pc := 33) dX5_nextWord_33 rfl ?_
      refine J_dup (pc := 34) dX5_nextWord_34 rfl ?_
      refine J_getI (pc := 35) (k := 2) flX5_25 so12 fk12_2 dX5_nextWord_35 ?_
      refine J_iconst (pc := 38) dX5_nextWord_38 ci_1 ?_
      refine J_iadd (pc := 39) dX5_nextWord_39 ?_
      refine J_putIL (pc := 40) (k := 2) fpX5_25 so12 fk12_2 rfl rfl dX5_nextWord_40 hh (fun s3 hh => ?_)
      refine J_goto (pc := 43) 8 dX5_nextWord_43 (by decide) ?_
      obtain rfl := Option.some.inj hh
      exact hk
def bX5_nextWord_54 (s : Mem)  : Option (Mem ⊕ Mem) :=
  if (s.1 12 1) ≤ (s.1 12 3) then some (Sum.inl s) else gd (s.1 12 3) 120 (if (s.1 13 (s.1 12 3).toNatClampNeg) = (32 : Int32) then some (Sum.inl s) else lt (up2 s 12 3 ((s.1 12 3) + (1 : Int32))) (fun s9 => some (Sum.inr s9)))
set_option maxRecDepth 4000 in
theorem jbX5_nextWord_54 {X : Scr} (d : Nat) (s : Mem)  {r : (Mem ⊕ Mem)} {w : Option Value} {s' : Mem} (hh : bX5_nextWord_54 s = some r) (hk : Sum.elim (fun t : Mem => J X MX5_nextWord (d + 0) 92 [none] [] t w s') (fun a : Mem => J X MX5_nextWord (d + 0) 54 [some (.ref 12)] [] a w s') r) : J X MX5_nextWord (d + 0) 54 [some (.ref 12)] [] s w s' := by
  unfold bX5_nextWord_54 at hh
  refine J_aload_n (pc := 54) dX5_nextWord_54 rfl ?_
  refine J_getI (pc := 55) (k := 3) flX5_19 so12 fk12_3 dX5_nextWord_55 ?_
  refine J_aload_n (pc := 58) dX5_nextWord_58 rfl ?_
  refine J_getI (pc := 59) (k := 1) flX5_15 so12 fk12_1 dX5_nextWord_59 ?_
  refine J_icmp_ge (pc := 62) 92 dX5_nextWord_62 (by decide) (fun c11 => ?_) (fun c11 => ?_)
  · replace hh := (if_pos c11).symm.trans hh
    refine J_drop 0 (L' := [none]) rfl ?_
    obtain rfl := Option.some.inj hh
    exact hk
  · replace hh := (if_neg c11).symm.trans hh
    refine J_aload_n (pc := 65) dX5_nextWord_65 rfl ?_
    refine J_getR (pc := 66) (k := 0) flX5_11 so12 fk12_0 dX5_nextWord_66 ?_
    refine J_aload_n (pc := 69) dX5_nextWord_69 rfl ?_
    refine J_getI (pc := 70) (k := 3) flX5_19 so12 fk12_3 dX5_nextWord_70 ?_
    obtain ⟨h8, hh⟩ := gd_some hh
    refine J_bald (pc := 73) dX5_nextWord_73 sa13 h8 ?_
    refine J_bipush (pc := 74) dX5_nextWord_74 cb_32 ?_
    refine J_icmp_eq (pc := 76) 92 dX5_nextWord_76 (by decide) (fun c10 => ?_) (fun c10 => ?_)
    · replace hh := (if_pos c10).symm.trans hh
      refine J_drop 0 (L' := [none]) rfl ?_
      obtain rfl := Option.some.inj hh
      exact hk
    · replace hh := (if_neg c10).symm.trans hh
      refine J_aload_n (pc := 79) dX5_nextWord_79 rfl ?_
      refine J_dup (pc := 80) dX5_nextWord_80 rfl ?_
      refine J_getI (pc := 81) (k := 3) flX5_19 so12 fk12_3 dX5_nextWord_81 ?_
      refine J_iconst (pc := 84) dX5_nextWord_84 ci_1 ?_
      refine J_iadd (pc := 85) dX5_nextWord_85 ?_
      refine J_putIL (pc := 86) (k := 3) fpX5_19 so12 fk12_3 rfl rfl dX5_nextWord_86 hh (fun s9 hh => ?_)
      refine J_goto (pc := 89) 54 dX5_nextWord_89 (by decide) ?_
      obtain rfl := Option.some.inj hh
      exact hk
def fX5_nextWord (s : Mem)  : Option Mem :=
  lt (up2 s 12 2 (s.1 12 3)) (fun s1 => (lp (fun a => bX5_nextWord_8 a) 600 s1).bind (fun y6 => lt (up2 y6 12 3 (y6.1 12 2)) (fun s7 => (lp (fun a => bX5_nextWord_54 a) 600 s7).bind (fun y12 => some y12))))
set_option maxRecDepth 4000 in
theorem jjX5_nextWord {X : Scr} (d : Nat) (s : Mem)  {r : Mem} {w : Option Value} {s' : Mem} (hh : fX5_nextWord s = some r) (hk : w = none ∧ r = s') : J X MX5_nextWord (d + 0) 0 [some (.ref 12)] [] s w s' := by
  unfold fX5_nextWord at hh
  refine J_aload_n (pc := 0) dX5_nextWord_0 rfl ?_
  refine J_aload_n (pc := 1) dX5_nextWord_1 rfl ?_
  refine J_getI (pc := 2) (k := 3) flX5_19 so12 fk12_3 dX5_nextWord_2 ?_
  refine J_putIL (pc := 5) (k := 2) fpX5_25 so12 fk12_2 rfl rfl dX5_nextWord_5 hh (fun s1 hh => ?_)
  obtain ⟨y6, hy6, hh⟩ := bd_some hh
  refine J_lp (a := s1) (fun a : Mem => J X MX5_nextWord (d + 0) 8 [some (.ref 12)] [] a w s') (fun t : Mem => J X MX5_nextWord (d + 0) 46 [some (.ref 12)] [] t w s') (fun a q h1 h2 => jbX5_nextWord_8 d a h1 h2) hy6 ?_
  refine J_aload_n (pc := 46) dX5_nextWord_46 rfl ?_
  refine J_aload_n (pc := 47) dX5_nextWord_47 rfl ?_
  refine J_getI (pc := 48) (k := 2) flX5_25 so12 fk12_2 dX5_nextWord_48 ?_
  refine J_putIL (pc := 51) (k := 3) fpX5_19 so12 fk12_3 rfl rfl dX5_nextWord_51 hh (fun s7 hh => ?_)
  obtain ⟨y12, hy12, hh⟩ := bd_some hh
  refine J_lp (a := s7) (fun a : Mem => J X MX5_nextWord (d + 0) 54 [some (.ref 12)] [] a w s') (fun t : Mem => J X MX5_nextWord (d + 0) 92 [none] [] t w s') (fun a q h1 h2 => jbX5_nextWord_54 d a h1 h2) hy12 ?_
  obtain rfl := Option.some.inj hh
  obtain ⟨rfl, rfl⟩ := hk
  exact J_ret (w := none) ⟨dX5_nextWord_92, rfl⟩
theorem jX5_nextWord {X : Scr} (d : Nat) (s : Mem)  {r : Mem} (hh : fX5_nextWord s = some r) : J X MX5_nextWord (d + 0) 0 [some (.ref 12)] [] s (none) r := jjX5_nextWord d s hh ⟨rfl, rfl⟩
theorem dX5_rewind_0 : decode cX5_rewind 0 = .ok (.aload_n 0, 1) := by decide +kernel
theorem dX5_rewind_1 : decode cX5_rewind 1 = .ok (.iconst 0, 1) := by decide +kernel
theorem dX5_rewind_2 : decode cX5_rewind 2 = .ok (.putfield 19, 3) := by decide +kernel
theorem dX5_rewind_5 : decode cX5_rewind 5 = .ok (.aload_n 0, 1) := by decide +kernel
theorem dX5_rewind_6 : decode cX5_rewind 6 = .ok (.invokevirtual 22, 3) := by decide +kernel
theorem dX5_rewind_9 : decode cX5_rewind 9 = .ok (.return_, 1) := by decide +kernel
def fX5_rewind (s : Mem)  : Option Mem :=
  lt (up2 s 12 3 (0 : Int32)) (fun s1 => (fX5_nextWord s1).bind (fun y2 => some y2))
set_option maxRecDepth 4000 in
theorem jjX5_rewind {X : Scr} (d : Nat) (s : Mem)  {r : Mem} {w : Option Value} {s' : Mem} (hh : fX5_rewind s = some r) (hk : w = none ∧ r = s') : J X MX5_rewind (d + 1) 0 [some (.ref 12)] [] s w s' := by
  unfold fX5_rewind at hh
  refine J_aload_n (pc := 0) dX5_rewind_0 rfl ?_
  refine J_iconst (pc := 1) dX5_rewind_1 ci_0 ?_
  refine J_putIL (pc := 2) (k := 3) fpX5_19 so12 fk12_3 rfl rfl dX5_rewind_2 hh (fun s1 hh => ?_)
  refine J_aload_n (pc := 5) dX5_rewind_5 rfl ?_
  obtain ⟨y2, hy2, hh⟩ := bd_some hh
  refine J_callV0 (pc := 6) (M' := MX5_nextWord) (a := 12) (rest := []) (As := []) (L0 := [some (.ref 12)]) okX5_nextWord ovX5_nextWord mlX5_22 clX5 so12 rfl rfl (Nat.le_of_ble_eq_true rfl) dX5_rewind_6 rfl (Nat.le_of_ble_eq_true rfl) (jX5_nextWord (X := X) d s1 hy2) ?_
  obtain rfl := Option.some.inj hh
  obtain ⟨rfl, rfl⟩ := hk
  exact J_ret (w := none) ⟨dX5_rewind_9, rfl⟩
theorem jX5_rewind {X : Scr} (d : Nat) (s : Mem)  {r : Mem} (hh : fX5_rewind s = some r) : J X MX5_rewind (d + 1) 0 [some (.ref 12)] [] s (none) r := jjX5_rewind d s hh ⟨rfl, rfl⟩
theorem dX5_place_0 : decode cX5_place 0 = .ok (.aload_n 0, 1) := by decide +kernel
theorem dX5_place_1 : decode cX5_place 1 = .ok (.getfield 25, 3) := by decide +kernel
theorem dX5_place_4 : decode cX5_place 4 = .ok (.ireturn, 1) := by decide +kernel
def fX5_place (s : Mem)  : Option Int32 :=
  some ((s.1 12 2))
set_option maxRecDepth 4000 in
theorem jjX5_place {X : Scr} (d : Nat) (s : Mem)  {r : Int32} {w : Option Value} {s' : Mem} (hh : fX5_place s = some r) (hk : w = some (.int r) ∧ s = s') : J X MX5_place (d + 0) 0 [some (.ref 12)] [] s w s' := by
  unfold fX5_place at hh
  refine J_aload_n (pc := 0) dX5_place_0 rfl ?_
  refine J_getI (pc := 1) (k := 2) flX5_25 so12 fk12_2 dX5_place_1 ?_
  obtain rfl := Option.some.inj hh
  obtain ⟨rfl, rfl⟩ := hk
  exact J_ret (w := some (.int (s.1 12 2))) ⟨dX5_place_4, _, rfl, rfl⟩
theorem jX5_place {X : Scr} (d : Nat) (s : Mem)  {r : Int32} (hh : fX5_place s = some r) : J X MX5_place (d + 0) 0 [some (.ref 12)] [] s (some (.int r)) s := jjX5_place d s hh ⟨rfl, rfl⟩
theorem dX5_lastPlace_0 : decode cX5_lastPlace 0 = .ok (.aload_n 0, 1) := by decide +kernel
theorem dX5_lastPlace_1 : decode cX5_lastPlace 1 = .ok (.getfield 28, 3) := by decide +kernel
theorem dX5_lastPlace_4 : decode cX5_lastPlace 4 = .ok (.ireturn, 1) := by decide +kernel
def fX5_lastPlace (s : Mem)  : Option Int32 :=
  some ((s.1 12 4))
set_option maxRecDepth 4000 in
theorem jjX5_lastPlace {X : Scr} (d : Nat) (s : Mem)  {r : Int32} {w : Option Value} {s' : Mem} (hh : fX5_lastPlace s = some r) (hk : w = some (.int r) ∧ s = s') : J X MX5_lastPlace (d + 0) 0 [some (.ref 12)] [] s w s' := by
  unfold fX5_lastPlace at hh
  refine J_aload_n (pc := 0) dX5_lastPlace_0 rfl ?_
  refine J_getI (pc := 1) (k := 4) flX5_28 so12 fk12_4 dX5_lastPlace_1 ?_
  obtain rfl := Option.some.inj hh
  obtain ⟨rfl, rfl⟩ := hk
  exact J_ret (w := some (.int (s.1 12 4))) ⟨dX5_lastPlace_4, _, rfl, rfl⟩
theorem jX5_lastPlace {X : Scr} (d : Nat) (s : Mem)  {r : Int32} (hh : fX5_lastPlace s = some r) : J X MX5_lastPlace (d + 0) 0 [some (.ref 12)] [] s (some (.int r)) s := jjX5_lastPlace d s hh ⟨rfl, rfl⟩
theorem dX5_atEnd_0 : decode cX5_atEnd 0 = .ok (.aload_n 0, 1) := by decide +kernel
theorem dX5_atEnd_1 : decode cX5_atEnd 1 = .ok (.getfield 25, 3) := by decide +kernel
theorem dX5_atEnd_4 : decode cX5_atEnd 4 = .ok (.aload_n 0, 1) := by decide +kernel
theorem dX5_atEnd_5 : decode cX5_atEnd 5 = .ok (.getfield 15, 3) := by decide +kernel
theorem dX5_atEnd_8 : decode cX5_atEnd 8 = .ok (.if_icmp .ne 7, 3) := by decide +kernel
theorem dX5_atEnd_11 : decode cX5_atEnd 11 = .ok (.iconst 1, 1) := by decide +kernel
theorem dX5_atEnd_12 : decode cX5_atEnd 12 = .ok (.goto 4, 3) := by decide +kernel
theorem dX5_atEnd_15 : decode cX5_atEnd 15 = .ok (.iconst 0, 1) := by decide +kernel
theorem dX5_atEnd_16 : decode cX5_atEnd 16 = .ok (.ireturn, 1) := by decide +kernel
def fX5_atEnd (s : Mem)  : Option Int32 :=
  if (s.1 12 2) = (s.1 12 1) then some (1 : Int32) else some (0 : Int32)
set_option maxRecDepth 4000 in
theorem jjX5_atEnd {X : Scr} (d : Nat) (s : Mem)  {r : Int32} {w : Option Value} {s' : Mem} (hh : fX5_atEnd s = some r) (hk : w = some (.int r) ∧ s = s') : J X MX5_atEnd (d + 0) 0 [some (.ref 12)] [] s w s' := by
  unfold fX5_atEnd at hh
  refine J_aload_n (pc := 0) dX5_atEnd_0 rfl ?_
  refine J_getI (pc := 1) (k := 2) flX5_25 so12 fk12_2 dX5_atEnd_1 ?_
  refine J_aload_n (pc := 4) dX5_atEnd_4 rfl ?_
  refine J_getI (pc := 5) (k := 1) flX5_15 so12 fk12_1 dX5_atEnd_5 ?_
  refine J_icmp_ne (pc := 8) 15 dX5_atEnd_8 (by decide) (fun c1 => ?_) (fun c1 => ?_)
  · replace hh := (if_neg c1).symm.trans hh
    refine J_iconst (pc := 15) dX5_atEnd_15 ci_0 ?_
    obtain rfl := Option.some.inj hh
    obtain ⟨rfl, rfl⟩ := hk
    exact J_ret (w := some (.int (0 : Int32))) ⟨dX5_atEnd_16, _, rfl, rfl⟩
  · replace hh := (if_pos c1).symm.trans hh
    refine J_iconst (pc := 11) dX5_atEnd_11 ci_1 ?_
    refine J_goto (pc := 12) 16 dX5_atEnd_12 (by decide) ?_
    obtain rfl := Option.some.inj hh
    obtain ⟨rfl, rfl⟩ := hk
    exact J_ret (w := some (.int (1 : Int32))) ⟨dX5_atEnd_16, _, rfl, rfl⟩
theorem jX5_atEnd {X : Scr} (d : Nat) (s : Mem)  {r : Int32} (hh : fX5_atEnd s = some r) : J X MX5_atEnd (d + 0) 0 [some (.ref 12)] [] s (some (.int r)) s := jjX5_atEnd d s hh ⟨rfl, rfl⟩
theorem dX5_says_0 : decode cX5_says 0 = .ok (.aload_n 0, 1) := by decide +kernel
theorem dX5_says_1 : decode cX5_says 1 = .ok (.getfield 19, 3) := by decide +kernel
theorem dX5_says_4 : decode cX5_says 4 = .ok (.aload_n 0, 1) := by decide +kernel
theorem dX5_says_5 : decode cX5_says 5 = .ok (.getfield 25, 3) := by decide +kernel
theorem dX5_says_8 : decode cX5_says 8 = .ok (.isub, 1) := by decide +kernel
theorem dX5_says_9 : decode cX5_says 9 = .ok (.aload_n 1, 1) := by decide +kernel
theorem dX5_says_10 : decode cX5_says 10 = .ok (.invokevirtual 31, 3) := by decide +kernel
theorem dX5_says_13 : decode cX5_says 13 = .ok (.if_icmp .eq 5, 3) := by decide +kernel
theorem dX5_says_16 : decode cX5_says 16 = .ok (.iconst 0, 1) := by decide +kernel
theorem dX5_says_17 : decode cX5_says 17 = .ok (.ireturn, 1) := by decide +kernel
theorem dX5_says_18 : decode cX5_says 18 = .ok (.iconst 0, 1) := by decide +kernel
theorem dX5_says_19 : decode cX5_says 19 = .ok (.istore_n 2, 1) := by decide +kernel
theorem dX5_says_20 : decode cX5_says 20 = .ok (.iload_n 2, 1) := by decide +kernel
theorem dX5_says_21 : decode cX5_says 21 = .ok (.aload_n 1, 1) := by decide +kernel
theorem dX5_says_22 : decode cX5_says 22 = .ok (.invokevirtual 31, 3) := by decide +kernel
theorem dX5_says_25 : decode cX5_says 25 = .ok (.if_icmp .ge 30, 3) := by decide +kernel
theorem dX5_says_28 : decode cX5_says 28 = .ok (.aload_n 0, 1) := by decide +kernel
theorem dX5_says_29 : decode cX5_says 29 = .ok (.getfield 11, 3) := by decide +kernel
theorem dX5_says_32 : decode cX5_says 32 = .ok (.aload_n 0, 1) := by decide +kernel
theorem dX5_says_33 : decode cX5_says 33 = .ok (.getfield 25, 3) := by decide +kernel
theorem dX5_says_36 : decode cX5_says 36 = .ok (.iload_n 2, 1) := by decide +kernel
theorem dX5_says_37 : decode cX5_says 37 = .ok (.iadd, 1) := by decide +kernel
theorem dX5_says_38 : decode cX5_says 38 = .ok (.baload, 1) := by decide +kernel
theorem dX5_says_39 : decode cX5_says 39 = .ok (.aload_n 1, 1) := by decide +kernel
theorem dX5_says_40 : decode cX5_says 40 = .ok (.iload_n 2, 1) := by decide +kernel
theorem dX5_says_41 : decode cX5_says 41 = .ok (.invokevirtual 36, 3) := by decide +kernel
theorem dX5_says_44 : decode cX5_says 44 = .ok (.if_icmp .eq 5, 3) := by decide +kernel
theorem dX5_says_47 : decode cX5_says 47 = .ok (.iconst 0, 1) := by decide +kernel
theorem dX5_says_48 : decode cX5_says 48 = .ok (.ireturn, 1) := by decide +kernel
theorem dX5_says_49 : decode cX5_says 49 = .ok (.iinc 2 1, 3) := by decide +kernel
theorem dX5_says_52 : decode cX5_says 52 = .ok (.goto (-32), 3) := by decide +kernel
theorem dX5_says_55 : decode cX5_says 55 = .ok (.iconst 1, 1) := by decide +kernel
theorem dX5_says_56 : decode cX5_says 56 = .ok (.ireturn, 1) := by decide +kernel
def bX5_says_20 (s : Mem) (v1 : Nat) (v2 : Int32) : Option ((Int32 ⊕ Unit) ⊕ Int32) :=
  (fT_length v1).bind (fun y3 => if y3 ≤ v2 then some (Sum.inl (Sum.inr ())) else gd ((s.1 12 2) + v2) 120 ((fT_charAt v1 v2).bind (fun y6 => if (s.1 13 ((s.1 12 2) + v2).toNatClampNeg) = y6 then lt (v2 + (1 : Int32)) (fun x8 => some (Sum.inr x8)) else some (Sum.inl (Sum.inl (0 : Int32))))))
set_option maxRecDepth 4000 in
theorem jbX5_says_20 {X : Scr} (d : Nat) (s : Mem) (v1 : Nat) (v2 : Int32) {r : ((Int32 ⊕ Unit) ⊕ Int32)} {w : Option Value} {s' : Mem} (hh : bX5_says_20 s v1 v2 = some r) (hk : Sum.elim (Sum.elim (fun q : Int32 => w = some (.int q) ∧ s = s') (fun t : Unit => J X MX5_says (d + 5) 55 [none, none, none] [] s w s')) (fun a : Int32 => J X MX5_says (d + 5) 20 [some (.ref 12), some (.ref (1000 + v1)), some (.int a)] [] s w s') r) : J X MX5_says (d + 5) 20 [some (.ref 12), some (.ref (1000 + v1)), some (.int v2)] [] s w s' := by
  unfold bX5_says_20 at hh
  refine J_iload_n (pc := 20) dX5_says_20 rfl ?_
  refine J_aload_n (pc := 21) dX5_says_21 rfl ?_
  obtain ⟨y3, hy3, hh⟩ := bd_some hh
  obtain ⟨b4, hb4, hy3⟩ := jT_length (X := X) (d + 3) s v1 hy3
  refine J_callTi (pc := 22) (M' := MJ0_length_8abf5) (rest := [.int v2]) (As := []) okJ0_length_8abf5 ovJ0_length_8abf5 rfl mlX5_31 hb4 rfl rfl (Nat.le_of_ble_eq_true rfl) dX5_says_22 rfl (Nat.le_of_ble_eq_true rfl) hy3 ?_
  refine J_icmp_ge (pc := 25) 55 dX5_says_25 (by decide) (fun c10 => ?_) (fun c10 => ?_)
  · replace hh := (if_pos c10).symm.trans hh
    refine J_drop 0 (L' := [none, some (.ref (1000 + v1)), some (.int v2)]) rfl ?_
    refine J_drop 1 (L' := [none, none, some (.int v2)]) rfl ?_
    refine J_drop 2 (L' := [none, none, none]) rfl ?_
    obtain rfl := Option.some.inj hh
    exact hk
  · replace hh := (if_neg c10).symm.trans hh
    refine J_aload_n (pc := 28) dX5_says_28 rfl ?_
    refine J_getR (pc := 29) (k := 0) flX5_11 so12 fk12_0 dX5_says_29 ?_
    refine J_aload_n (pc := 32) dX5_says_32 rfl ?_
    refine J_getI (pc := 33) (k := 2) flX5_25 so12 fk12_2 dX5_says_33 ?_
    refine J_iload_n (pc := 36) dX5_says_36 rfl ?_
    refine J_iadd (pc := 37) dX5_says_37 ?_
    obtain ⟨h5, hh⟩ := gd_some hh
    refine J_bald (pc := 38) dX5_says_38 sa13 h5 ?_
    refine J_aload_n (pc := 39) dX5_says_39 rfl ?_
    refine J_iload_n (pc := 40) dX5_says_40 rfl ?_
    obtain ⟨y6, hy6, hh⟩ := bd_some hh
    obtain ⟨b7, hb7, hy6⟩ := jT_charAt (X := X) (d + 0) s v1 v2 hy6
    refine J_callTi (pc := 41) (M' := MJ0_charAt_5068e) (rest := [.int (s.1 13 ((s.1 12 2) + v2).toNatClampNeg)]) (As := [.int v2]) okJ0_charAt_5068e ovJ0_charAt_5068e rfl mlX5_36 hb7 rfl rfl (Nat.le_of_ble_eq_true rfl) dX5_says_41 rfl (Nat.le_of_ble_eq_true rfl) hy6 ?_
    refine J_icmp_eq (pc := 44) 49 dX5_says_44 (by decide) (fun c9 => ?_) (fun c9 => ?_)
    · replace hh := (if_pos c9).symm.trans hh
      refine J_iincL (pc := 49) (v := v2 + (1 : Int32)) (fun x8 => [some (.ref 12), some (.ref (1000 + v1)), some (.int x8)]) dX5_says_49 rfl rfl (Nat.le_of_ble_eq_true rfl) (congrArg _ ci_1) (fun _ => rfl) hh (fun x8 hh => ?_)
      refine J_goto (pc := 52) 20 dX5_says_52 (by decide) ?_
      obtain rfl := Option.some.inj hh
      exact hk
    · replace hh := (if_neg c9).symm.trans hh
      refine J_iconst (pc := 47) dX5_says_47 ci_0 ?_
      obtain rfl := Option.some.inj hh
      obtain ⟨rfl, rfl⟩ := hk
      exact J_ret (w := some (.int (0 : Int32))) ⟨dX5_says_48, _, rfl, rfl⟩
def fX5_says (s : Mem) (p0 : Nat) : Option Int32 :=
  (fT_length p0).bind (fun y1 => if ((s.1 12 3) - (s.1 12 2)) = y1 then (lp (fun a => bX5_says_20 s p0 a) 600 (0 : Int32)).bind (fun y11 => Sum.elim (fun q13 => some q13) (fun t12 => some (1 : Int32)) y11) else some (0 : Int32))
set_option maxRecDepth 4000 in
theorem jjX5_says {X : Scr} (d : Nat) (s : Mem) (p0 : Nat) {r : Int32} {w : Option Value} {s' : Mem} (hh : fX5_says s p0 = some r) (hk : w = some (.int r) ∧ s = s') : J X MX5_says (d + 5) 0 [some (.ref 12), some (.ref (1000 + p0)), none] [] s w s' := by
  unfold fX5_says at hh
  refine J_aload_n (pc := 0) dX5_says_0 rfl ?_
  refine J_getI (pc := 1) (k := 3) flX5_19 so12 fk12_3 dX5_says_1 ?_
  refine J_aload_n (pc := 4) dX5_says_4 rfl ?_
  refine J_getI (pc := 5) (k := 2) flX5_25 so12 fk12_2 dX5_says_5 ?_
  refine J_isub (pc := 8) dX5_says_8 ?_
  refine J_aload_n (pc := 9) dX5_says_9 rfl ?_
  obtain ⟨y1, hy1, hh⟩ := bd_some hh
  obtain ⟨b2, hb2, hy1⟩ := jT_length (X := X) (d + 3) s p0 hy1
  refine J_callTi (pc := 10) (M' := MJ0_length_8abf5) (rest := [.int ((s.1 12 3) - (s.1 12 2))]) (As := []) okJ0_length_8abf5 ovJ0_length_8abf5 rfl mlX5_31 hb2 rfl rfl (Nat.le_of_ble_eq_true rfl) dX5_says_10 rfl (Nat.le_of_ble_eq_true rfl) hy1 ?_
  refine J_icmp_eq (pc := 13) 18 dX5_says_13 (by decide) (fun c14 => ?_) (fun c14 => ?_)
  · replace hh := (if_pos c14).symm.trans hh
    refine J_iconst (pc := 18) dX5_says_18 ci_0 ?_
    refine J_istore_n (pc := 19) (L' := [some (.ref 12), some (.ref (1000 + p0)), some (.int (0 : Int32))]) dX5_says_19 rfl (Nat.le_of_ble_eq_true rfl) rfl ?_
    obtain ⟨y11, hy11, hh⟩ := bd_some hh
    refine J_lp (a := (0 : Int32)) (fun a : Int32 => J X MX5_says (d + 5) 20 [some (.ref 12), some (.ref (1000 + p0)), some (.int a)] [] s w s') (Sum.elim (fun q : Int32 => w = some (.int q) ∧ s = s') (fun t : Unit => J X MX5_says (d + 5) 55 [none, none, none] [] s w s')) (fun a q h1 h2 => jbX5_says_20 d s p0 a h1 h2) hy11 ?_
    cases y11 with
    | inl q13 =>
      obtain rfl := Option.some.inj hh
      exact hk
    | inr t12 =>
      skip
      replace hh : (some (1 : Int32)) = some r := hh
      refine J_iconst (pc := 55) dX5_says_55 ci_1 ?_
      obtain rfl := Option.some.inj hh
      obtain ⟨rfl, rfl⟩ := hk
      exact J_ret (w := some (.int (1 : Int32))) ⟨dX5_says_56, _, rfl, rfl⟩
  · replace hh := (if_neg c14).symm.trans hh
    refine J_iconst (pc := 16) dX5_says_16 ci_0 ?_
    obtain rfl := Option.some.inj hh
    obtain ⟨rfl, rfl⟩ := hk
    exact J_ret (w := some (.int (0 : Int32))) ⟨dX5_says_17, _, rfl, rfl⟩
theorem jX5_says {X : Scr} (d : Nat) (s : Mem) (p0 : Nat) {r : Int32} (hh : fX5_says s p0 = some r) : J X MX5_says (d + 5) 0 [some (.ref 12), some (.ref (1000 + p0)), none] [] s (some (.int r)) s := jjX5_says d s p0 hh ⟨rfl, rfl⟩
theorem dX5_oneSign_0 : decode cX5_oneSign 0 = .ok (.aload_n 0, 1) := by decide +kernel
theorem dX5_oneSign_1 : decode cX5_oneSign 1 = .ok (.getfield 19, 3) := by decide +kernel
theorem dX5_oneSign_4 : decode cX5_oneSign 4 = .ok (.aload_n 0, 1) := by decide +kernel
theorem dX5_oneSign_5 : decode cX5_oneSign 5 = .ok (.getfield 25, 3) := by decide +kernel
theorem dX5_oneSign_8 : decode cX5_oneSign 8 = .ok (.isub, 1) := by decide +kernel
theorem dX5_oneSign_9 : decode cX5_oneSign 9 = .ok (.iconst 1, 1) := by decide +kernel
theorem dX5_oneSign_10 : decode cX5_oneSign 10 = .ok (.if_icmp .eq 5, 3) := by decide +kernel
theorem dX5_oneSign_13 : decode cX5_oneSign 13 = .ok (.iconst (-1), 1) := by decide +kernel
theorem dX5_oneSign_14 : decode cX5_oneSign 14 = .ok (.ireturn, 1) := by decide +kernel
theorem dX5_oneSign_15 : decode cX5_oneSign 15 = .ok (.aload_n 0, 1) := by decide +kernel
theorem dX5_oneSign_16 : decode cX5_oneSign 16 = .ok (.getfield 11, 3) := by decide +kernel
theorem dX5_oneSign_19 : decode cX5_oneSign 19 = .ok (.aload_n 0, 1) := by decide +kernel
theorem dX5_oneSign_20 : decode cX5_oneSign 20 = .ok (.getfield 25, 3) := by decide +kernel
theorem dX5_oneSign_23 : decode cX5_oneSign 23 = .ok (.baload, 1) := by decide +kernel
theorem dX5_oneSign_24 : decode cX5_oneSign 24 = .ok (.iload_n 1, 1) := by decide +kernel
theorem dX5_oneSign_25 : decode cX5_oneSign 25 = .ok (.isub, 1) := by decide +kernel
theorem dX5_oneSign_26 : decode cX5_oneSign 26 = .ok (.istore_n 3, 1) := by decide +kernel
theorem dX5_oneSign_27 : decode cX5_oneSign 27 = .ok (.iload_n 3, 1) := by decide +kernel
theorem dX5_oneSign_28 : decode cX5_oneSign 28 = .ok (.ifCond .lt 12, 3) := by decide +kernel
theorem dX5_oneSign_31 : decode cX5_oneSign 31 = .ok (.iload_n 3, 1) := by decide +kernel
theorem dX5_oneSign_32 : decode cX5_oneSign 32 = .ok (.iload_n 2, 1) := by decide +kernel
theorem dX5_oneSign_33 : decode cX5_oneSign 33 = .ok (.if_icmp .gt 7, 3) := by decide +kernel
theorem dX5_oneSign_36 : decode cX5_oneSign 36 = .ok (.iload_n 3, 1) := by decide +kernel
theorem dX5_oneSign_37 : decode cX5_oneSign 37 = .ok (.goto 4, 3) := by decide +kernel
theorem dX5_oneSign_40 : decode cX5_oneSign 40 = .ok (.iconst (-1), 1) := by decide +kernel
theorem dX5_oneSign_41 : decode cX5_oneSign 41 = .ok (.ireturn, 1) := by decide +kernel
def fX5_oneSign (s : Mem) (p0 : Int32) (p1 : Int32) : Option Int32 :=
  if ((s.1 12 3) - (s.1 12 2)) = (1 : Int32) then gd (s.1 12 2) 120 (lt ((s.1 13 (s.1 12 2).toNatClampNeg) - p0) (fun x2 => if x2 < (0 : Int32) then some (-1 : Int32) else if p1 < x2 then some (-1 : Int32) else some x2)) else some (-1 : Int32)
set_option maxRecDepth 4000 in
theorem jjX5_oneSign {X : Scr} (d : Nat) (s : Mem) (p0 : Int32) (p1 : Int32) {r : Int32} {w : Option Value} {s' : Mem} (hh : fX5_oneSign s p0 p1 = some r) (hk : w = some (.int r) ∧ s = s') : J X MX5_oneSign (d + 0) 0 [some (.ref 12), some (.int p0), some (.int p1), none] [] s w s' := by
  unfold fX5_oneSign at hh
  refine J_aload_n (pc := 0) dX5_oneSign_0 rfl ?_
  refine J_getI (pc := 1) (k := 3) flX5_19 so12 fk12_3 dX5_oneSign_1 ?_
  refine J_aload_n (pc := 4) dX5_oneSign_4 rfl ?_
  refine J_getI (pc := 5) (k := 2) flX5_25 so12 fk12_2 dX5_oneSign_5 ?_
  refine J_isub (pc := 8) dX5_oneSign_8 ?_
  refine J_iconst (pc := 9) dX5_oneSign_9 ci_1 ?_
  refine J_icmp_eq (pc := 10) 15 dX5_oneSign_10 (by decide) (fun c5 => ?_) (fun c5 => ?_)
  · replace hh := (if_pos c5).symm.trans hh
    refine J_aload_n (pc := 15) dX5_oneSign_15 rfl ?_
    refine J_getR (pc := 16) (k := 0) flX5_11 so12 fk12_0 dX5_oneSign_16 ?_
    refine J_aload_n (pc := 19) dX5_oneSign_19 rfl ?_
    refine J_getI (pc := 20) (k := 2) flX5_25 so12 fk12_2 dX5_oneSign_20 ?_
    obtain ⟨h1, hh⟩ := gd_some hh
    refine J_bald (pc := 23) dX5_oneSign_23 sa13 h1 ?_
    refine J_iload_n (pc := 24) dX5_oneSign_24 rfl ?_
    refine J_isub (pc := 25) dX5_oneSign_25 ?_
    refine J_istoreL_n (pc := 26) (fun x2 => [some (.ref 12), some (.int p0), some (.int p1), some (.int x2)]) dX5_oneSign_26 rfl (Nat.le_of_ble_eq_true rfl) (fun _ => rfl) hh (fun x2 hh => ?_)
    refine J_iload_n (pc := 27) dX5_oneSign_27 rfl ?_
    refine J_if_lt (pc := 28) 40 dX5_oneSign_28 (by decide) (fun c4 => ?_) (fun c4 => ?_)
    · replace hh := (if_pos c4).symm.trans hh
      refine J_iconst (pc := 40) dX5_oneSign_40 ci_m1 ?_
      obtain rfl := Option.some.inj hh
      obtain ⟨rfl, rfl⟩ := hk
      exact J_ret (w := some (.int (-1 : Int32))) ⟨dX5_oneSign_41, _, rfl, rfl⟩
    · replace hh := (if_neg c4).symm.trans hh
      refine J_iload_n (pc := 31) dX5_oneSign_31 rfl ?_
      refine J_iload_n (pc := 32) dX5_oneSign_32 rfl ?_
      refine J_icmp_gt (pc := 33) 40 dX5_oneSign_33 (by decide) (fun c3 => ?_) (fun c3 => ?_)
      · replace hh := (if_pos c3).symm.trans hh
        refine J_iconst (pc := 40) dX5_oneSign_40 ci_m1 ?_
        obtain rfl := Option.some.inj hh
        obtain ⟨rfl, rfl⟩ := hk
        exact J_ret (w := some (.int (-1 : Int32))) ⟨dX5_oneSign_41, _, rfl, rfl⟩
      · replace hh := (if_neg c3).symm.trans hh
        refine J_iload_n (pc := 36) dX5_oneSign_36 rfl ?_
        refine J_goto (pc := 37) 41 dX5_oneSign_37 (by decide) ?_
        obtain rfl := Option.some.inj hh
        obtain ⟨rfl, rfl⟩ := hk
        exact J_ret (w := some (.int x2)) ⟨dX5_oneSign_41, _, rfl, rfl⟩
  · replace hh := (if_neg c5).symm.trans hh
    refine J_iconst (pc := 13) dX5_oneSign_13 ci_m1 ?_
    obtain rfl := Option.some.inj hh
    obtain ⟨rfl, rfl⟩ := hk
    exact J_ret (w := some (.int (-1 : Int32))) ⟨dX5_oneSign_14, _, rfl, rfl⟩
theorem jX5_oneSign {X : Scr} (d : Nat) (s : Mem) (p0 : Int32) (p1 : Int32) {r : Int32} (hh : fX5_oneSign s p0 p1 = some r) : J X MX5_oneSign (d + 0) 0 [some (.ref 12), some (.int p0), some (.int p1), none] [] s (some (.int r)) s := jjX5_oneSign d s p0 p1 hh ⟨rfl, rfl⟩
theorem dX5_hour_0 : decode cX5_hour 0 = .ok (.aload_n 0, 1) := by decide +kernel
theorem dX5_hour_1 : decode cX5_hour 1 = .ok (.getfield 19, 3) := by decide +kernel
theorem dX5_hour_4 : decode cX5_hour 4 = .ok (.aload_n 0, 1) := by decide +kernel
theorem dX5_hour_5 : decode cX5_hour 5 = .ok (.getfield 25, 3) := by decide +kernel
theorem dX5_hour_8 : decode cX5_hour 8 = .ok (.isub, 1) := by decide +kernel
theorem dX5_hour_9 : decode cX5_hour 9 = .ok (.iconst 2, 1) := by decide +kernel
theorem dX5_hour_10 : decode cX5_hour 10 = .ok (.if_icmp .ne 67, 3) := by decide +kernel
theorem dX5_hour_13 : decode cX5_hour 13 = .ok (.aload_n 0, 1) := by decide +kernel
theorem dX5_hour_14 : decode cX5_hour 14 = .ok (.getfield 11, 3) := by decide +kernel
theorem dX5_hour_17 : decode cX5_hour 17 = .ok (.aload_n 0, 1) := by decide +kernel
theorem dX5_hour_18 : decode cX5_hour 18 = .ok (.getfield 25, 3) := by decide +kernel
theorem dX5_hour_21 : decode cX5_hour 21 = .ok (.baload, 1) := by decide +kernel
theorem dX5_hour_22 : decode cX5_hour 22 = .ok (.bipush 49, 2) := by decide +kernel
theorem dX5_hour_24 : decode cX5_hour 24 = .ok (.if_icmp .ne 53, 3) := by decide +kernel
theorem dX5_hour_27 : decode cX5_hour 27 = .ok (.aload_n 0, 1) := by decide +kernel
theorem dX5_hour_28 : decode cX5_hour 28 = .ok (.getfield 11, 3) := by decide +kernel
theorem dX5_hour_31 : decode cX5_hour 31 = .ok (.aload_n 0, 1) := by decide +kernel
theorem dX5_hour_32 : decode cX5_hour 32 = .ok (.getfield 25, 3) := by decide +kernel
theorem dX5_hour_35 : decode cX5_hour 35 = .ok (.iconst 1, 1) := by decide +kernel
theorem dX5_hour_36 : decode cX5_hour 36 = .ok (.iadd, 1) := by decide +kernel
theorem dX5_hour_37 : decode cX5_hour 37 = .ok (.baload, 1) := by decide +kernel
theorem dX5_hour_38 : decode cX5_hour 38 = .ok (.bipush 48, 2) := by decide +kernel
theorem dX5_hour_40 : decode cX5_hour 40 = .ok (.if_icmp .lt 37, 3) := by decide +kernel
theorem dX5_hour_43 : decode cX5_hour 43 = .ok (.aload_n 0, 1) := by decide +kernel
theorem dX5_hour_44 : decode cX5_hour 44 = .ok (.getfield 11, 3) := by decide +kernel
theorem dX5_hour_47 : decode cX5_hour 47 = .ok (.aload_n 0, 1) := by decide +kernel
theorem dX5_hour_48 : decode cX5_hour 48 = .ok (.getfield 25, 3) := by decide +kernel
theorem dX5_hour_51 : decode cX5_hour 51 = .ok (.iconst 1, 1) := by decide +kernel
theorem dX5_hour_52 : decode cX5_hour 52 = .ok (.iadd, 1) := by decide +kernel
theorem dX5_hour_53 : decode cX5_hour 53 = .ok (.baload, 1) := by decide +kernel
theorem dX5_hour_54 : decode cX5_hour 54 = .ok (.bipush 57, 2) := by decide +kernel
theorem dX5_hour_56 : decode cX5_hour 56 = .ok (.if_icmp .gt 21, 3) := by decide +kernel
theorem dX5_hour_59 : decode cX5_hour 59 = .ok (.bipush 10, 2) := by decide +kernel
theorem dX5_hour_61 : decode cX5_hour 61 = .ok (.aload_n 0, 1) := by decide +kernel
theorem dX5_hour_62 : decode cX5_hour 62 = .ok (.getfield 11, 3) := by decide +kernel
theorem dX5_hour_65 : decode cX5_hour 65 = .ok (.aload_n 0, 1) := by decide +kernel
theorem dX5_hour_66 : decode cX5_hour 66 = .ok (.getfield 25, 3) := by decide +kernel
theorem dX5_hour_69 : decode cX5_hour 69 = .ok (.iconst 1, 1) := by decide +kernel
theorem dX5_hour_70 : decode cX5_hour 70 = .ok (.iadd, 1) := by decide +kernel
theorem dX5_hour_71 : decode cX5_hour 71 = .ok (.baload, 1) := by decide +kernel
theorem dX5_hour_72 : decode cX5_hour 72 = .ok (.iadd, 1) := by decide +kernel
theorem dX5_hour_73 : decode cX5_hour 73 = .ok (.bipush 48, 2) := by decide +kernel
theorem dX5_hour_75 : decode cX5_hour 75 = .ok (.isub, 1) := by decide +kernel
theorem dX5_hour_76 : decode cX5_hour 76 = .ok (.ireturn, 1) := by decide +kernel
theorem dX5_hour_77 : decode cX5_hour 77 = .ok (.aload_n 0, 1) := by decide +kernel
theorem dX5_hour_78 : decode cX5_hour 78 = .ok (.bipush 48, 2) := by decide +kernel
theorem dX5_hour_80 : decode cX5_hour 80 = .ok (.bipush 9, 2) := by decide +kernel
theorem dX5_hour_82 : decode cX5_hour 82 = .ok (.invokevirtual 40, 3) := by decide +kernel
theorem dX5_hour_85 : decode cX5_hour 85 = .ok (.ireturn, 1) := by decide +kernel
def gX5_hour_77 (s : Mem)  : Option Int32 :=
  (fX5_oneSign s (48 : Int32) (9 : Int32)).bind (fun y1 => some y1)
set_option maxRecDepth 4000 in
theorem jgX5_hour_77 {X : Scr} (d : Nat) (s : Mem)  {r : Int32} {w : Option Value} {s' : Mem} (hh : gX5_hour_77 s = some r) (hk : w = some (.int r) ∧ s = s') : J X MX5_hour (d + 1) 77 [some (.ref 12)] [] s w s' := by
  unfold gX5_hour_77 at hh
  refine J_aload_n (pc := 77) dX5_hour_77 rfl ?_
  refine J_bipush (pc := 78) dX5_hour_78 cb_48 ?_
  refine J_bipush (pc := 80) dX5_hour_80 cb_9 ?_
  obtain ⟨y1, hy1, hh⟩ := bd_some hh
  refine J_callVi (pc := 82) (M' := MX5_oneSign) (a := 12) (rest := []) (As := [.int (48 : Int32), .int (9 : Int32)]) (L0 := [some (.ref 12), some (.int (48 : Int32)), some (.int (9 : Int32)), none]) okX5_oneSign ovX5_oneSign mlX5_40 clX5 so12 rfl rfl (Nat.le_of_ble_eq_true rfl) dX5_hour_82 rfl (Nat.le_of_ble_eq_true rfl) (jX5_oneSign (X := X) d s (48 : Int32) (9 : Int32) hy1) ?_
  obtain rfl := Option.some.inj hh
  obtain ⟨rfl, rfl⟩ := hk
  exact J_ret (w := some (.int y1)) ⟨dX5_hour_85, _, rfl, rfl⟩
def fX5_hour (s : Mem)  : Option Int32 :=
  if ((s.1 12 3) - (s.1 12 2)) = (2 : Int32) then gd (s.1 12 2) 120 (if (s.1 13 (s.1 12 2).toNatClampNeg) = (49 : Int32) then gd ((s.1 12 2) + (1 : Int32)) 120 (if (s.1 13 ((s.1 12 2) + (1 : Int32)).toNatClampNeg) < (48 : Int32) then gX5_hour_77 s else gd ((s.1 12 2) + (1 : Int32)) 120 (if (57 : Int32) < (s.1 13 ((s.1 12 2) + (1 : Int32)).toNatClampNeg) then gX5_hour_77 s else gd ((s.1 12 2) + (1 : Int32)) 120 (some ((((10 : Int32) + (s.1 13 ((s.1 12 2) + (1 : Int32)).toNatClampNeg)) - (48 : Int32)))))) else gX5_hour_77 s) else gX5_hour_77 s
set_option maxRecDepth 4000 in
theorem jjX5_hour {X : Scr} (d : Nat) (s : Mem)  {r : Int32} {w : Option Value} {s' : Mem} (hh : fX5_hour s = some r) (hk : w = some (.int r) ∧ s = s') : J X MX5_hour (d + 1) 0 [some (.ref 12)] [] s w s' := by
  unfold fX5_hour at hh
  refine J_aload_n (pc := 0) dX5_hour_0 rfl ?_
  refine J_getI (pc := 1) (k := 3) flX5_19 so12 fk12_3 dX5_hour_1 ?_
  refine J_aload_n (pc := 4) dX5_hour_4 rfl ?_
  refine J_getI (pc := 5) (k := 2) flX5_25 so12 fk12_2 dX5_hour_5 ?_
  refine J_isub (pc := 8) dX5_hour_8 ?_
  refine J_iconst (pc := 9) dX5_hour_9 ci_2 ?_
  refine J_icmp_ne (pc := 10) 77 dX5_hour_10 (by decide) (fun c9 => ?_) (fun c9 => ?_)
  · replace hh := (if_neg c9).symm.trans hh
    exact jgX5_hour_77 d s hh hk
  · replace hh := (if_pos c9).symm.trans hh
    refine J_aload_n (pc := 13) dX5_hour_13 rfl ?_
    refine J_getR (pc := 14) (k := 0) flX5_11 so12 fk12_0 dX5_hour_14 ?_
    refine J_aload_n (pc := 17) dX5_hour_17 rfl ?_
    refine J_getI (pc := 18) (k := 2) flX5_25 so12 fk12_2 dX5_hour_18 ?_
    obtain ⟨h2, hh⟩ := gd_some hh
    refine J_bald (pc := 21) dX5_hour_21 sa13 h2 ?_
    refine J_bipush (pc := 22) dX5_hour_22 cb_49 ?_
    refine J_icmp_ne (pc := 24) 77 dX5_hour_24 (by decide) (fun c8 => ?_) (fun c8 => ?_)
    · replace hh := (if_neg c8).symm.trans hh
      exact jgX5_hour_77 d s hh hk
    · replace hh := (if_pos c8).symm.trans hh
      refine J_aload_n (pc := 27) dX5_hour_27 rfl ?_
      refine J_getR (pc := 28) (k := 0) flX5_11 so12 fk12_0 dX5_hour_28 ?_
      refine J_aload_n (pc := 31) dX5_hour_31 rfl ?_
      refine J_getI (pc := 32) (k := 2) flX5_25 so12 fk12_2 dX5_hour_32 ?_
      refine J_iconst (pc := 35) dX5_hour_35 ci_1 ?_
      refine J_iadd (pc := 36) dX5_hour_36 ?_
      obtain ⟨h3, hh⟩ := gd_some hh
      refine J_bald (pc := 37) dX5_hour_37 sa13 h3 ?_
      refine J_bipush (pc := 38) dX5_hour_38 cb_48 ?_
      refine J_icmp_lt (pc := 40) 77 dX5_hour_40 (by decide) (fun c7 => ?_) (fun c7 => ?_)
      · replace hh := (if_pos c7).symm.trans hh
        exact jgX5_hour_77 d s hh hk
      · replace hh := (if_neg c7).symm.trans hh
        refine J_aload_n (pc := 43) dX5_hour_43 rfl ?_
        refine J_getR (pc := 44) (k := 0) flX5_11 so12 fk12_0 dX5_hour_44 ?_
        refine J_aload_n (pc := 47) dX5_hour_47 rfl ?_
        refine J_getI (pc := 48) (k := 2) flX5_25 so12 fk12_2 dX5_hour_48 ?_
        refine J_iconst (pc := 51) dX5_hour_51 ci_1 ?_
        refine J_iadd (pc := 52) dX5_hour_52 ?_
        obtain ⟨h4, hh⟩ := gd_some hh
        refine J_bald (pc := 53) dX5_hour_53 sa13 h4 ?_
        refine J_bipush (pc := 54) dX5_hour_54 cb_57 ?_
        refine J_icmp_gt (pc := 56) 77 dX5_hour_56 (by decide) (fun c6 => ?_) (fun c6 => ?_)
        · replace hh := (if_pos c6).symm.trans hh
          exact jgX5_hour_77 d s hh hk
        · replace hh := (if_neg c6).symm.trans hh
          refine J_bipush (pc := 59) dX5_hour_59 cb_10 ?_
          refine J_aload_n (pc := 61) dX5_hour_61 rfl ?_
          refine J_getR (pc := 62) (k := 0) flX5_11 so12 fk12_0 dX5_hour_62 ?_
          refine J_aload_n (pc := 65) dX5_hour_65 rfl ?_
          refine J_getI (pc := 66) (k := 2) flX5_25 so12 fk12_2 dX5_hour_66 ?_
          refine J_iconst (pc := 69) dX5_hour_69 ci_1 ?_
          refine J_iadd (pc := 70) dX5_hour_70 ?_
          obtain ⟨h5, hh⟩ := gd_some hh
          refine J_bald (pc := 71) dX5_hour_71 sa13 h5 ?_
          refine J_iadd (pc := 72) dX5_hour_72 ?_
          refine J_bipush (pc := 73) dX5_hour_73 cb_48 ?_
          refine J_isub (pc := 75) dX5_hour_75 ?_
          obtain rfl := Option.some.inj hh
          obtain ⟨rfl, rfl⟩ := hk
          exact J_ret (w := some (.int (((10 : Int32) + (s.1 13 ((s.1 12 2) + (1 : Int32)).toNatClampNeg)) - (48 : Int32)))) ⟨dX5_hour_76, _, rfl, rfl⟩
theorem jX5_hour {X : Scr} (d : Nat) (s : Mem)  {r : Int32} (hh : fX5_hour s = some r) : J X MX5_hour (d + 1) 0 [some (.ref 12)] [] s (some (.int r)) s := jjX5_hour d s hh ⟨rfl, rfl⟩
theorem dX5_letter_0 : decode cX5_letter 0 = .ok (.aload_n 0, 1) := by decide +kernel
theorem dX5_letter_1 : decode cX5_letter 1 = .ok (.bipush 97, 2) := by decide +kernel
theorem dX5_letter_3 : decode cX5_letter 3 = .ok (.iconst 3, 1) := by decide +kernel
theorem dX5_letter_4 : decode cX5_letter 4 = .ok (.invokevirtual 40, 3) := by decide +kernel
theorem dX5_letter_7 : decode cX5_letter 7 = .ok (.ireturn, 1) := by decide +kernel
def fX5_letter (s : Mem)  : Option Int32 :=
  (fX5_oneSign s (97 : Int32) (3 : Int32)).bind (fun y1 => some y1)
set_option maxRecDepth 4000 in
theorem jjX5_letter {X : Scr} (d : Nat) (s : Mem)  {r : Int32} {w : Option Value} {s' : Mem} (hh : fX5_letter s = some r) (hk : w = some (.int r) ∧ s = s') : J X MX5_letter (d + 1) 0 [some (.ref 12)] [] s w s' := by
  unfold fX5_letter at hh
  refine J_aload_n (pc := 0) dX5_letter_0 rfl ?_
  refine J_bipush (pc := 1) dX5_letter_1 cb_97 ?_
  refine J_iconst (pc := 3) dX5_letter_3 ci_3 ?_
  obtain ⟨y1, hy1, hh⟩ := bd_some hh
  refine J_callVi (pc := 4) (M' := MX5_oneSign) (a := 12) (rest := []) (As := [.int (97 : Int32), .int (3 : Int32)]) (L0 := [some (.ref 12), some (.int (97 : Int32)), some (.int (3 : Int32)), none]) okX5_oneSign ovX5_oneSign mlX5_40 clX5 so12 rfl rfl (Nat.le_of_ble_eq_true rfl) dX5_letter_4 rfl (Nat.le_of_ble_eq_true rfl) (jX5_oneSign (X := X) d s (97 : Int32) (3 : Int32) hy1) ?_
  obtain rfl := Option.some.inj hh
  obtain ⟨rfl, rfl⟩ := hk
  exact J_ret (w := some (.int y1)) ⟨dX5_letter_7, _, rfl, rfl⟩
theorem jX5_letter {X : Scr} (d : Nat) (s : Mem)  {r : Int32} (hh : fX5_letter s = some r) : J X MX5_letter (d + 1) 0 [some (.ref 12)] [] s (some (.int r)) s := jjX5_letter d s hh ⟨rfl, rfl⟩
theorem dX5_readSemicolon_0 : decode cX5_readSemicolon 0 = .ok (.aload_n 0, 1) := by decide +kernel
theorem dX5_readSemicolon_1 : decode cX5_readSemicolon 1 = .ok (.ldc 44, 2) := by decide +kernel
theorem dX5_readSemicolon_3 : decode cX5_readSemicolon 3 = .ok (.invokevirtual 46, 3) := by decide +kernel
theorem dX5_readSemicolon_6 : decode cX5_readSemicolon 6 = .ok (.ifCond .ne 5, 3) := by decide +kernel
theorem dX5_readSemicolon_9 : decode cX5_readSemicolon 9 = .ok (.iconst 0, 1) := by decide +kernel
theorem dX5_readSemicolon_10 : decode cX5_readSemicolon 10 = .ok (.ireturn, 1) := by decide +kernel
theorem dX5_readSemicolon_11 : decode cX5_readSemicolon 11 = .ok (.aload_n 0, 1) := by decide +kernel
theorem dX5_readSemicolon_12 : decode cX5_readSemicolon 12 = .ok (.invokevirtual 22, 3) := by decide +kernel
theorem dX5_readSemicolon_15 : decode cX5_readSemicolon 15 = .ok (.iconst 1, 1) := by decide +kernel
theorem dX5_readSemicolon_16 : decode cX5_readSemicolon 16 = .ok (.ireturn, 1) := by decide +kernel
def fX5_readSemicolon (s : Mem)  : Option (Int32 × Mem) :=
  (fX5_says s 13).bind (fun y1 => if y1 = (0 : Int32) then some (((0 : Int32), s)) else (fX5_nextWord s).bind (fun y2 => some (((1 : Int32), y2))))
set_option maxRecDepth 4000 in
theorem jjX5_readSemicolon {X : Scr} (d : Nat) (s : Mem)  {r : (Int32 × Mem)} {w : Option Value} {s' : Mem} (hh : fX5_readSemicolon s = some r) (hk : w = some (.int r.1) ∧ r.2 = s') : J X MX5_readSemicolon (d + 6) 0 [some (.ref 12)] [] s w s' := by
  unfold fX5_readSemicolon at hh
  refine J_aload_n (pc := 0) dX5_readSemicolon_0 rfl ?_
  refine J_ldcS (pc := 1) (i := 13) sl13 dX5_readSemicolon_1 ?_
  obtain ⟨y1, hy1, hh⟩ := bd_some hh
  refine J_callVi (pc := 3) (M' := MX5_says) (a := 12) (rest := []) (As := [.ref (1000 + 13)]) (L0 := [some (.ref 12), some (.ref (1000 + 13)), none]) okX5_says ovX5_says mlX5_46 clX5 so12 rfl rfl (Nat.le_of_ble_eq_true rfl) dX5_readSemicolon_3 rfl (Nat.le_of_ble_eq_true rfl) (jX5_says (X := X) d s 13 hy1) ?_
  refine J_if_ne (pc := 6) 11 dX5_readSemicolon_6 (by decide) (fun c3 => ?_) (fun c3 => ?_)
  · replace hh := (if_neg c3).symm.trans hh
    refine J_aload_n (pc := 11) dX5_readSemicolon_11 rfl ?_
    obtain ⟨y2, hy2, hh⟩ := bd_some hh
    refine J_callV0 (pc := 12) (M' := MX5_nextWord) (a := 12) (rest := []) (As := []) (L0 := [some (.ref 12)]) okX5_nextWord ovX5_nextWord mlX5_22 clX5 so12 rfl rfl (Nat.le_of_ble_eq_true rfl) dX5_readSemicolon_12 rfl (Nat.le_of_ble_eq_true rfl) (jX5_nextWord (X := X) (d + 5) s hy2) ?_
    refine J_iconst (pc := 15) dX5_readSemicolon_15 ci_1 ?_
    obtain rfl := Option.some.inj hh
    obtain ⟨rfl, rfl⟩ := hk
    exact J_ret (w := some (.int (1 : Int32))) ⟨dX5_readSemicolon_16, _, rfl, rfl⟩
  · replace hh := (if_pos c3).symm.trans hh
    refine J_iconst (pc := 9) dX5_readSemicolon_9 ci_0 ?_
    obtain rfl := Option.some.inj hh
    obtain ⟨rfl, rfl⟩ := hk
    exact J_ret (w := some (.int (0 : Int32))) ⟨dX5_readSemicolon_10, _, rfl, rfl⟩
theorem jX5_readSemicolon {X : Scr} (d : Nat) (s : Mem)  {r : (Int32 × Mem)} (hh : fX5_readSemicolon s = some r) : J X MX5_readSemicolon (d + 6) 0 [some (.ref 12)] [] s (some (.int r.1)) r.2 := jjX5_readSemicolon d s hh ⟨rfl, rfl⟩
theorem dX5_readSet_0 : decode cX5_readSet 0 = .ok (.aload_n 0, 1) := by decide +kernel
theorem dX5_readSet_1 : decode cX5_readSet 1 = .ok (.iconst 0, 1) := by decide +kernel
theorem dX5_readSet_2 : decode cX5_readSet 2 = .ok (.putfield 90, 3) := by decide +kernel
theorem dX5_readSet_5 : decode cX5_readSet 5 = .ok (.iload_n 1, 1) := by decide +kernel
theorem dX5_readSet_6 : decode cX5_readSet 6 = .ok (.ifCond .eq 10, 3) := by decide +kernel
theorem dX5_readSet_9 : decode cX5_readSet 9 = .ok (.aload_n 0, 1) := by decide +kernel
theorem dX5_readSet_10 : decode cX5_readSet 10 = .ok (.invokevirtual 113, 3) := by decide +kernel
theorem dX5_readSet_13 : decode cX5_readSet 13 = .ok (.goto 7, 3) := by decide +kernel
theorem dX5_readSet_16 : decode cX5_readSet 16 = .ok (.aload_n 0, 1) := by decide +kernel
theorem dX5_readSet_17 : decode cX5_readSet 17 = .ok (.invokevirtual 95, 3) := by decide +kernel
theorem dX5_readSet_20 : decode cX5_readSet 20 = .ok (.istore_n 2, 1) := by decide +kernel
theorem dX5_readSet_21 : decode cX5_readSet 21 = .ok (.iconst 0, 1) := by decide +kernel
theorem dX5_readSet_22 : decode cX5_readSet 22 = .ok (.istore_n 3, 1) := by decide +kernel
theorem dX5_readSet_23 : decode cX5_readSet 23 = .ok (.iload_n 3, 1) := by decide +kernel
theorem dX5_readSet_24 : decode cX5_readSet 24 = .ok (.bipush 120, 2) := by decide +kernel
theorem dX5_readSet_26 : decode cX5_readSet 26 = .ok (.if_icmp .ge 45, 3) := by decide +kernel
theorem dX5_readSet_29 : decode cX5_readSet 29 = .ok (.iload_n 2, 1) := by decide +kernel
theorem dX5_readSet_30 : decode cX5_readSet 30 = .ok (.ifCond .lt 41, 3) := by decide +kernel
theorem dX5_readSet_33 : decode cX5_readSet 33 = .ok (.aload_n 0, 1) := by decide +kernel
theorem dX5_readSet_34 : decode cX5_readSet 34 = .ok (.dup, 1) := by decide +kernel
theorem dX5_readSet_35 : decode cX5_readSet 35 = .ok (.getfield 90, 3) := by decide +kernel
theorem dX5_readSet_38 : decode cX5_readSet 38 = .ok (.iconst 1, 1) := by decide +kernel
theorem dX5_readSet_39 : decode cX5_readSet 39 = .ok (.iload_n 2, 1) := by decide +kernel
theorem dX5_readSet_40 : decode cX5_readSet 40 = .ok (.ishl, 1) := by decide +kernel
theorem dX5_readSet_41 : decode cX5_readSet 41 = .ok (.ior, 1) := by decide +kernel
theorem dX5_readSet_42 : decode cX5_readSet 42 = .ok (.putfield 90, 3) := by decide +kernel
theorem dX5_readSet_45 : decode cX5_readSet 45 = .ok (.aload_n 0, 1) := by decide +kernel
theorem dX5_readSet_46 : decode cX5_readSet 46 = .ok (.invokevirtual 22, 3) := by decide +kernel
theorem dX5_readSet_49 : decode cX5_readSet 49 = .ok (.iload_n 1, 1) := by decide +kernel
theorem dX5_readSet_50 : decode cX5_readSet 50 = .ok (.ifCond .eq 10, 3) := by decide +kernel
theorem dX5_readSet_53 : decode cX5_readSet 53 = .ok (.aload_n 0, 1) := by decide +kernel
theorem dX5_readSet_54 : decode cX5_readSet 54 = .ok (.invokevirtual 113, 3) := by decide +kernel
theorem dX5_readSet_57 : decode cX5_readSet 57 = .ok (.goto 7, 3) := by decide +kernel
theorem dX5_readSet_60 : decode cX5_readSet 60 = .ok (.aload_n 0, 1) := by decide +kernel
theorem dX5_readSet_61 : decode cX5_readSet 61 = .ok (.invokevirtual 95, 3) := by decide +kernel
theorem dX5_readSet_64 : decode cX5_readSet 64 = .ok (.istore_n 2, 1) := by decide +kernel
theorem dX5_readSet_65 : decode cX5_readSet 65 = .ok (.iinc 3 1, 3) := by decide +kernel
theorem dX5_readSet_68 : decode cX5_readSet 68 = .ok (.goto (-45), 3) := by decide +kernel
theorem dX5_readSet_71 : decode cX5_readSet 71 = .ok (.aload_n 0, 1) := by decide +kernel
theorem dX5_readSet_72 : decode cX5_readSet 72 = .ok (.getfield 90, 3) := by decide +kernel
theorem dX5_readSet_75 : decode cX5_readSet 75 = .ok (.ifCond .eq 7, 3) := by decide +kernel
theorem dX5_readSet_78 : decode cX5_readSet 78 = .ok (.iconst 1, 1) := by decide +kernel
theorem dX5_readSet_79 : decode cX5_readSet 79 = .ok (.goto 4, 3) := by decide +kernel
theorem dX5_readSet_82 : decode cX5_readSet 82 = .ok (.iconst 0, 1) := by decide +kernel
theorem dX5_readSet_83 : decode cX5_readSet 83 = .ok (.ireturn, 1) := by decide +kernel
def bX5_readSet_23 (s : Mem) (v1 : Int32) (v2 : Int32) (v3 : Int32) : Option (Mem ⊕ (Int32 × Int32 × Mem)) :=
  if (120 : Int32) ≤ v3 then some (Sum.inl s) else if v2 < (0 : Int32) then some (Sum.inl s) else lt (up2 s 12 5 ((s.1 12 5) ||| ((1 : Int32) <<< (v2 &&& 31)))) (fun s3 => (fX5_nextWord s3).bind (fun y4 => if v1 = (0 : Int32) then (fX5_letter y4).bind (fun y5 => lt (v3 + (1 : Int32)) (fun x6 => some (Sum.inr (y5, x6, y4)))) else (fX5_hour y4).bind (fun y7 => lt (v3 + (1 : Int32)) (fun x8 => some (Sum.inr (y7, x8, y4))))))
set_option maxRecDepth 4000 in
theorem jbX5_readSet_23 {X : Scr} (d : Nat) (s : Mem) (v1 : Int32) (v2 : Int32) (v3 : Int32) {r : (Mem ⊕ (Int32 × Int32 × Mem))} {w : Option Value} {s' : Mem} (hh : bX5_readSet_23 s v1 v2 v3 = some r) (hk : Sum.elim (fun t : Mem => J X MX5_readSet (d + 2) 71 [some (.ref 12), none, none, none] [] t w s') (fun a : (Int32 × Int32 × Mem) => J X MX5_readSet (d + 2) 23 [some (.ref 12), some (.int v1), some (.int a.1), some (.int a.2.1)] [] a.2.2 w s') r) : J X MX5_readSet (d + 2) 23 [some (.ref 12), some (.int v1), some (.int v2), some (.int v3)] [] s w s' := by
  unfold bX5_readSet_23 at hh
  refine J_iload_n (pc := 23) dX5_readSet_23 rfl ?_
  refine J_bipush (pc := 24) dX5_readSet_24 cb_120 ?_
  refine J_icmp_ge (pc := 26) 71 dX5_readSet_26 (by decide) (fun c11 => ?_) (fun c11 => ?_)
  · replace hh := (if_pos c11).symm.trans hh
    refine J_drop 1 (L' := [some (.ref 12), none, some (.int v2), some (.int v3)]) rfl ?_
    refine J_drop 2 (L' := [some (.ref 12), none, none, some (.int v3)]) rfl ?_
    refine J_drop 3 (L' := [some (.ref 12), none, none, none]) rfl ?_
    obtain rfl := Option.some.inj hh
    exact hk
  · replace hh := (if_neg c11).symm.trans hh
    refine J_iload_n (pc := 29) dX5_readSet_29 rfl ?_
    refine J_if_lt (pc := 30) 71 dX5_readSet_30 (by decide) (fun c10 => ?_) (fun c10 => ?_)
    · replace hh := (if_pos c10).symm.trans hh
      refine J_drop 1 (L' := [some (.ref 12), none, some (.int v2), some (.int v3)]) rfl ?_
      refine J_drop 2 (L' := [some (.ref 12), none, none, some (.int v3)]) rfl ?_
      refine J_drop 3 (L' := [some (.ref 12), none, none, none]) rfl ?_
      obtain rfl := Option.some.inj hh
      exact hk
    · replace hh := (if_neg c10).symm.trans hh
      refine J_aload_n (pc := 33) dX5_readSet_33 rfl ?_
      refine J_dup (pc := 34) dX5_readSet_34 rfl ?_
      refine J_getI (pc := 35) (k := 5) flX5_90 so12 fk12_5 dX5_readSet_35 ?_
      refine J_iconst (pc := 38) dX5_readSet_38 ci_1 ?_
      refine J_iload_n (pc := 39) dX5_readSet_39 rfl ?_
      refine J_ishl (pc := 40) dX5_readSet_40 ?_
      refine J_ior (pc := 41) dX5_readSet_41 ?_
      refine J_putIL (pc := 42) (k := 5) fpX5_90 so12 fk12_5 rfl rfl dX5_readSet_42 hh (fun s3 hh => ?_)
      refine J_aload_n (pc := 45) dX5_readSet_45 rfl ?_
      obtain ⟨y4, hy4, hh⟩ := bd_some hh
      refine J_callV0 (pc := 46) (M' := MX5_nextWord) (a := 12) (rest := []) (As := []) (L0 := [some (.ref 12)]) okX5_nextWord ovX5_nextWord mlX5_22 clX5 so12 rfl rfl (Nat.le_of_ble_eq_true rfl) dX5_readSet_46 rfl (Nat.le_of_ble_eq_true rfl) (jX5_nextWord (X := X) (d + 1) s3 hy4) ?_
      refine J_iload_n (pc := 49) dX5_readSet_49 rfl ?_
      refine J_if_eq (pc := 50) 60 dX5_readSet_50 (by decide) (fun c9 => ?_) (fun c9 => ?_)
      · replace hh := (if_pos c9).symm.trans hh
        refine J_aload_n (pc := 60) dX5_readSet_60 rfl ?_
        obtain ⟨y5, hy5, hh⟩ := bd_some hh
        refine J_callVi (pc := 61) (M' := MX5_letter) (a := 12) (rest := []) (As := []) (L0 := [some (.ref 12)]) okX5_letter ovX5_letter mlX5_95 clX5 so12 rfl rfl (Nat.le_of_ble_eq_true rfl) dX5_readSet_61 rfl (Nat.le_of_ble_eq_true rfl) (jX5_letter (X := X) d y4 hy5) ?_
        refine J_istore_n (pc := 64) (L' := [some (.ref 12), some (.int v1), some (.int y5), some (.int v3)]) dX5_readSet_64 rfl (Nat.le_of_ble_eq_true rfl) rfl ?_
        refine J_iincL (pc := 65) (v := v3 + (1 : Int32)) (fun x6 => [some (.ref 12), some (.int v1), some (.int y5), some (.int x6)]) dX5_readSet_65 rfl rfl (Nat.le_of_ble_eq_true rfl) (congrArg _ ci_1) (fun _ => rfl) hh (fun x6 hh => ?_)
        refine J_goto (pc := 68) 23 dX5_readSet_68 (by decide) ?_
        obtain rfl := Option.some.inj hh
        exact hk
      · replace hh := (if_neg c9).symm.trans hh
        refine J_aload_n (pc := 53) dX5_readSet_53 rfl ?_
        obtain ⟨y7, hy7, hh⟩ := bd_some hh
        refine J_callVi (pc := 54) (M' := MX5_hour) (a := 12) (rest := []) (As := []) (L0 := [some (.ref 12)]) okX5_hour ovX5_hour mlX5_113 clX5 so12 rfl rfl (Nat.le_of_ble_eq_true rfl) dX5_readSet_54 rfl (Nat.le_of_ble_eq_true rfl) (jX5_hour (X := X) d y4 hy7) ?_
        refine J_goto (pc := 57) 64 dX5_readSet_57 (by decide) ?_
        refine J_istore_n (pc := 64) (L' := [some (.ref 12), some (.int v1), some (.int y7), some (.int v3)]) dX5_readSet_64 rfl (Nat.le_of_ble_eq_true rfl) rfl ?_
        refine J_iincL (pc := 65) (v := v3 + (1 : Int32)) (fun x8 => [some (.ref 12), some (.int v1), some (.int y7), some (.int x8)]) dX5_readSet_65 rfl rfl (Nat.le_of_ble_eq_true rfl) (congrArg _ ci_1) (fun _ => rfl) hh (fun x8 hh => ?_)
        refine J_goto (pc := 68) 23 dX5_readSet_68 (by decide) ?_
        obtain rfl := Option.some.inj hh
        exact hk
def gX5_readSet_20 (s : Mem) (v1 : Int32) (k0 : Int32) : Option (Int32 × Mem) :=
  (lp (fun a => bX5_readSet_23 a.2.2 v1 a.1 a.2.1) 600 (k0, (0 : Int32), s)).bind (fun y12 => if (y12.1 12 5) = (0 : Int32) then some (((0 : Int32), y12)) else some (((1 : Int32), y12)))
set_option maxRecDepth 4000 in
theorem jgX5_readSet_20 {X : Scr} (d : Nat) (s : Mem) (v1 : Int32) (k0 : Int32) {r : (Int32 × Mem)} {w : Option Value} {s' : Mem} (hh : gX5_readSet_20 s v1 k0 = some r) (hk : w = some (.int r.1) ∧ r.2 = s') : J X MX5_readSet (d + 2) 20 [some (.ref 12), some (.int v1), none, none] [.int k0] s w s' := by
  unfold gX5_readSet_20 at hh
  refine J_istore_n (pc := 20) (L' := [some (.ref 12), some (.int v1), some (.int k0), none]) dX5_readSet_20 rfl (Nat.le_of_ble_eq_true rfl) rfl ?_
  refine J_iconst (pc := 21) dX5_readSet_21 ci_0 ?_
  refine J_istore_n (pc := 22) (L' := [some (.ref 12), some (.int v1), some (.int k0), some (.int (0 : Int32))]) dX5_readSet_22 rfl (Nat.le_of_ble_eq_true rfl) rfl ?_
  obtain ⟨y12, hy12, hh⟩ := bd_some hh
  refine J_lp (a := (k0, (0 : Int32), s)) (fun a : (Int32 × Int32 × Mem) => J X MX5_readSet (d + 2) 23 [some (.ref 12), some (.int v1), some (.int a.1), some (.int a.2.1)] [] a.2.2 w s') (fun t : Mem => J X MX5_readSet (d + 2) 71 [some (.ref 12), none, none, none] [] t w s') (fun a q h1 h2 => jbX5_readSet_23 d a.2.2 v1 a.1 a.2.1 h1 h2) hy12 ?_
  refine J_aload_n (pc := 71) dX5_readSet_71 rfl ?_
  refine J_getI (pc := 72) (k := 5) flX5_90 so12 fk12_5 dX5_readSet_72 ?_
  refine J_if_eq (pc := 75) 82 dX5_readSet_75 (by decide) (fun c13 => ?_) (fun c13 => ?_)
  · replace hh := (if_pos c13).symm.trans hh
    refine J_iconst (pc := 82) dX5_readSet_82 ci_0 ?_
    obtain rfl := Option.some.inj hh
    obtain ⟨rfl, rfl⟩ := hk
    exact J_ret (w := some (.int (0 : Int32))) ⟨dX5_readSet_83, _, rfl, rfl⟩
  · replace hh := (if_neg c13).symm.trans hh
    refine J_iconst (pc := 78) dX5_readSet_78 ci_1 ?_
    refine J_goto (pc := 79) 83 dX5_readSet_79 (by decide) ?_
    obtain rfl := Option.some.inj hh
    obtain ⟨rfl, rfl⟩ := hk
    exact J_ret (w := some (.int (1 : Int32))) ⟨dX5_readSet_83, _, rfl, rfl⟩
def fX5_readSet (s : Mem) (p0 : Int32) : Option (Int32 × Mem) :=
  lt (up2 s 12 5 (0 : Int32)) (fun s1 => if p0 = (0 : Int32) then (fX5_letter s1).bind (fun y2 => gX5_readSet_20 s1 p0 y2) else (fX5_hour s1).bind (fun y14 => gX5_readSet_20 s1 p0 y14))
set_option maxRecDepth 4000 in
theorem jjX5_readSet {X : Scr} (d : Nat) (s : Mem) (p0 : Int32) {r : (Int32 × Mem)} {w : Option Value} {s' : Mem} (hh : fX5_readSet s p0 = some r) (hk : w = some (.int r.1) ∧ r.2 = s') : J X MX5_readSet (d + 2) 0 [some (.ref 12), some (.int p0), none, none] [] s w s' := by
  unfold fX5_readSet at hh
  refine J_aload_n (pc := 0) dX5_readSet_0 rfl ?_
  refine J_iconst (pc := 1) dX5_readSet_1 ci_0 ?_
  refine J_putIL (pc := 2) (k := 5) fpX5_90 so12 fk12_5 rfl rfl dX5_readSet_2 hh (fun s1 hh => ?_)
  refine J_iload_n (pc := 5) dX5_readSet_5 rfl ?_
  refine J_if_eq (pc := 6) 16 dX5_readSet_6 (by decide) (fun c15 => ?_) (fun c15 => ?_)
  · replace hh := (if_pos c15).symm.trans hh
    refine J_aload_n (pc := 16) dX5_readSet_16 rfl ?_
    obtain ⟨y2, hy2, hh⟩ := bd_some hh
    refine J_callVi (pc := 17) (M' := MX5_letter) (a := 12) (rest := []) (As := []) (L0 := [some (.ref 12)]) okX5_letter ovX5_letter mlX5_95 clX5 so12 rfl rfl (Nat.le_of_ble_eq_true rfl) dX5_readSet_17 rfl (Nat.le_of_ble_eq_true rfl) (jX5_letter (X := X) d s1 hy2) ?_
    exact jgX5_readSet_20 d s1 p0 y2 hh hk
  · replace hh := (if_neg c15).symm.trans hh
    refine J_aload_n (pc := 9) dX5_readSet_9 rfl ?_
    obtain ⟨y14, hy14, hh⟩ := bd_some hh
    refine J_callVi (pc := 10) (M' := MX5_hour) (a := 12) (rest := []) (As := []) (L0 := [some (.ref 12)]) okX5_hour ovX5_hour mlX5_113 clX5 so12 rfl rfl (Nat.le_of_ble_eq_true rfl) dX5_readSet_10 rfl (Nat.le_of_ble_eq_true rfl) (jX5_hour (X := X) d s1 hy14) ?_
    refine J_goto (pc := 13) 20 dX5_readSet_13 (by decide) ?_
    exact jgX5_readSet_20 d s1 p0 y14 hh hk
theorem jX5_readSet {X : Scr} (d : Nat) (s : Mem) (p0 : Int32) {r : (Int32 × Mem)} (hh : fX5_readSet s p0 = some r) : J X MX5_readSet (d + 2) 0 [some (.ref 12), some (.int p0), none, none] [] s (some (.int r.1)) r.2 := jjX5_readSet d s p0 hh ⟨rfl, rfl⟩
theorem dX5_readPupil_0 : decode cX5_readPupil 0 = .ok (.aload_n 0, 1) := by decide +kernel
theorem dX5_readPupil_1 : decode cX5_readPupil 1 = .ok (.iconst 0, 1) := by decide +kernel
theorem dX5_readPupil_2 : decode cX5_readPupil 2 = .ok (.putfield 78, 3) := by decide +kernel
theorem dX5_readPupil_5 : decode cX5_readPupil 5 = .ok (.aload_n 0, 1) := by decide +kernel
theorem dX5_readPupil_6 : decode cX5_readPupil 6 = .ok (.iconst 0, 1) := by decide +kernel
theorem dX5_readPupil_7 : decode cX5_readPupil 7 = .ok (.putfield 81, 3) := by decide +kernel
theorem dX5_readPupil_10 : decode cX5_readPupil 10 = .ok (.aload_n 0, 1) := by decide +kernel
theorem dX5_readPupil_11 : decode cX5_readPupil 11 = .ok (.invokevirtual 22, 3) := by decide +kernel
theorem dX5_readPupil_14 : decode cX5_readPupil 14 = .ok (.aload_n 0, 1) := by decide +kernel
theorem dX5_readPupil_15 : decode cX5_readPupil 15 = .ok (.ldc 84, 2) := by decide +kernel
theorem dX5_readPupil_17 : decode cX5_readPupil 17 = .ok (.invokevirtual 46, 3) := by decide +kernel
theorem dX5_readPupil_20 : decode cX5_readPupil 20 = .ok (.ifCond .eq 25, 3) := by decide +kernel
theorem dX5_readPupil_23 : decode cX5_readPupil 23 = .ok (.aload_n 0, 1) := by decide +kernel
theorem dX5_readPupil_24 : decode cX5_readPupil 24 = .ok (.invokevirtual 22, 3) := by decide +kernel
theorem dX5_readPupil_27 : decode cX5_readPupil 27 = .ok (.aload_n 0, 1) := by decide +kernel
theorem dX5_readPupil_28 : decode cX5_readPupil 28 = .ok (.iconst 1, 1) := by decide +kernel
theorem dX5_readPupil_29 : decode cX5_readPupil 29 = .ok (.invokevirtual 86, 3) := by decide +kernel
theorem dX5_readPupil_32 : decode cX5_readPupil 32 = .ok (.ifCond .ne 5, 3) := by decide +kernel
theorem dX5_readPupil_35 : decode cX5_readPupil 35 = .ok (.iconst 0, 1) := by decide +kernel
theorem dX5_readPupil_36 : decode cX5_readPupil 36 = .ok (.ireturn, 1) := by decide +kernel
theorem dX5_readPupil_37 : decode cX5_readPupil 37 = .ok (.aload_n 0, 1) := by decide +kernel
theorem dX5_readPupil_38 : decode cX5_readPupil 38 = .ok (.aload_n 0, 1) := by decide +kernel
theorem dX5_readPupil_39 : decode cX5_readPupil 39 = .ok (.getfield 90, 3) := by decide +kernel
theorem dX5_readPupil_42 : decode cX5_readPupil 42 = .ok (.putfield 78, 3) := by decide +kernel
theorem dX5_readPupil_45 : decode cX5_readPupil 45 = .ok (.aload_n 0, 1) := by decide +kernel
theorem dX5_readPupil_46 : decode cX5_readPupil 46 = .ok (.ldc 93, 2) := by decide +kernel
theorem dX5_readPupil_48 : decode cX5_readPupil 48 = .ok (.invokevirtual 46, 3) := by decide +kernel
theorem dX5_readPupil_51 : decode cX5_readPupil 51 = .ok (.ifCond .eq 25, 3) := by decide +kernel
theorem dX5_readPupil_54 : decode cX5_readPupil 54 = .ok (.aload_n 0, 1) := by decide +kernel
theorem dX5_readPupil_55 : decode cX5_readPupil 55 = .ok (.invokevirtual 22, 3) := by decide +kernel
theorem dX5_readPupil_58 : decode cX5_readPupil 58 = .ok (.aload_n 0, 1) := by decide +kernel
theorem dX5_readPupil_59 : decode cX5_readPupil 59 = .ok (.iconst 0, 1) := by decide +kernel
theorem dX5_readPupil_60 : decode cX5_readPupil 60 = .ok (.invokevirtual 86, 3) := by decide +kernel
theorem dX5_readPupil_63 : decode cX5_readPupil 63 = .ok (.ifCond .ne 5, 3) := by decide +kernel
theorem dX5_readPupil_66 : decode cX5_readPupil 66 = .ok (.iconst 0, 1) := by decide +kernel
theorem dX5_readPupil_67 : decode cX5_readPupil 67 = .ok (.ireturn, 1) := by decide +kernel
theorem dX5_readPupil_68 : decode cX5_readPupil 68 = .ok (.aload_n 0, 1) := by decide +kernel
theorem dX5_readPupil_69 : decode cX5_readPupil 69 = .ok (.aload_n 0, 1) := by decide +kernel
theorem dX5_readPupil_70 : decode cX5_readPupil 70 = .ok (.getfield 90, 3) := by decide +kernel
theorem dX5_readPupil_73 : decode cX5_readPupil 73 = .ok (.putfield 81, 3) := by decide +kernel
theorem dX5_readPupil_76 : decode cX5_readPupil 76 = .ok (.iconst 1, 1) := by decide +kernel
theorem dX5_readPupil_77 : decode cX5_readPupil 77 = .ok (.ireturn, 1) := by decide +kernel
def gX5_readPupil_45 (s : Mem)  : Option (Int32 × Mem) :=
  (fX5_says s 7).bind (fun y5 => if y5 = (0 : Int32) then some (((1 : Int32), s)) else (fX5_nextWord s).bind (fun y6 => (fX5_readSet y6 (0 : Int32)).bind (fun y7 => if y7.1 = (0 : Int32) then some (((0 : Int32), y7.2)) else lt (up2 y7.2 12 7 (y7.2.1 12 5)) (fun s8 => some (((1 : Int32), s8))))))
set_option maxRecDepth 4000 in
theorem jgX5_readPupil_45 {X : Scr} (d : Nat) (s : Mem)  {r : (Int32 × Mem)} {w : Option Value} {s' : Mem} (hh : gX5_readPupil_45 s = some r) (hk : w = some (.int r.1) ∧ r.2 = s') : J X MX5_readPupil (d + 6) 45 [some (.ref 12)] [] s w s' := by
  unfold gX5_readPupil_45 at hh
  refine J_aload_n (pc := 45) dX5_readPupil_45 rfl ?_
  refine J_ldcS (pc := 46) (i := 7) sl7 dX5_readPupil_46 ?_
  obtain ⟨y5, hy5, hh⟩ := bd_some hh
  refine J_callVi (pc := 48) (M' := MX5_says) (a := 12) (rest := []) (As := [.ref (1000 + 7)]) (L0 := [some (.ref 12), some (.ref (1000 + 7)), none]) okX5_says ovX5_says mlX5_46 clX5 so12 rfl rfl (Nat.le_of_ble_eq_true rfl) dX5_readPupil_48 rfl (Nat.le_of_ble_eq_true rfl) (jX5_says (X := X) d s 7 hy5) ?_
  refine J_if_eq (pc := 51) 76 dX5_readPupil_51 (by decide) (fun c10 => ?_) (fun c10 => ?_)
  · replace hh := (if_pos c10).symm.trans hh
    refine J_iconst (pc := 76) dX5_readPupil_76 ci_1 ?_
    obtain rfl := Option.some.inj hh
    obtain ⟨rfl, rfl⟩ := hk
    exact J_ret (w := some (.int (1 : Int32))) ⟨dX5_readPupil_77, _, rfl, rfl⟩
  · replace hh := (if_neg c10).symm.trans hh
    refine J_aload_n (pc := 54) dX5_readPupil_54 rfl ?_
    obtain ⟨y6, hy6, hh⟩ := bd_some hh
    refine J_callV0 (pc := 55) (M' := MX5_nextWord) (a := 12) (rest := []) (As := []) (L0 := [some (.ref 12)]) okX5_nextWord ovX5_nextWord mlX5_22 clX5 so12 rfl rfl (Nat.le_of_ble_eq_true rfl) dX5_readPupil_55 rfl (Nat.le_of_ble_eq_true rfl) (jX5_nextWord (X := X) (d + 5) s hy6) ?_
    refine J_aload_n (pc := 58) dX5_readPupil_58 rfl ?_
    refine J_iconst (pc := 59) dX5_readPupil_59 ci_0 ?_
    obtain ⟨y7, hy7, hh⟩ := bd_some hh
    refine J_callVi (pc := 60) (M' := MX5_readSet) (a := 12) (rest := []) (As := [.int (0 : Int32)]) (L0 := [some (.ref 12), some (.int (0 : Int32)), none, none]) okX5_readSet ovX5_readSet mlX5_86 clX5 so12 rfl rfl (Nat.le_of_ble_eq_true rfl) dX5_readPupil_60 rfl (Nat.le_of_ble_eq_true rfl) (jX5_readSet (X := X) (d + 3) y6 (0 : Int32) hy7) ?_
    refine J_if_ne (pc := 63) 68 dX5_readPupil_63 (by decide) (fun c9 => ?_) (fun c9 => ?_)
    · replace hh := (if_neg c9).symm.trans hh
      refine J_aload_n (pc := 68) dX5_readPupil_68 rfl ?_
      refine J_aload_n (pc := 69) dX5_readPupil_69 rfl ?_
      refine J_getI (pc := 70) (k := 5) flX5_90 so12 fk12_5 dX5_readPupil_70 ?_
      refine J_putIL (pc := 73) (k := 7) fpX5_81 so12 fk12_7 rfl rfl dX5_readPupil_73 hh (fun s8 hh => ?_)
      refine J_iconst (pc := 76) dX5_readPupil_76 ci_1 ?_
      obtain rfl := Option.some.inj hh
      obtain ⟨rfl, rfl⟩ := hk
      exact J_ret (w := some (.int (1 : Int32))) ⟨dX5_readPupil_77, _, rfl, rfl⟩
    · replace hh := (if_pos c9).symm.trans hh
      refine J_iconst (pc := 66) dX5_readPupil_66 ci_0 ?_
      obtain rfl := Option.some.inj hh
      obtain ⟨rfl, rfl⟩ := hk
      exact J_ret (w := some (.int (0 : Int32))) ⟨dX5_readPupil_67, _, rfl, rfl⟩
def fX5_readPupil (s : Mem)  : Option (Int32 × Mem) :=
  lt (up2 s 12 11 (0 : Int32)) (fun s1 => lt (up2 s1 12 7 (0 : Int32)) (fun s2 => (fX5_nextWord s2).bind (fun y3 => (fX5_says y3 6).bind (fun y4 => if y4 = (0 : Int32) then gX5_readPupil_45 y3 else (fX5_nextWord y3).bind (fun y11 => (fX5_readSet y11 (1 : Int32)).bind (fun y12 => if y12.1 = (0 : Int32) then some (((0 : Int32), y12.2)) else lt (up2 y12.2 12 11 (y12.2.1 12 5)) (fun s13 => gX5_readPupil_45 s13)))))))
set_option maxRecDepth 4000 in
theorem jjX5_readPupil {X : Scr} (d : Nat) (s : Mem)  {r : (Int32 × Mem)} {w : Option Value} {s' : Mem} (hh : fX5_readPupil s = some r) (hk : w = some (.int r.1) ∧ r.2 = s') : J X MX5_readPupil (d + 6) 0 [some (.ref 12)] [] s w s' := by
  unfold fX5_readPupil at hh
  refine J_aload_n (pc := 0) dX5_readPupil_0 rfl ?_
  refine J_iconst (pc := 1) dX5_readPupil_1 ci_0 ?_
  refine J_putIL (pc := 2) (k := 11) fpX5_78 so12 fk12_11 rfl rfl dX5_readPupil_2 hh (fun s1 hh => ?_)
  refine J_aload_n (pc := 5) dX5_readPupil_5 rfl ?_
  refine J_iconst (pc := 6) dX5_readPupil_6 ci_0 ?_
  refine J_putIL (pc := 7) (k := 7) fpX5_81 so12 fk12_7 rfl rfl dX5_readPupil_7 hh (fun s2 hh => ?_)
  refine J_aload_n (pc := 10) dX5_readPupil_10 rfl ?_
  obtain ⟨y3, hy3, hh⟩ := bd_some hh
  refine J_callV0 (pc := 11) (M' := MX5_nextWord) (a := 12) (rest := []) (As := []) (L0 := [some (.ref 12)]) okX5_nextWord ovX5_nextWord mlX5_22 clX5 so12 rfl rfl (Nat.le_of_ble_eq_true rfl) dX5_readPupil_11 rfl (Nat.le_of_ble_eq_true rfl) (jX5_nextWord (X := X) (d + 5) s2 hy3) ?_
  refine J_aload_n (pc := 14) dX5_readPupil_14 rfl ?_
  refine J_ldcS (pc := 15) (i := 6) sl6 dX5_readPupil_15 ?_
  obtain ⟨y4, hy4, hh⟩ := bd_some hh
  refine J_callVi (pc := 17) (M' := MX5_says) (a := 12) (rest := []) (As := [.ref (1000 + 6)]) (L0 := [some (.ref 12), some (.ref (1000 + 6)), none]) okX5_says ovX5_says mlX5_46 clX5 so12 rfl rfl (Nat.le_of_ble_eq_true rfl) dX5_readPupil_17 rfl (Nat.le_of_ble_eq_true rfl) (jX5_says (X := X) d y3 6 hy4) ?_
  refine J_if_eq (pc := 20) 45 dX5_readPupil_20 (by decide) (fun c15 => ?_) (fun c15 => ?_)
  · replace hh := (if_pos c15).symm.trans hh
    exact jgX5_readPupil_45 d y3 hh hk
  · replace hh := (if_neg c15).symm.trans hh
    refine J_aload_n (pc := 23) dX5_readPupil_23 rfl ?_
    obtain ⟨y11, hy11, hh⟩ := bd_some hh
    refine J_callV0 (pc := 24) (M' := MX5_nextWord) (a := 12) (rest := []) (As := []) (L0 := [some (.ref 12)]) okX5_nextWord ovX5_nextWord mlX5_22 clX5 so12 rfl rfl (Nat.le_of_ble_eq_true rfl) dX5_readPupil_24 rfl (Nat.le_of_ble_eq_true rfl) (jX5_nextWord (X := X) (d + 5) y3 hy11) ?_
    refine J_aload_n (pc := 27) dX5_readPupil_27 rfl ?_
    refine J_iconst (pc := 28) dX5_readPupil_28 ci_1 ?_
    obtain ⟨y12, hy12, hh⟩ := bd_some hh
    refine J_callVi (pc := 29) (M' := MX5_readSet) (a := 12) (rest := []) (As := [.int (1 : Int32)]) (L0 := [some (.ref 12), some (.int (1 : Int32)), none, none]) okX5_readSet ovX5_readSet mlX5_86 clX5 so12 rfl rfl (Nat.le_of_ble_eq_true rfl) dX5_readPupil_29 rfl (Nat.le_of_ble_eq_true rfl) (jX5_readSet (X := X) (d + 3) y11 (1 : Int32) hy12) ?_
    refine J_if_ne (pc := 32) 37 dX5_readPupil_32 (by decide) (fun c14 => ?_) (fun c14 => ?_)
    · replace hh := (if_neg c14).symm.trans hh
      refine J_aload_n (pc := 37) dX5_readPupil_37 rfl ?_
      refine J_aload_n (pc := 38) dX5_readPupil_38 rfl ?_
      refine J_getI (pc := 39) (k := 5) flX5_90 so12 fk12_5 dX5_readPupil_39 ?_
      refine J_putIL (pc := 42) (k := 11) fpX5_78 so12 fk12_11 rfl rfl dX5_readPupil_42 hh (fun s13 hh => ?_)
      exact jgX5_readPupil_45 d s13 hh hk
    · replace hh := (if_pos c14).symm.trans hh
      refine J_iconst (pc := 35) dX5_readPupil_35 ci_0 ?_
      obtain rfl := Option.some.inj hh
      obtain ⟨rfl, rfl⟩ := hk
      exact J_ret (w := some (.int (0 : Int32))) ⟨dX5_readPupil_36, _, rfl, rfl⟩
theorem jX5_readPupil {X : Scr} (d : Nat) (s : Mem)  {r : (Int32 × Mem)} (hh : fX5_readPupil s = some r) : J X MX5_readPupil (d + 6) 0 [some (.ref 12)] [] s (some (.int r.1)) r.2 := jjX5_readPupil d s hh ⟨rfl, rfl⟩
theorem dX5_readSection_0 : decode cX5_readSection 0 = .ok (.aload_n 0, 1) := by decide +kernel
theorem dX5_readSection_1 : decode cX5_readSection 1 = .ok (.invokevirtual 22, 3) := by decide +kernel
theorem dX5_readSection_4 : decode cX5_readSection 4 = .ok (.aload_n 0, 1) := by decide +kernel
theorem dX5_readSection_5 : decode cX5_readSection 5 = .ok (.aload_n 0, 1) := by decide +kernel
theorem dX5_readSection_6 : decode cX5_readSection 6 = .ok (.invokevirtual 95, 3) := by decide +kernel
theorem dX5_readSection_9 : decode cX5_readSection 9 = .ok (.putfield 98, 3) := by decide +kernel
theorem dX5_readSection_12 : decode cX5_readSection 12 = .ok (.aload_n 0, 1) := by decide +kernel
theorem dX5_readSection_13 : decode cX5_readSection 13 = .ok (.getfield 98, 3) := by decide +kernel
theorem dX5_readSection_16 : decode cX5_readSection 16 = .ok (.ifCond .ge 5, 3) := by decide +kernel
theorem dX5_readSection_19 : decode cX5_readSection 19 = .ok (.iconst 0, 1) := by decide +kernel
theorem dX5_readSection_20 : decode cX5_readSection 20 = .ok (.ireturn, 1) := by decide +kernel
theorem dX5_readSection_21 : decode cX5_readSection 21 = .ok (.aload_n 0, 1) := by decide +kernel
theorem dX5_readSection_22 : decode cX5_readSection 22 = .ok (.invokevirtual 22, 3) := by decide +kernel
theorem dX5_readSection_25 : decode cX5_readSection 25 = .ok (.aload_n 0, 1) := by decide +kernel
theorem dX5_readSection_26 : decode cX5_readSection 26 = .ok (.aload_n 0, 1) := by decide +kernel
theorem dX5_readSection_27 : decode cX5_readSection 27 = .ok (.bipush 48, 2) := by decide +kernel
theorem dX5_readSection_29 : decode cX5_readSection 29 = .ok (.iconst 1, 1) := by decide +kernel
theorem dX5_readSection_30 : decode cX5_readSection 30 = .ok (.invokevirtual 40, 3) := by decide +kernel
theorem dX5_readSection_33 : decode cX5_readSection 33 = .ok (.putfield 101, 3) := by decide +kernel
theorem dX5_readSection_36 : decode cX5_readSection 36 = .ok (.aload_n 0, 1) := by decide +kernel
theorem dX5_readSection_37 : decode cX5_readSection 37 = .ok (.getfield 101, 3) := by decide +kernel
theorem dX5_readSection_40 : decode cX5_readSection 40 = .ok (.ifCond .ge 5, 3) := by decide +kernel
theorem dX5_readSection_43 : decode cX5_readSection 43 = .ok (.iconst 0, 1) := by decide +kernel
theorem dX5_readSection_44 : decode cX5_readSection 44 = .ok (.ireturn, 1) := by decide +kernel
theorem dX5_readSection_45 : decode cX5_readSection 45 = .ok (.aload_n 0, 1) := by decide +kernel
theorem dX5_readSection_46 : decode cX5_readSection 46 = .ok (.invokevirtual 22, 3) := by decide +kernel
theorem dX5_readSection_49 : decode cX5_readSection 49 = .ok (.aload_n 0, 1) := by decide +kernel
theorem dX5_readSection_50 : decode cX5_readSection 50 = .ok (.iconst 1, 1) := by decide +kernel
theorem dX5_readSection_51 : decode cX5_readSection 51 = .ok (.invokevirtual 86, 3) := by decide +kernel
theorem dX5_readSection_54 : decode cX5_readSection 54 = .ok (.ifCond .eq 12, 3) := by decide +kernel
theorem dX5_readSection_57 : decode cX5_readSection 57 = .ok (.aload_n 0, 1) := by decide +kernel
theorem dX5_readSection_58 : decode cX5_readSection 58 = .ok (.ldc 104, 2) := by decide +kernel
theorem dX5_readSection_60 : decode cX5_readSection 60 = .ok (.invokevirtual 46, 3) := by decide +kernel
theorem dX5_readSection_63 : decode cX5_readSection 63 = .ok (.ifCond .ne 5, 3) := by decide +kernel
theorem dX5_readSection_66 : decode cX5_readSection 66 = .ok (.iconst 0, 1) := by decide +kernel
theorem dX5_readSection_67 : decode cX5_readSection 67 = .ok (.ireturn, 1) := by decide +kernel
theorem dX5_readSection_68 : decode cX5_readSection 68 = .ok (.aload_n 0, 1) := by decide +kernel
theorem dX5_readSection_69 : decode cX5_readSection 69 = .ok (.aload_n 0, 1) := by decide +kernel
theorem dX5_readSection_70 : decode cX5_readSection 70 = .ok (.getfield 90, 3) := by decide +kernel
theorem dX5_readSection_73 : decode cX5_readSection 73 = .ok (.putfield 78, 3) := by decide +kernel
theorem dX5_readSection_76 : decode cX5_readSection 76 = .ok (.aload_n 0, 1) := by decide +kernel
theorem dX5_readSection_77 : decode cX5_readSection 77 = .ok (.invokevirtual 22, 3) := by decide +kernel
theorem dX5_readSection_80 : decode cX5_readSection 80 = .ok (.aload_n 0, 1) := by decide +kernel
theorem dX5_readSection_81 : decode cX5_readSection 81 = .ok (.aload_n 0, 1) := by decide +kernel
theorem dX5_readSection_82 : decode cX5_readSection 82 = .ok (.bipush 48, 2) := by decide +kernel
theorem dX5_readSection_84 : decode cX5_readSection 84 = .ok (.bipush 9, 2) := by decide +kernel
theorem dX5_readSection_86 : decode cX5_readSection 86 = .ok (.invokevirtual 40, 3) := by decide +kernel
theorem dX5_readSection_89 : decode cX5_readSection 89 = .ok (.putfield 106, 3) := by decide +kernel
theorem dX5_readSection_92 : decode cX5_readSection 92 = .ok (.aload_n 0, 1) := by decide +kernel
theorem dX5_readSection_93 : decode cX5_readSection 93 = .ok (.getfield 106, 3) := by decide +kernel
theorem dX5_readSection_96 : decode cX5_readSection 96 = .ok (.ifCond .lt 7, 3) := by decide +kernel
theorem dX5_readSection_99 : decode cX5_readSection 99 = .ok (.iconst 1, 1) := by decide +kernel
theorem dX5_readSection_100 : decode cX5_readSection 100 = .ok (.goto 4, 3) := by decide +kernel
theorem dX5_readSection_103 : decode cX5_readSection 103 = .ok (.iconst 0, 1) := by decide +kernel
theorem dX5_readSection_104 : decode cX5_readSection 104 = .ok (.ireturn, 1) := by decide +kernel
def fX5_readSection (s : Mem)  : Option (Int32 × Mem) :=
  (fX5_nextWord s).bind (fun y1 => (fX5_letter y1).bind (fun y2 => lt (up2 y1 12 9 y2) (fun s3 => if (0 : Int32) ≤ (s3.1 12 9) then (fX5_nextWord s3).bind (fun y4 => (fX5_oneSign y4 (48 : Int32) (1 : Int32)).bind (fun y5 => lt (up2 y4 12 10 y5) (fun s6 => if (0 : Int32) ≤ (s6.1 12 10) then (fX5_nextWord s6).bind (fun y7 => (fX5_readSet y7 (1 : Int32)).bind (fun y8 => if y8.1 = (0 : Int32) then some (((0 : Int32), y8.2)) else (fX5_says y8.2 11).bind (fun y9 => if y9 = (0 : Int32) then some (((0 : Int32), y8.2)) else lt (up2 y8.2 12 11 (y8.2.1 12 5)) (fun s10 => (fX5_nextWord s10).bind (fun y11 => (fX5_oneSign y11 (48 : Int32) (9 : Int32)).bind (fun y12 => lt (up2 y11 12 12 y12) (fun s13 => if (s13.1 12 12) < (0 : Int32) then some (((0 : Int32), s13)) else some (((1 : Int32), s13))))))))) else some (((0 : Int32), s6))))) else some (((0 : Int32), s3)))))
set_option maxRecDepth 4000 in
theorem jjX5_readSection {X : Scr} (d : Nat) (s : Mem)  {r : (Int32 × Mem)} {w : Option Value} {s' : Mem} (hh : fX5_readSection s = some r) (hk : w = some (.int r.1) ∧ r.2 = s') : J X MX5_readSection (d + 6) 0 [some (.ref 12)] [] s w s' := by
  unfold fX5_readSection at hh
  refine J_aload_n (pc := 0) dX5_readSection_0 rfl ?_
  obtain ⟨y1, hy1, hh⟩ := bd_some hh
  refine J_callV0 (pc := 1) (M' := MX5_nextWord) (a := 12) (rest := []) (As := []) (L0 := [some (.ref 12)]) okX5_nextWord ovX5_nextWord mlX5_22 clX5 so12 rfl rfl (Nat.le_of_ble_eq_true rfl) dX5_readSection_1 rfl (Nat.le_of_ble_eq_true rfl) (jX5_nextWord (X := X) (d + 5) s hy1) ?_
  refine J_aload_n (pc := 4) dX5_readSection_4 rfl ?_
  refine J_aload_n (pc := 5) dX5_readSection_5 rfl ?_
  obtain ⟨y2, hy2, hh⟩ := bd_some hh
  refine J_callVi (pc := 6) (M' := MX5_letter) (a := 12) (rest := [.ref 12]) (As := []) (L0 := [some (.ref 12)]) okX5_letter ovX5_letter mlX5_95 clX5 so12 rfl rfl (Nat.le_of_ble_eq_true rfl) dX5_readSection_6 rfl (Nat.le_of_ble_eq_true rfl) (jX5_letter (X := X) (d + 4) y1 hy2) ?_
  refine J_putIL (pc := 9) (k := 9) fpX5_98 so12 fk12_9 rfl rfl dX5_readSection_9 hh (fun s3 hh => ?_)
  refine J_aload_n (pc := 12) dX5_readSection_12 rfl ?_
  refine J_getI (pc := 13) (k := 9) flX5_98 so12 fk12_9 dX5_readSection_13 ?_
  refine J_if_ge (pc := 16) 21 dX5_readSection_16 (by decide) (fun c18 => ?_) (fun c18 => ?_)
  · replace hh := (if_pos c18).symm.trans hh
    refine J_aload_n (pc := 21) dX5_readSection_21 rfl ?_
    obtain ⟨y4, hy4, hh⟩ := bd_some hh
    refine J_callV0 (pc := 22) (M' := MX5_nextWord) (a := 12) (rest := []) (As := []) (L0 := [some (.ref 12)]) okX5_nextWord ovX5_nextWord mlX5_22 clX5 so12 rfl rfl (Nat.le_of_ble_eq_true rfl) dX5_readSection_22 rfl (Nat.le_of_ble_eq_true rfl) (jX5_nextWord (X := X) (d + 5) s3 hy4) ?_
    refine J_aload_n (pc := 25) dX5_readSection_25 rfl ?_
    refine J_aload_n (pc := 26) dX5_readSection_26 rfl ?_
    refine J_bipush (pc := 27) dX5_readSection_27 cb_48 ?_
    refine J_iconst (pc := 29) dX5_readSection_29 ci_1 ?_
    obtain ⟨y5, hy5, hh⟩ := bd_some hh
    refine J_callVi (pc := 30) (M' := MX5_oneSign) (a := 12) (rest := [.ref 12]) (As := [.int (48 : Int32), .int (1 : Int32)]) (L0 := [some (.ref 12), some (.int (48 : Int32)), some (.int (1 : Int32)), none]) okX5_oneSign ovX5_oneSign mlX5_40 clX5 so12 rfl rfl (Nat.le_of_ble_eq_true rfl) dX5_readSection_30 rfl (Nat.le_of_ble_eq_true rfl) (jX5_oneSign (X := X) (d + 5) y4 (48 : Int32) (1 : Int32) hy5) ?_
    refine J_putIL (pc := 33) (k := 10) fpX5_101 so12 fk12_10 rfl rfl dX5_readSection_33 hh (fun s6 hh => ?_)
    refine J_aload_n (pc := 36) dX5_readSection_36 rfl ?_
    refine J_getI (pc := 37) (k := 10) flX5_101 so12 fk12_10 dX5_readSection_37 ?_
    refine J_if_ge (pc := 40) 45 dX5_readSection_40 (by decide) (fun c17 => ?_) (fun c17 => ?_)
    · replace hh := (if_pos c17).symm.trans hh
      refine J_aload_n (pc := 45) dX5_readSection_45 rfl ?_
      obtain ⟨y7, hy7, hh⟩ := bd_some hh
      refine J_callV0 (pc := 46) (M' := MX5_nextWord) (a := 12) (rest := []) (As := []) (L0 := [some (.ref 12)]) okX5_nextWord ovX5_nextWord mlX5_22 clX5 so12 rfl rfl (Nat.le_of_ble_eq_true rfl) dX5_readSection_46 rfl (Nat.le_of_ble_eq_true rfl) (jX5_nextWord (X := X) (d + 5) s6 hy7) ?_
      refine J_aload_n (pc := 49) dX5_readSection_49 rfl ?_
      refine J_iconst (pc := 50) dX5_readSection_50 ci_1 ?_
      obtain ⟨y8, hy8, hh⟩ := bd_some hh
      refine J_callVi (pc := 51) (M' := MX5_readSet) (a := 12) (rest := []) (As := [.int (1 : Int32)]) (L0 := [some (.ref 12), some (.int (1 : Int32)), none, none]) okX5_readSet ovX5_readSet mlX5_86 clX5 so12 rfl rfl (Nat.le_of_ble_eq_true rfl) dX5_readSection_51 rfl (Nat.le_of_ble_eq_true rfl) (jX5_readSet (X := X) (d + 3) y7 (1 : Int32) hy8) ?_
      refine J_if_eq (pc := 54) 66 dX5_readSection_54 (by decide) (fun c16 => ?_) (fun c16 => ?_)
      · replace hh := (if_pos c16).symm.trans hh
        refine J_iconst (pc := 66) dX5_readSection_66 ci_0 ?_
        obtain rfl := Option.some.inj hh
        obtain ⟨rfl, rfl⟩ := hk
        exact J_ret (w := some (.int (0 : Int32))) ⟨dX5_readSection_67, _, rfl, rfl⟩
      · replace hh := (if_neg c16).symm.trans hh
        refine J_aload_n (pc := 57) dX5_readSection_57 rfl ?_
        refine J_ldcS (pc := 58) (i := 11) sl11 dX5_readSection_58 ?_
        obtain ⟨y9, hy9, hh⟩ := bd_some hh
        refine J_callVi (pc := 60) (M' := MX5_says) (a := 12) (rest := []) (As := [.ref (1000 + 11)]) (L0 := [some (.ref 12), some (.ref (1000 + 11)), none]) okX5_says ovX5_says mlX5_46 clX5 so12 rfl rfl (Nat.le_of_ble_eq_true rfl) dX5_readSection_60 rfl (Nat.le_of_ble_eq_true rfl) (jX5_says (X := X) d y8.2 11 hy9) ?_
        refine J_if_ne (pc := 63) 68 dX5_readSection_63 (by decide) (fun c15 => ?_) (fun c15 => ?_)
        · replace hh := (if_neg c15).symm.trans hh
          refine J_aload_n (pc := 68) dX5_readSection_68 rfl ?_
          refine J_aload_n (pc := 69) dX5_readSection_69 rfl ?_
          refine J_getI (pc := 70) (k := 5) flX5_90 so12 fk12_5 dX5_readSection_70 ?_
          refine J_putIL (pc := 73) (k := 11) fpX5_78 so12 fk12_11 rfl rfl dX5_readSection_73 hh (fun s10 hh => ?_)
          refine J_aload_n (pc := 76) dX5_readSection_76 rfl ?_
          obtain ⟨y11, hy11, hh⟩ := bd_some hh
          refine J_callV0 (pc := 77) (M' := MX5_nextWord) (a := 12) (rest := []) (As := []) (L0 := [some (.ref 12)]) okX5_nextWord ovX5_nextWord mlX5_22 clX5 so12 rfl rfl (Nat.le_of_ble_eq_true rfl) dX5_readSection_77 rfl (Nat.le_of_ble_eq_true rfl) (jX5_nextWord (X := X) (d + 5) s10 hy11) ?_
          refine J_aload_n (pc := 80) dX5_readSection_80 rfl ?_
          refine J_aload_n (pc := 81) dX5_readSection_81 rfl ?_
          refine J_bipush (pc := 82) dX5_readSection_82 cb_48 ?_
          refine J_bipush (pc := 84) dX5_readSection_84 cb_9 ?_
          obtain ⟨y12, hy12, hh⟩ := bd_some hh
          refine J_callVi (pc := 86) (M' := MX5_oneSign) (a := 12) (rest := [.ref 12]) (As := [.int (48 : Int32), .int (9 : Int32)]) (L0 := [some (.ref 12), some (.int (48 : Int32)), some (.int (9 : Int32)), none]) okX5_oneSign ovX5_oneSign mlX5_40 clX5 so12 rfl rfl (Nat.le_of_ble_eq_true rfl) dX5_readSection_86 rfl (Nat.le_of_ble_eq_true rfl) (jX5_oneSign (X := X) (d + 5) y11 (48 : Int32) (9 : Int32) hy12) ?_
          refine J_putIL (pc := 89) (k := 12) fpX5_106 so12 fk12_12 rfl rfl dX5_readSection_89 hh (fun s13 hh => ?_)
          refine J_aload_n (pc := 92) dX5_readSection_92 rfl ?_
          refine J_getI (pc := 93) (k := 12) flX5_106 so12 fk12_12 dX5_readSection_93 ?_
          refine J_if_lt (pc := 96) 103 dX5_readSection_96 (by decide) (fun c14 => ?_) (fun c14 => ?_)
          · replace hh := (if_pos c14).symm.trans hh
            refine J_iconst (pc := 103) dX5_readSection_103 ci_0 ?_
            obtain rfl := Option.some.inj hh
            obtain ⟨rfl, rfl⟩ := hk
            exact J_ret (w := some (.int (0 : Int32))) ⟨dX5_readSection_104, _, rfl, rfl⟩
          · replace hh := (if_neg c14).symm.trans hh
            refine J_iconst (pc := 99) dX5_readSection_99 ci_1 ?_
            refine J_goto (pc := 100) 104 dX5_readSection_100 (by decide) ?_
            obtain rfl := Option.some.inj hh
            obtain ⟨rfl, rfl⟩ := hk
            exact J_ret (w := some (.int (1 : Int32))) ⟨dX5_readSection_104, _, rfl, rfl⟩
        · replace hh := (if_pos c15).symm.trans hh
          refine J_iconst (pc := 66) dX5_readSection_66 ci_0 ?_
          obtain rfl := Option.some.inj hh
          obtain ⟨rfl, rfl⟩ := hk
          exact J_ret (w := some (.int (0 : Int32))) ⟨dX5_readSection_67, _, rfl, rfl⟩
    · replace hh := (if_neg c17).symm.trans hh
      refine J_iconst (pc := 43) dX5_readSection_43 ci_0 ?_
      obtain rfl := Option.some.inj hh
      obtain ⟨rfl, rfl⟩ := hk
      exact J_ret (w := some (.int (0 : Int32))) ⟨dX5_readSection_44, _, rfl, rfl⟩
  · replace hh := (if_neg c18).symm.trans hh
    refine J_iconst (pc := 19) dX5_readSection_19 ci_0 ?_
    obtain rfl := Option.some.inj hh
    obtain ⟨rfl, rfl⟩ := hk
    exact J_ret (w := some (.int (0 : Int32))) ⟨dX5_readSection_20, _, rfl, rfl⟩
theorem jX5_readSection {X : Scr} (d : Nat) (s : Mem)  {r : (Int32 × Mem)} (hh : fX5_readSection s = some r) : J X MX5_readSection (d + 6) 0 [some (.ref 12)] [] s (some (.int r.1)) r.2 := jjX5_readSection d s hh ⟨rfl, rfl⟩
theorem dX5_readLink_0 : decode cX5_readLink 0 = .ok (.aload_n 0, 1) := by decide +kernel
theorem dX5_readLink_1 : decode cX5_readLink 1 = .ok (.iconst (-1), 1) := by decide +kernel
theorem dX5_readLink_2 : decode cX5_readLink 2 = .ok (.putfield 108, 3) := by decide +kernel
theorem dX5_readLink_5 : decode cX5_readLink 5 = .ok (.aload_n 0, 1) := by decide +kernel
theorem dX5_readLink_6 : decode cX5_readLink 6 = .ok (.aload_n 0, 1) := by decide +kernel
theorem dX5_readLink_7 : decode cX5_readLink 7 = .ok (.getfield 25, 3) := by decide +kernel
theorem dX5_readLink_10 : decode cX5_readLink 10 = .ok (.putfield 28, 3) := by decide +kernel
theorem dX5_readLink_13 : decode cX5_readLink 13 = .ok (.aload_n 0, 1) := by decide +kernel
theorem dX5_readLink_14 : decode cX5_readLink 14 = .ok (.invokevirtual 22, 3) := by decide +kernel
theorem dX5_readLink_17 : decode cX5_readLink 17 = .ok (.aload_n 0, 1) := by decide +kernel
theorem dX5_readLink_18 : decode cX5_readLink 18 = .ok (.ldc 111, 2) := by decide +kernel
theorem dX5_readLink_20 : decode cX5_readLink 20 = .ok (.invokevirtual 46, 3) := by decide +kernel
theorem dX5_readLink_23 : decode cX5_readLink 23 = .ok (.ifCond .eq 39, 3) := by decide +kernel
theorem dX5_readLink_26 : decode cX5_readLink 26 = .ok (.aload_n 0, 1) := by decide +kernel
theorem dX5_readLink_27 : decode cX5_readLink 27 = .ok (.invokevirtual 22, 3) := by decide +kernel
theorem dX5_readLink_30 : decode cX5_readLink 30 = .ok (.aload_n 0, 1) := by decide +kernel
theorem dX5_readLink_31 : decode cX5_readLink 31 = .ok (.aload_n 0, 1) := by decide +kernel
theorem dX5_readLink_32 : decode cX5_readLink 32 = .ok (.bipush 48, 2) := by decide +kernel
theorem dX5_readLink_34 : decode cX5_readLink 34 = .ok (.iconst 1, 1) := by decide +kernel
theorem dX5_readLink_35 : decode cX5_readLink 35 = .ok (.invokevirtual 40, 3) := by decide +kernel
theorem dX5_readLink_38 : decode cX5_readLink 38 = .ok (.putfield 108, 3) := by decide +kernel
theorem dX5_readLink_41 : decode cX5_readLink 41 = .ok (.aload_n 0, 1) := by decide +kernel
theorem dX5_readLink_42 : decode cX5_readLink 42 = .ok (.getfield 108, 3) := by decide +kernel
theorem dX5_readLink_45 : decode cX5_readLink 45 = .ok (.ifCond .ge 5, 3) := by decide +kernel
theorem dX5_readLink_48 : decode cX5_readLink 48 = .ok (.iconst 0, 1) := by decide +kernel
theorem dX5_readLink_49 : decode cX5_readLink 49 = .ok (.ireturn, 1) := by decide +kernel
theorem dX5_readLink_50 : decode cX5_readLink 50 = .ok (.aload_n 0, 1) := by decide +kernel
theorem dX5_readLink_51 : decode cX5_readLink 51 = .ok (.aload_n 0, 1) := by decide +kernel
theorem dX5_readLink_52 : decode cX5_readLink 52 = .ok (.getfield 25, 3) := by decide +kernel
theorem dX5_readLink_55 : decode cX5_readLink 55 = .ok (.putfield 28, 3) := by decide +kernel
theorem dX5_readLink_58 : decode cX5_readLink 58 = .ok (.aload_n 0, 1) := by decide +kernel
theorem dX5_readLink_59 : decode cX5_readLink 59 = .ok (.invokevirtual 22, 3) := by decide +kernel
theorem dX5_readLink_62 : decode cX5_readLink 62 = .ok (.iconst 1, 1) := by decide +kernel
theorem dX5_readLink_63 : decode cX5_readLink 63 = .ok (.ireturn, 1) := by decide +kernel
def fX5_readLink (s : Mem)  : Option (Int32 × Mem) :=
  lt (up2 s 12 13 (-1 : Int32)) (fun s1 => lt (up2 s1 12 4 (s1.1 12 2)) (fun s2 => (fX5_nextWord s2).bind (fun y3 => (fX5_says y3 12).bind (fun y4 => if y4 = (0 : Int32) then some (((1 : Int32), y3)) else (fX5_nextWord y3).bind (fun y5 => (fX5_oneSign y5 (48 : Int32) (1 : Int32)).bind (fun y6 => lt (up2 y5 12 13 y6) (fun s7 => if (0 : Int32) ≤ (s7.1 12 13) then lt (up2 s7 12 4 (s7.1 12 2)) (fun s8 => (fX5_nextWord s8).bind (fun y9 => some (((1 : Int32), y9)))) else some (((0 : Int32), s7)))))))))
set_option maxRecDepth 4000 in
theorem jjX5_readLink {X : Scr} (d : Nat) (s : Mem)  {r : (Int32 × Mem)} {w : Option Value} {s' : Mem} (hh : fX5_readLink s = some r) (hk : w = some (.int r.1) ∧ r.2 = s') : J X MX5_readLink (d + 6) 0 [some (.ref 12)] [] s w s' := by
  unfold fX5_readLink at hh
  refine J_aload_n (pc := 0) dX5_readLink_0 rfl ?_
  refine J_iconst (pc := 1) dX5_readLink_1 ci_m1 ?_
  refine J_putIL (pc := 2) (k := 13) fpX5_108 so12 fk12_13 rfl rfl dX5_readLink_2 hh (fun s1 hh => ?_)
  refine J_aload_n (pc := 5) dX5_readLink_5 rfl ?_
  refine J_aload_n (pc := 6) dX5_readLink_6 rfl ?_
  refine J_getI (pc := 7) (k := 2) flX5_25 so12 fk12_2 dX5_readLink_7 ?_
  refine J_putIL (pc := 10) (k := 4) fpX5_28 so12 fk12_4 rfl rfl dX5_readLink_10 hh (fun s2 hh => ?_)
  refine J_aload_n (pc := 13) dX5_readLink_13 rfl ?_
  obtain ⟨y3, hy3, hh⟩ := bd_some hh
  refine J_callV0 (pc := 14) (M' := MX5_nextWord) (a := 12) (rest := []) (As := []) (L0 := [some (.ref 12)]) okX5_nextWord ovX5_nextWord mlX5_22 clX5 so12 rfl rfl (Nat.le_of_ble_eq_true rfl) dX5_readLink_14 rfl (Nat.le_of_ble_eq_true rfl) (jX5_nextWord (X := X) (d + 5) s2 hy3) ?_
  refine J_aload_n (pc := 17) dX5_readLink_17 rfl ?_
  refine J_ldcS (pc := 18) (i := 12) sl12 dX5_readLink_18 ?_
  obtain ⟨y4, hy4, hh⟩ := bd_some hh
  refine J_callVi (pc := 20) (M' := MX5_says) (a := 12) (rest := []) (As := [.ref (1000 + 12)]) (L0 := [some (.ref 12), some (.ref (1000 + 12)), none]) okX5_says ovX5_says mlX5_46 clX5 so12 rfl rfl (Nat.le_of_ble_eq_true rfl) dX5_readLink_20 rfl (Nat.le_of_ble_eq_true rfl) (jX5_says (X := X) d y3 12 hy4) ?_
  refine J_if_eq (pc := 23) 62 dX5_readLink_23 (by decide) (fun c11 => ?_) (fun c11 => ?_)
  · replace hh := (if_pos c11).symm.trans hh
    refine J_iconst (pc := 62) dX5_readLink_62 ci_1 ?_
    obtain rfl := Option.some.inj hh
    obtain ⟨rfl, rfl⟩ := hk
    exact J_ret (w := some (.int (1 : Int32))) ⟨dX5_readLink_63, _, rfl, rfl⟩
  · replace hh := (if_neg c11).symm.trans hh
    refine J_aload_n (pc := 26) dX5_readLink_26 rfl ?_
    obtain ⟨y5, hy5, hh⟩ := bd_some hh
    refine J_callV0 (pc := 27) (M' := MX5_nextWord) (a := 12) (rest := []) (As := []) (L0 := [some (.ref 12)]) okX5_nextWord ovX5_nextWord mlX5_22 clX5 so12 rfl rfl (Nat.le_of_ble_eq_true rfl) dX5_readLink_27 rfl (Nat.le_of_ble_eq_true rfl) (jX5_nextWord (X := X) (d + 5) y3 hy5) ?_
    refine J_aload_n (pc := 30) dX5_readLink_30 rfl ?_
    refine J_aload_n (pc := 31) dX5_readLink_31 rfl ?_
    refine J_bipush (pc := 32) dX5_readLink_32 cb_48 ?_
    refine J_iconst (pc := 34) dX5_readLink_34 ci_1 ?_
    obtain ⟨y6, hy6, hh⟩ := bd_some hh
    refine J_callVi (pc := 35) (M' := MX5_oneSign) (a := 12) (rest := [.ref 12]) (As := [.int (48 : Int32), .int (1 : Int32)]) (L0 := [some (.ref 12), some (.int (48 : Int32)), some (.int (1 : Int32)), none]) okX5_oneSign ovX5_oneSign mlX5_40 clX5 so12 rfl rfl (Nat.le_of_ble_eq_true rfl) dX5_readLink_35 rfl (Nat.le_of_ble_eq_true rfl) (jX5_oneSign (X := X) (d + 5) y5 (48 : Int32) (1 : Int32) hy6) ?_
    refine J_putIL (pc := 38) (k := 13) fpX5_108 so12 fk12_13 rfl rfl dX5_readLink_38 hh (fun s7 hh => ?_)
    refine J_aload_n (pc := 41) dX5_readLink_41 rfl ?_
    refine J_getI (pc := 42) (k := 13) flX5_108 so12 fk12_13 dX5_readLink_42 ?_
    refine J_if_ge (pc := 45) 50 dX5_readLink_45 (by decide) (fun c10 => ?_) (fun c10 => ?_)
    · replace hh := (if_pos c10).symm.trans hh
      refine J_aload_n (pc := 50) dX5_readLink_50 rfl ?_
      refine J_aload_n (pc := 51) dX5_readLink_51 rfl ?_
      refine J_getI (pc := 52) (k := 2) flX5_25 so12 fk12_2 dX5_readLink_52 ?_
      refine J_putIL (pc := 55) (k := 4) fpX5_28 so12 fk12_4 rfl rfl dX5_readLink_55 hh (fun s8 hh => ?_)
      refine J_aload_n (pc := 58) dX5_readLink_58 rfl ?_
      obtain ⟨y9, hy9, hh⟩ := bd_some hh
      refine J_callV0 (pc := 59) (M' := MX5_nextWord) (a := 12) (rest := []) (As := []) (L0 := [some (.ref 12)]) okX5_nextWord ovX5_nextWord mlX5_22 clX5 so12 rfl rfl (Nat.le_of_ble_eq_true rfl) dX5_readLink_59 rfl (Nat.le_of_ble_eq_true rfl) (jX5_nextWord (X := X) (d + 5) s8 hy9) ?_
      refine J_iconst (pc := 62) dX5_readLink_62 ci_1 ?_
      obtain rfl := Option.some.inj hh
      obtain ⟨rfl, rfl⟩ := hk
      exact J_ret (w := some (.int (1 : Int32))) ⟨dX5_readLink_63, _, rfl, rfl⟩
    · replace hh := (if_neg c10).symm.trans hh
      refine J_iconst (pc := 48) dX5_readLink_48 ci_0 ?_
      obtain rfl := Option.some.inj hh
      obtain ⟨rfl, rfl⟩ := hk
      exact J_ret (w := some (.int (0 : Int32))) ⟨dX5_readLink_49, _, rfl, rfl⟩
theorem jX5_readLink {X : Scr} (d : Nat) (s : Mem)  {r : (Int32 × Mem)} (hh : fX5_readLink s = some r) : J X MX5_readLink (d + 6) 0 [some (.ref 12)] [] s (some (.int r.1)) r.2 := jjX5_readLink d s hh ⟨rfl, rfl⟩
theorem dX5_readItem_0 : decode cX5_readItem 0 = .ok (.aload_n 0, 1) := by decide +kernel
theorem dX5_readItem_1 : decode cX5_readItem 1 = .ok (.iconst (-1), 1) := by decide +kernel
theorem dX5_readItem_2 : decode cX5_readItem 2 = .ok (.putfield 50, 3) := by decide +kernel
theorem dX5_readItem_5 : decode cX5_readItem 5 = .ok (.iconst 0, 1) := by decide +kernel
theorem dX5_readItem_6 : decode cX5_readItem 6 = .ok (.istore_n 2, 1) := by decide +kernel
theorem dX5_readItem_7 : decode cX5_readItem 7 = .ok (.iload_n 2, 1) := by decide +kernel
theorem dX5_readItem_8 : decode cX5_readItem 8 = .ok (.bipush 6, 2) := by decide +kernel
theorem dX5_readItem_10 : decode cX5_readItem 10 = .ok (.if_icmp .ge 25, 3) := by decide +kernel
theorem dX5_readItem_13 : decode cX5_readItem 13 = .ok (.aload_n 0, 1) := by decide +kernel
theorem dX5_readItem_14 : decode cX5_readItem 14 = .ok (.iload_n 2, 1) := by decide +kernel
theorem dX5_readItem_15 : decode cX5_readItem 15 = .ok (.invokestatic 53, 3) := by decide +kernel
theorem dX5_readItem_18 : decode cX5_readItem 18 = .ok (.invokevirtual 46, 3) := by decide +kernel
theorem dX5_readItem_21 : decode cX5_readItem 21 = .ok (.ifCond .eq 8, 3) := by decide +kernel
theorem dX5_readItem_24 : decode cX5_readItem 24 = .ok (.aload_n 0, 1) := by decide +kernel
theorem dX5_readItem_25 : decode cX5_readItem 25 = .ok (.iload_n 2, 1) := by decide +kernel
theorem dX5_readItem_26 : decode cX5_readItem 26 = .ok (.putfield 50, 3) := by decide +kernel
theorem dX5_readItem_29 : decode cX5_readItem 29 = .ok (.iinc 2 1, 3) := by decide +kernel
theorem dX5_readItem_32 : decode cX5_readItem 32 = .ok (.goto (-25), 3) := by decide +kernel
theorem dX5_readItem_35 : decode cX5_readItem 35 = .ok (.aload_n 0, 1) := by decide +kernel
theorem dX5_readItem_36 : decode cX5_readItem 36 = .ok (.getfield 50, 3) := by decide +kernel
theorem dX5_readItem_39 : decode cX5_readItem 39 = .ok (.ifCond .lt 20, 3) := by decide +kernel
theorem dX5_readItem_42 : decode cX5_readItem 42 = .ok (.iload_n 1, 1) := by decide +kernel
theorem dX5_readItem_43 : decode cX5_readItem 43 = .ok (.ifCond .ne 14, 3) := by decide +kernel
theorem dX5_readItem_46 : decode cX5_readItem 46 = .ok (.aload_n 0, 1) := by decide +kernel
theorem dX5_readItem_47 : decode cX5_readItem 47 = .ok (.invokevirtual 59, 3) := by decide +kernel
theorem dX5_readItem_50 : decode cX5_readItem 50 = .ok (.ifCond .eq 7, 3) := by decide +kernel
theorem dX5_readItem_53 : decode cX5_readItem 53 = .ok (.iconst 1, 1) := by decide +kernel
theorem dX5_readItem_54 : decode cX5_readItem 54 = .ok (.goto 4, 3) := by decide +kernel
theorem dX5_readItem_57 : decode cX5_readItem 57 = .ok (.iconst 0, 1) := by decide +kernel
theorem dX5_readItem_58 : decode cX5_readItem 58 = .ok (.ireturn, 1) := by decide +kernel
theorem dX5_readItem_59 : decode cX5_readItem 59 = .ok (.aload_n 0, 1) := by decide +kernel
theorem dX5_readItem_60 : decode cX5_readItem 60 = .ok (.aload_n 0, 1) := by decide +kernel
theorem dX5_readItem_61 : decode cX5_readItem 61 = .ok (.ldc 63, 2) := by decide +kernel
theorem dX5_readItem_63 : decode cX5_readItem 63 = .ok (.invokevirtual 46, 3) := by decide +kernel
theorem dX5_readItem_66 : decode cX5_readItem 66 = .ok (.ifCond .eq 7, 3) := by decide +kernel
theorem dX5_readItem_69 : decode cX5_readItem 69 = .ok (.iconst 0, 1) := by decide +kernel
theorem dX5_readItem_70 : decode cX5_readItem 70 = .ok (.goto 30, 3) := by decide +kernel
theorem dX5_readItem_73 : decode cX5_readItem 73 = .ok (.aload_n 0, 1) := by decide +kernel
theorem dX5_readItem_74 : decode cX5_readItem 74 = .ok (.ldc 65, 2) := by decide +kernel
theorem dX5_readItem_76 : decode cX5_readItem 76 = .ok (.invokevirtual 46, 3) := by decide +kernel
theorem dX5_readItem_79 : decode cX5_readItem 79 = .ok (.ifCond .eq 7, 3) := by decide +kernel
theorem dX5_readItem_82 : decode cX5_readItem 82 = .ok (.iconst 1, 1) := by decide +kernel
theorem dX5_readItem_83 : decode cX5_readItem 83 = .ok (.goto 17, 3) := by decide +kernel
theorem dX5_readItem_86 : decode cX5_readItem 86 = .ok (.aload_n 0, 1) := by decide +kernel
theorem dX5_readItem_87 : decode cX5_readItem 87 = .ok (.ldc 67, 2) := by decide +kernel
theorem dX5_readItem_89 : decode cX5_readItem 89 = .ok (.invokevirtual 46, 3) := by decide +kernel
theorem dX5_readItem_92 : decode cX5_readItem 92 = .ok (.ifCond .eq 7, 3) := by decide +kernel
theorem dX5_readItem_95 : decode cX5_readItem 95 = .ok (.iconst 2, 1) := by decide +kernel
theorem dX5_readItem_96 : decode cX5_readItem 96 = .ok (.goto 4, 3) := by decide +kernel
theorem dX5_readItem_99 : decode cX5_readItem 99 = .ok (.iconst (-1), 1) := by decide +kernel
theorem dX5_readItem_100 : decode cX5_readItem 100 = .ok (.putfield 69, 3) := by decide +kernel
theorem dX5_readItem_103 : decode cX5_readItem 103 = .ok (.aload_n 0, 1) := by decide +kernel
theorem dX5_readItem_104 : decode cX5_readItem 104 = .ok (.getfield 69, 3) := by decide +kernel
theorem dX5_readItem_107 : decode cX5_readItem 107 = .ok (.ifCond .lt 21, 3) := by decide +kernel
theorem dX5_readItem_110 : decode cX5_readItem 110 = .ok (.aload_n 0, 1) := by decide +kernel
theorem dX5_readItem_111 : decode cX5_readItem 111 = .ok (.invokevirtual 72, 3) := by decide +kernel
theorem dX5_readItem_114 : decode cX5_readItem 114 = .ok (.ifCond .eq 14, 3) := by decide +kernel
theorem dX5_readItem_117 : decode cX5_readItem 117 = .ok (.aload_n 0, 1) := by decide +kernel
theorem dX5_readItem_118 : decode cX5_readItem 118 = .ok (.invokevirtual 75, 3) := by decide +kernel
theorem dX5_readItem_121 : decode cX5_readItem 121 = .ok (.ifCond .eq 7, 3) := by decide +kernel
theorem dX5_readItem_124 : decode cX5_readItem 124 = .ok (.iconst 1, 1) := by decide +kernel
theorem dX5_readItem_125 : decode cX5_readItem 125 = .ok (.goto 4, 3) := by decide +kernel
theorem dX5_readItem_128 : decode cX5_readItem 128 = .ok (.iconst 0, 1) := by decide +kernel
theorem dX5_readItem_129 : decode cX5_readItem 129 = .ok (.ireturn, 1) := by decide +kernel
def bX5_readItem_7 (s : Mem) (v1 : Int32) (v2 : Int32) : Option (Mem ⊕ (Int32 × Mem)) :=
  if (6 : Int32) ≤ v2 then some (Sum.inl s) else (fX1_word v2).bind (fun y2 => (fX5_says s y2).bind (fun y3 => if y3 = (0 : Int32) then lt (v2 + (1 : Int32)) (fun x4 => some (Sum.inr (x4, s))) else lt (up2 s 12 6 v2) (fun s5 => lt (v2 + (1 : Int32)) (fun x6 => some (Sum.inr (x6, s5))))))
set_option maxRecDepth 4000 in
theorem jbX5_readItem_7 {X : Scr} (d : Nat) (s : Mem) (v1 : Int32) (v2 : Int32) {r : (Mem ⊕ (Int32 × Mem))} {w : Option Value} {s' : Mem} (hh : bX5_readItem_7 s v1 v2 = some r) (hk : Sum.elim (fun t : Mem => J X MX5_readItem (d + 7) 35 [some (.ref 12), some (.int v1), none] [] t w s') (fun a : (Int32 × Mem) => J X MX5_readItem (d + 7) 7 [some (.ref 12), some (.int v1), some (.int a.1)] [] a.2 w s') r) : J X MX5_readItem (d + 7) 7 [some (.ref 12), some (.int v1), some (.int v2)] [] s w s' := by
  unfold bX5_readItem_7 at hh
  refine J_iload_n (pc := 7) dX5_readItem_7 rfl ?_
  refine J_bipush (pc := 8) dX5_readItem_8 cb_6 ?_
  refine J_icmp_ge (pc := 10) 35 dX5_readItem_10 (by decide) (fun c8 => ?_) (fun c8 => ?_)
  · replace hh := (if_pos c8).symm.trans hh
    refine J_drop 2 (L' := [some (.ref 12), some (.int v1), none]) rfl ?_
    obtain rfl := Option.some.inj hh
    exact hk
  · replace hh := (if_neg c8).symm.trans hh
    refine J_aload_n (pc := 13) dX5_readItem_13 rfl ?_
    refine J_iload_n (pc := 14) dX5_readItem_14 rfl ?_
    obtain ⟨y2, hy2, hh⟩ := bd_some hh
    refine J_callSi (pc := 15) (M' := MX1_word) (rest := [.ref 12]) (As := [.int v2]) (L0 := [some (.int v2)]) okX1_word osX1_word mlX5_53 rfl rfl (Nat.le_of_ble_eq_true rfl) dX5_readItem_15 rfl (Nat.le_of_ble_eq_true rfl) (jX1_word (X := X) (d + 6) s v2 hy2) ?_
    obtain ⟨y3, hy3, hh⟩ := bd_some hh
    refine J_callVi (pc := 18) (M' := MX5_says) (a := 12) (rest := []) (As := [.ref (1000 + y2)]) (L0 := [some (.ref 12), some (.ref (1000 + y2)), none]) okX5_says ovX5_says mlX5_46 clX5 so12 rfl rfl (Nat.le_of_ble_eq_true rfl) dX5_readItem_18 rfl (Nat.le_of_ble_eq_true rfl) (jX5_says (X := X) (d + 1) s y2 hy3) ?_
    refine J_if_eq (pc := 21) 29 dX5_readItem_21 (by decide) (fun c7 => ?_) (fun c7 => ?_)
    · replace hh := (if_pos c7).symm.trans hh
      refine J_iincL (pc := 29) (v := v2 + (1 : Int32)) (fun x4 => [some (.ref 12), some (.int v1), some (.int x4)]) dX5_readItem_29 rfl rfl (Nat.le_of_ble_eq_true rfl) (congrArg _ ci_1) (fun _ => rfl) hh (fun x4 hh => ?_)
      refine J_goto (pc := 32) 7 dX5_readItem_32 (by decide) ?_
      obtain rfl := Option.some.inj hh
      exact hk
    · replace hh := (if_neg c7).symm.trans hh
      refine J_aload_n (pc := 24) dX5_readItem_24 rfl ?_
      refine J_iload_n (pc := 25) dX5_readItem_25 rfl ?_
      refine J_putIL (pc := 26) (k := 6) fpX5_50 so12 fk12_6 rfl rfl dX5_readItem_26 hh (fun s5 hh => ?_)
      refine J_iincL (pc := 29) (v := v2 + (1 : Int32)) (fun x6 => [some (.ref 12), some (.int v1), some (.int x6)]) dX5_readItem_29 rfl rfl (Nat.le_of_ble_eq_true rfl) (congrArg _ ci_1) (fun _ => rfl) hh (fun x6 hh => ?_)
      refine J_goto (pc := 32) 7 dX5_readItem_32 (by decide) ?_
      obtain rfl := Option.some.inj hh
      exact hk
def gX5_readItem_100 (s : Mem) (k0 : Int32) : Option (Int32 × Mem) :=
  lt (up2 s 12 8 k0) (fun s13 => if (s13.1 12 8) < (0 : Int32) then some (((0 : Int32), s13)) else (fX5_readSection s13).bind (fun y14 => if y14.1 = (0 : Int32) then some (((0 : Int32), y14.2)) else (fX5_readLink y14.2).bind (fun y15 => if y15.1 = (0 : Int32) then some (((0 : Int32), y15.2)) else some (((1 : Int32), y15.2)))))
set_option maxRecDepth 4000 in
theorem jgX5_readItem_100 {X : Scr} (d : Nat) (s : Mem) (k0 : Int32) {r : (Int32 × Mem)} {w : Option Value} {s' : Mem} (hh : gX5_readItem_100 s k0 = some r) (hk : w = some (.int r.1) ∧ r.2 = s') : J X MX5_readItem (d + 7) 100 [some (.ref 12), none, none] [.int k0, .ref 12] s w s' := by
  unfold gX5_readItem_100 at hh
  refine J_putIL (pc := 100) (k := 8) fpX5_69 so12 fk12_8 rfl rfl dX5_readItem_100 hh (fun s13 hh => ?_)
  refine J_aload_n (pc := 103) dX5_readItem_103 rfl ?_
  refine J_getI (pc := 104) (k := 8) flX5_69 so12 fk12_8 dX5_readItem_104 ?_
  refine J_if_lt (pc := 107) 128 dX5_readItem_107 (by decide) (fun c18 => ?_) (fun c18 => ?_)
  · replace hh := (if_pos c18).symm.trans hh
    refine J_iconst (pc := 128) dX5_readItem_128 ci_0 ?_
    obtain rfl := Option.some.inj hh
    obtain ⟨rfl, rfl⟩ := hk
    exact J_ret (w := some (.int (0 : Int32))) ⟨dX5_readItem_129, _, rfl, rfl⟩
  · replace hh := (if_neg c18).symm.trans hh
    refine J_aload_n (pc := 110) dX5_readItem_110 rfl ?_
    obtain ⟨y14, hy14, hh⟩ := bd_some hh
    refine J_callVi (pc := 111) (M' := MX5_readSection) (a := 12) (rest := []) (As := []) (L0 := [some (.ref 12)]) okX5_readSection ovX5_readSection mlX5_72 clX5 so12 rfl rfl (Nat.le_of_ble_eq_true rfl) dX5_readItem_111 rfl (Nat.le_of_ble_eq_true rfl) (jX5_readSection (X := X) d s13 hy14) ?_
    refine J_if_eq (pc := 114) 128 dX5_readItem_114 (by decide) (fun c17 => ?_) (fun c17 => ?_)
    · replace hh := (if_pos c17).symm.trans hh
      refine J_iconst (pc := 128) dX5_readItem_128 ci_0 ?_
      obtain rfl := Option.some.inj hh
      obtain ⟨rfl, rfl⟩ := hk
      exact J_ret (w := some (.int (0 : Int32))) ⟨dX5_readItem_129, _, rfl, rfl⟩
    · replace hh := (if_neg c17).symm.trans hh
      refine J_aload_n (pc := 117) dX5_readItem_117 rfl ?_
      obtain ⟨y15, hy15, hh⟩ := bd_some hh
      refine J_callVi (pc := 118) (M' := MX5_readLink) (a := 12) (rest := []) (As := []) (L0 := [some (.ref 12)]) okX5_readLink ovX5_readLink mlX5_75 clX5 so12 rfl rfl (Nat.le_of_ble_eq_true rfl) dX5_readItem_118 rfl (Nat.le_of_ble_eq_true rfl) (jX5_readLink (X := X) d y14.2 hy15) ?_
      refine J_if_eq (pc := 121) 128 dX5_readItem_121 (by decide) (fun c16 => ?_) (fun c16 => ?_)
      · replace hh := (if_pos c16).symm.trans hh
        refine J_iconst (pc := 128) dX5_readItem_128 ci_0 ?_
        obtain rfl := Option.some.inj hh
        obtain ⟨rfl, rfl⟩ := hk
        exact J_ret (w := some (.int (0 : Int32))) ⟨dX5_readItem_129, _, rfl, rfl⟩
      · replace hh := (if_neg c16).symm.trans hh
        refine J_iconst (pc := 124) dX5_readItem_124 ci_1 ?_
        refine J_goto (pc := 125) 129 dX5_readItem_125 (by decide) ?_
        obtain rfl := Option.some.inj hh
        obtain ⟨rfl, rfl⟩ := hk
        exact J_ret (w := some (.int (1 : Int32))) ⟨dX5_readItem_129, _, rfl, rfl⟩
def fX5_readItem (s : Mem) (p0 : Int32) : Option (Int32 × Mem) :=
  lt (up2 s 12 6 (-1 : Int32)) (fun s1 => (lp (fun a => bX5_readItem_7 a.2 p0 a.1) 600 ((0 : Int32), s1)).bind (fun y9 => if (y9.1 12 6) < (0 : Int32) then (fX5_says y9 8).bind (fun y10 => if y10 = (0 : Int32) then (fX5_says y9 9).bind (fun y11 => if y11 = (0 : Int32) then (fX5_says y9 10).bind (fun y12 => if y12 = (0 : Int32) then gX5_readItem_100 y9 (-1 : Int32) else gX5_readItem_100 y9 (2 : Int32)) else gX5_readItem_100 y9 (1 : Int32)) else gX5_readItem_100 y9 (0 : Int32)) else if p0 = (0 : Int32) then (fX5_readPupil y9).bind (fun y22 => if y22.1 = (0 : Int32) then some (((0 : Int32), y22.2)) else some (((1 : Int32), y22.2))) else some (((0 : Int32), y9))))
set_option maxRecDepth 4000 in
theorem jjX5_readItem {X : Scr} (d : Nat) (s : Mem) (p0 : Int32) {r : (Int32 × Mem)} {w : Option Value} {s' : Mem} (hh : fX5_readItem s p0 = some r) (hk : w = some (.int r.1) ∧ r.2 = s') : J X MX5_readItem (d + 7) 0 [some (.ref 12), some (.int p0), none] [] s w s' := by
  unfold fX5_readItem at hh
  refine J_aload_n (pc := 0) dX5_readItem_0 rfl ?_
  refine J_iconst (pc := 1) dX5_readItem_1 ci_m1 ?_
  refine J_putIL (pc := 2) (k := 6) fpX5_50 so12 fk12_6 rfl rfl dX5_readItem_2 hh (fun s1 hh => ?_)
  refine J_iconst (pc := 5) dX5_readItem_5 ci_0 ?_
  refine J_istore_n (pc := 6) (L' := [some (.ref 12), some (.int p0), some (.int (0 : Int32))]) dX5_readItem_6 rfl (Nat.le_of_ble_eq_true rfl) rfl ?_
  obtain ⟨y9, hy9, hh⟩ := bd_some hh
  refine J_lp (a := ((0 : Int32), s1)) (fun a : (Int32 × Mem) => J X MX5_readItem (d + 7) 7 [some (.ref 12), some (.int p0), some (.int a.1)] [] a.2 w s') (fun t : Mem => J X MX5_readItem (d + 7) 35 [some (.ref 12), some (.int p0), none] [] t w s') (fun a q h1 h2 => jbX5_readItem_7 d a.2 p0 a.1 h1 h2) hy9 ?_
  refine J_aload_n (pc := 35) dX5_readItem_35 rfl ?_
  refine J_getI (pc := 36) (k := 6) flX5_50 so12 fk12_6 dX5_readItem_36 ?_
  refine J_if_lt (pc := 39) 59 dX5_readItem_39 (by decide) (fun c25 => ?_) (fun c25 => ?_)
  · replace hh := (if_pos c25).symm.trans hh
    refine J_aload_n (pc := 59) dX5_readItem_59 rfl ?_
    refine J_aload_n (pc := 60) dX5_readItem_60 rfl ?_
    refine J_ldcS (pc := 61) (i := 8) sl8 dX5_readItem_61 ?_
    obtain ⟨y10, hy10, hh⟩ := bd_some hh
    refine J_callVi (pc := 63) (M' := MX5_says) (a := 12) (rest := [.ref 12]) (As := [.ref (1000 + 8)]) (L0 := [some (.ref 12), some (.ref (1000 + 8)), none]) okX5_says ovX5_says mlX5_46 clX5 so12 rfl rfl (Nat.le_of_ble_eq_true rfl) dX5_readItem_63 rfl (Nat.le_of_ble_eq_true rfl) (jX5_says (X := X) (d + 1) y9 8 hy10) ?_
    refine J_if_eq (pc := 66) 73 dX5_readItem_66 (by decide) (fun c21 => ?_) (fun c21 => ?_)
    · replace hh := (if_pos c21).symm.trans hh
      refine J_aload_n (pc := 73) dX5_readItem_73 rfl ?_
      refine J_ldcS (pc := 74) (i := 9) sl9 dX5_readItem_74 ?_
      obtain ⟨y11, hy11, hh⟩ := bd_some hh
      refine J_callVi (pc := 76) (M' := MX5_says) (a := 12) (rest := [.ref 12]) (As := [.ref (1000 + 9)]) (L0 := [some (.ref 12), some (.ref (1000 + 9)), none]) okX5_says ovX5_says mlX5_46 clX5 so12 rfl rfl (Nat.le_of_ble_eq_true rfl) dX5_readItem_76 rfl (Nat.le_of_ble_eq_true rfl) (jX5_says (X := X) (d + 1) y9 9 hy11) ?_
      refine J_if_eq (pc := 79) 86 dX5_readItem_79 (by decide) (fun c20 => ?_) (fun c20 => ?_)
      · replace hh := (if_pos c20).symm.trans hh
        refine J_aload_n (pc := 86) dX5_readItem_86 rfl ?_
        refine J_ldcS (pc := 87) (i := 10) sl10 dX5_readItem_87 ?_
        obtain ⟨y12, hy12, hh⟩ := bd_some hh
        refine J_callVi (pc := 89) (M' := MX5_says) (a := 12) (rest := [.ref 12]) (As := [.ref (1000 + 10)]) (L0 := [some (.ref 12), some (.ref (1000 + 10)), none]) okX5_says ovX5_says mlX5_46 clX5 so12 rfl rfl (Nat.le_of_ble_eq_true rfl) dX5_readItem_89 rfl (Nat.le_of_ble_eq_true rfl) (jX5_says (X := X) (d + 1) y9 10 hy12) ?_
        refine J_if_eq (pc := 92) 99 dX5_readItem_92 (by decide) (fun c19 => ?_) (fun c19 => ?_)
        · replace hh := (if_pos c19).symm.trans hh
          refine J_iconst (pc := 99) dX5_readItem_99 ci_m1 ?_
          refine J_drop 1 (L' := [some (.ref 12), none, none]) rfl ?_
          exact jgX5_readItem_100 d y9 (-1 : Int32) hh hk
        · replace hh := (if_neg c19).symm.trans hh
          refine J_iconst (pc := 95) dX5_readItem_95 ci_2 ?_
          refine J_goto (pc := 96) 100 dX5_readItem_96 (by decide) ?_
          refine J_drop 1 (L' := [some (.ref 12), none, none]) rfl ?_
          exact jgX5_readItem_100 d y9 (2 : Int32) hh hk
      · replace hh := (if_neg c20).symm.trans hh
        refine J_iconst (pc := 82) dX5_readItem_82 ci_1 ?_
        refine J_goto (pc := 83) 100 dX5_readItem_83 (by decide) ?_
        refine J_drop 1 (L' := [some (.ref 12), none, none]) rfl ?_
        exact jgX5_readItem_100 d y9 (1 : Int32) hh hk
    · replace hh := (if_neg c21).symm.trans hh
      refine J_iconst (pc := 69) dX5_readItem_69 ci_0 ?_
      refine J_goto (pc := 70) 100 dX5_readItem_70 (by decide) ?_
      refine J_drop 1 (L' := [some (.ref 12), none, none]) rfl ?_
      exact jgX5_readItem_100 d y9 (0 : Int32) hh hk
  · replace hh := (if_neg c25).symm.trans hh
    refine J_iload_n (pc := 42) dX5_readItem_42 rfl ?_
    refine J_if_ne (pc := 43) 57 dX5_readItem_43 (by decide) (fun c24 => ?_) (fun c24 => ?_)
    · replace hh := (if_neg c24).symm.trans hh
      refine J_iconst (pc := 57) dX5_readItem_57 ci_0 ?_
      obtain rfl := Option.some.inj hh
      obtain ⟨rfl, rfl⟩ := hk
      exact J_ret (w := some (.int (0 : Int32))) ⟨dX5_readItem_58, _, rfl, rfl⟩
    · replace hh := (if_pos c24).symm.trans hh
      refine J_aload_n (pc := 46) dX5_readItem_46 rfl ?_
      obtain ⟨y22, hy22, hh⟩ := bd_some hh
      refine J_callVi (pc := 47) (M' := MX5_readPupil) (a := 12) (rest := []) (As := []) (L0 := [some (.ref 12)]) okX5_readPupil ovX5_readPupil mlX5_59 clX5 so12 rfl rfl (Nat.le_of_ble_eq_true rfl) dX5_readItem_47 rfl (Nat.le_of_ble_eq_true rfl) (jX5_readPupil (X := X) d y9 hy22) ?_
      refine J_if_eq (pc := 50) 57 dX5_readItem_50 (by decide) (fun c23 => ?_) (fun c23 => ?_)
      · replace hh := (if_pos c23).symm.trans hh
        refine J_iconst (pc := 57) dX5_readItem_57 ci_0 ?_
        obtain rfl := Option.some.inj hh
        obtain ⟨rfl, rfl⟩ := hk
        exact J_ret (w := some (.int (0 : Int32))) ⟨dX5_readItem_58, _, rfl, rfl⟩
      · replace hh := (if_neg c23).symm.trans hh
        refine J_iconst (pc := 53) dX5_readItem_53 ci_1 ?_
        refine J_goto (pc := 54) 58 dX5_readItem_54 (by decide) ?_
        obtain rfl := Option.some.inj hh
        obtain ⟨rfl, rfl⟩ := hk
        exact J_ret (w := some (.int (1 : Int32))) ⟨dX5_readItem_58, _, rfl, rfl⟩
theorem jX5_readItem {X : Scr} (d : Nat) (s : Mem) (p0 : Int32) {r : (Int32 × Mem)} (hh : fX5_readItem s p0 = some r) : J X MX5_readItem (d + 7) 0 [some (.ref 12), some (.int p0), none] [] s (some (.int r.1)) r.2 := jjX5_readItem d s p0 hh ⟨rfl, rfl⟩
