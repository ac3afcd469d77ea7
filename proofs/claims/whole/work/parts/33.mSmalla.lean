theorem dX2_mark_0 : decode cX2_mark 0 = .ok (.aload_n 1, 1) := by decide +kernel
theorem dX2_mark_1 : decode cX2_mark 1 = .ok (.aload_n 0, 1) := by decide +kernel
theorem dX2_mark_2 : decode cX2_mark 2 = .ok (.getfield 11, 3) := by decide +kernel
theorem dX2_mark_5 : decode cX2_mark 5 = .ok (.aload_n 0, 1) := by decide +kernel
theorem dX2_mark_6 : decode cX2_mark 6 = .ok (.getfield 15, 3) := by decide +kernel
theorem dX2_mark_9 : decode cX2_mark 9 = .ok (.sipush 171, 3) := by decide +kernel
theorem dX2_mark_12 : decode cX2_mark 12 = .ok (.imul, 1) := by decide +kernel
theorem dX2_mark_13 : decode cX2_mark 13 = .ok (.invokevirtual 19, 3) := by decide +kernel
theorem dX2_mark_16 : decode cX2_mark 16 = .ok (.return_, 1) := by decide +kernel
def fX2_mark (s : Mem)  : Option Mem :=
  (fX0_copyTo s ((s.1 3 1) * (171 : Int32))).bind (fun y1 => some y1)
set_option maxRecDepth 4000 in
theorem jjX2_mark {X : Scr} (d : Nat) (s : Mem)  {r : Mem} {w : Option Value} {s' : Mem} (hh : fX2_mark s = some r) (hk : w = none ∧ r = s') : J X MX2_mark (d + 2) 0 [some (.ref 3), some (.ref 1)] [] s w s' := by
  unfold fX2_mark at hh
  refine J_aload_n (pc := 0) dX2_mark_0 rfl ?_
  refine J_aload_n (pc := 1) dX2_mark_1 rfl ?_
  refine J_getR (pc := 2) (k := 0) flX2_11 so3 fk3_0 dX2_mark_2 ?_
  refine J_aload_n (pc := 5) dX2_mark_5 rfl ?_
  refine J_getI (pc := 6) (k := 1) flX2_15 so3 fk3_1 dX2_mark_6 ?_
  refine J_sipush (pc := 9) dX2_mark_9 cs_171 ?_
  refine J_imul (pc := 12) dX2_mark_12 ?_
  obtain ⟨y1, hy1, hh⟩ := bd_some hh
  refine J_callV0 (pc := 13) (M' := MX0_copyTo) (a := 1) (rest := []) (As := [.ref 4, .int ((s.1 3 1) * (171 : Int32))]) (L0 := [some (.ref 1), some (.ref 4), some (.int ((s.1 3 1) * (171 : Int32)))]) okX0_copyTo ovX0_copyTo mlX2_19 clX0 so1 rfl rfl (Nat.le_of_ble_eq_true rfl) dX2_mark_13 rfl (Nat.le_of_ble_eq_true rfl) (jX0_copyTo (X := X) d s ((s.1 3 1) * (171 : Int32)) hy1) ?_
  obtain rfl := Option.some.inj hh
  obtain ⟨rfl, rfl⟩ := hk
  exact J_ret (w := none) ⟨dX2_mark_16, rfl⟩
theorem jX2_mark {X : Scr} (d : Nat) (s : Mem)  {r : Mem} (hh : fX2_mark s = some r) : J X MX2_mark (d + 2) 0 [some (.ref 3), some (.ref 1)] [] s (none) r := jjX2_mark d s hh ⟨rfl, rfl⟩
theorem dX2_bringBack_0 : decode cX2_bringBack 0 = .ok (.aload_n 1, 1) := by decide +kernel
theorem dX2_bringBack_1 : decode cX2_bringBack 1 = .ok (.aload_n 0, 1) := by decide +kernel
theorem dX2_bringBack_2 : decode cX2_bringBack 2 = .ok (.getfield 11, 3) := by decide +kernel
theorem dX2_bringBack_5 : decode cX2_bringBack 5 = .ok (.aload_n 0, 1) := by decide +kernel
theorem dX2_bringBack_6 : decode cX2_bringBack 6 = .ok (.getfield 15, 3) := by decide +kernel
theorem dX2_bringBack_9 : decode cX2_bringBack 9 = .ok (.sipush 171, 3) := by decide +kernel
theorem dX2_bringBack_12 : decode cX2_bringBack 12 = .ok (.imul, 1) := by decide +kernel
theorem dX2_bringBack_13 : decode cX2_bringBack 13 = .ok (.invokevirtual 23, 3) := by decide +kernel
theorem dX2_bringBack_16 : decode cX2_bringBack 16 = .ok (.return_, 1) := by decide +kernel
def fX2_bringBack (s : Mem)  : Option Mem :=
  (fX0_copyFrom s ((s.1 3 1) * (171 : Int32))).bind (fun y1 => some y1)
set_option maxRecDepth 4000 in
theorem jjX2_bringBack {X : Scr} (d : Nat) (s : Mem)  {r : Mem} {w : Option Value} {s' : Mem} (hh : fX2_bringBack s = some r) (hk : w = none ∧ r = s') : J X MX2_bringBack (d + 2) 0 [some (.ref 3), some (.ref 1)] [] s w s' := by
  unfold fX2_bringBack at hh
  refine J_aload_n (pc := 0) dX2_bringBack_0 rfl ?_
  refine J_aload_n (pc := 1) dX2_bringBack_1 rfl ?_
  refine J_getR (pc := 2) (k := 0) flX2_11 so3 fk3_0 dX2_bringBack_2 ?_
  refine J_aload_n (pc := 5) dX2_bringBack_5 rfl ?_
  refine J_getI (pc := 6) (k := 1) flX2_15 so3 fk3_1 dX2_bringBack_6 ?_
  refine J_sipush (pc := 9) dX2_bringBack_9 cs_171 ?_
  refine J_imul (pc := 12) dX2_bringBack_12 ?_
  obtain ⟨y1, hy1, hh⟩ := bd_some hh
  refine J_callV0 (pc := 13) (M' := MX0_copyFrom) (a := 1) (rest := []) (As := [.ref 4, .int ((s.1 3 1) * (171 : Int32))]) (L0 := [some (.ref 1), some (.ref 4), some (.int ((s.1 3 1) * (171 : Int32)))]) okX0_copyFrom ovX0_copyFrom mlX2_23 clX0 so1 rfl rfl (Nat.le_of_ble_eq_true rfl) dX2_bringBack_13 rfl (Nat.le_of_ble_eq_true rfl) (jX0_copyFrom (X := X) d s ((s.1 3 1) * (171 : Int32)) hy1) ?_
  obtain rfl := Option.some.inj hh
  obtain ⟨rfl, rfl⟩ := hk
  exact J_ret (w := none) ⟨dX2_bringBack_16, rfl⟩
theorem jX2_bringBack {X : Scr} (d : Nat) (s : Mem)  {r : Mem} (hh : fX2_bringBack s = some r) : J X MX2_bringBack (d + 2) 0 [some (.ref 3), some (.ref 1)] [] s (none) r := jjX2_bringBack d s hh ⟨rfl, rfl⟩
theorem dX2_keep_0 : decode cX2_keep 0 = .ok (.aload_n 0, 1) := by decide +kernel
theorem dX2_keep_1 : decode cX2_keep 1 = .ok (.aload_n 0, 1) := by decide +kernel
theorem dX2_keep_2 : decode cX2_keep 2 = .ok (.getfield 15, 3) := by decide +kernel
theorem dX2_keep_5 : decode cX2_keep 5 = .ok (.iconst 1, 1) := by decide +kernel
theorem dX2_keep_6 : decode cX2_keep 6 = .ok (.iadd, 1) := by decide +kernel
theorem dX2_keep_7 : decode cX2_keep 7 = .ok (.bipush 31, 2) := by decide +kernel
theorem dX2_keep_9 : decode cX2_keep 9 = .ok (.irem, 1) := by decide +kernel
theorem dX2_keep_10 : decode cX2_keep 10 = .ok (.putfield 15, 3) := by decide +kernel
theorem dX2_keep_13 : decode cX2_keep 13 = .ok (.aload_n 0, 1) := by decide +kernel
theorem dX2_keep_14 : decode cX2_keep 14 = .ok (.bipush 30, 2) := by decide +kernel
theorem dX2_keep_16 : decode cX2_keep 16 = .ok (.aload_n 0, 1) := by decide +kernel
theorem dX2_keep_17 : decode cX2_keep 17 = .ok (.getfield 26, 3) := by decide +kernel
theorem dX2_keep_20 : decode cX2_keep 20 = .ok (.iconst 1, 1) := by decide +kernel
theorem dX2_keep_21 : decode cX2_keep 21 = .ok (.iadd, 1) := by decide +kernel
theorem dX2_keep_22 : decode cX2_keep 22 = .ok (.invokestatic 29, 3) := by decide +kernel
theorem dX2_keep_25 : decode cX2_keep 25 = .ok (.putfield 26, 3) := by decide +kernel
theorem dX2_keep_28 : decode cX2_keep 28 = .ok (.return_, 1) := by decide +kernel
def fX2_keep (s : Mem)  : Option Mem :=
  lt (up2 s 3 1 (((s.1 3 1) + (1 : Int32)) - ((s.1 3 1) + (1 : Int32)) / (31 : Int32) * (31 : Int32))) (fun s1 => lt (up2 s1 3 2 (mnI (30 : Int32) ((s1.1 3 2) + (1 : Int32)))) (fun s2 => some s2))
set_option maxRecDepth 4000 in
theorem jjX2_keep {X : Scr} (d : Nat) (s : Mem)  {r : Mem} {w : Option Value} {s' : Mem} (hh : fX2_keep s = some r) (hk : w = none ∧ r = s') : J X MX2_keep (d + 1) 0 [some (.ref 3)] [] s w s' := by
  unfold fX2_keep at hh
  refine J_aload_n (pc := 0) dX2_keep_0 rfl ?_
  refine J_aload_n (pc := 1) dX2_keep_1 rfl ?_
  refine J_getI (pc := 2) (k := 1) flX2_15 so3 fk3_1 dX2_keep_2 ?_
  refine J_iconst (pc := 5) dX2_keep_5 ci_1 ?_
  refine J_iadd (pc := 6) dX2_keep_6 ?_
  refine J_bipush (pc := 7) dX2_keep_7 cb_31 ?_
  refine J_irem (pc := 9) dX2_keep_9 (by decide) ?_
  refine J_putIL (pc := 10) (k := 1) fpX2_15 so3 fk3_1 rfl rfl dX2_keep_10 hh (fun s1 hh => ?_)
  refine J_aload_n (pc := 13) dX2_keep_13 rfl ?_
  refine J_bipush (pc := 14) dX2_keep_14 cb_30 ?_
  refine J_aload_n (pc := 16) dX2_keep_16 rfl ?_
  refine J_getI (pc := 17) (k := 2) flX2_26 so3 fk3_2 dX2_keep_17 ?_
  refine J_iconst (pc := 20) dX2_keep_20 ci_1 ?_
  refine J_iadd (pc := 21) dX2_keep_21 ?_
  refine J_mmin (pc := 22) mtX2_29 (Nat.le_of_ble_eq_true rfl) dX2_keep_22 ?_
  refine J_putIL (pc := 25) (k := 2) fpX2_26 so3 fk3_2 rfl rfl dX2_keep_25 hh (fun s2 hh => ?_)
  obtain rfl := Option.some.inj hh
  obtain ⟨rfl, rfl⟩ := hk
  exact J_ret (w := none) ⟨dX2_keep_28, rfl⟩
theorem jX2_keep {X : Scr} (d : Nat) (s : Mem)  {r : Mem} (hh : fX2_keep s = some r) : J X MX2_keep (d + 1) 0 [some (.ref 3)] [] s (none) r := jjX2_keep d s hh ⟨rfl, rfl⟩
theorem dX2_kept_0 : decode cX2_kept 0 = .ok (.aload_n 0, 1) := by decide +kernel
theorem dX2_kept_1 : decode cX2_kept 1 = .ok (.getfield 26, 3) := by decide +kernel
theorem dX2_kept_4 : decode cX2_kept 4 = .ok (.ireturn, 1) := by decide +kernel
def fX2_kept (s : Mem)  : Option Int32 :=
  some ((s.1 3 2))
set_option maxRecDepth 4000 in
theorem jjX2_kept {X : Scr} (d : Nat) (s : Mem)  {r : Int32} {w : Option Value} {s' : Mem} (hh : fX2_kept s = some r) (hk : w = some (.int r) ∧ s = s') : J X MX2_kept (d + 0) 0 [some (.ref 3)] [] s w s' := by
  unfold fX2_kept at hh
  refine J_aload_n (pc := 0) dX2_kept_0 rfl ?_
  refine J_getI (pc := 1) (k := 2) flX2_26 so3 fk3_2 dX2_kept_1 ?_
  obtain rfl := Option.some.inj hh
  obtain ⟨rfl, rfl⟩ := hk
  exact J_ret (w := some (.int (s.1 3 2))) ⟨dX2_kept_4, _, rfl, rfl⟩
theorem jX2_kept {X : Scr} (d : Nat) (s : Mem)  {r : Int32} (hh : fX2_kept s = some r) : J X MX2_kept (d + 0) 0 [some (.ref 3)] [] s (some (.int r)) s := jjX2_kept d s hh ⟨rfl, rfl⟩
theorem dX2_goBack_0 : decode cX2_goBack 0 = .ok (.aload_n 0, 1) := by decide +kernel
theorem dX2_goBack_1 : decode cX2_goBack 1 = .ok (.aload_n 0, 1) := by decide +kernel
theorem dX2_goBack_2 : decode cX2_goBack 2 = .ok (.getfield 15, 3) := by decide +kernel
theorem dX2_goBack_5 : decode cX2_goBack 5 = .ok (.bipush 31, 2) := by decide +kernel
theorem dX2_goBack_7 : decode cX2_goBack 7 = .ok (.iadd, 1) := by decide +kernel
theorem dX2_goBack_8 : decode cX2_goBack 8 = .ok (.iconst 1, 1) := by decide +kernel
theorem dX2_goBack_9 : decode cX2_goBack 9 = .ok (.isub, 1) := by decide +kernel
theorem dX2_goBack_10 : decode cX2_goBack 10 = .ok (.bipush 31, 2) := by decide +kernel
theorem dX2_goBack_12 : decode cX2_goBack 12 = .ok (.irem, 1) := by decide +kernel
theorem dX2_goBack_13 : decode cX2_goBack 13 = .ok (.putfield 15, 3) := by decide +kernel
theorem dX2_goBack_16 : decode cX2_goBack 16 = .ok (.aload_n 0, 1) := by decide +kernel
theorem dX2_goBack_17 : decode cX2_goBack 17 = .ok (.dup, 1) := by decide +kernel
theorem dX2_goBack_18 : decode cX2_goBack 18 = .ok (.getfield 26, 3) := by decide +kernel
theorem dX2_goBack_21 : decode cX2_goBack 21 = .ok (.iconst 1, 1) := by decide +kernel
theorem dX2_goBack_22 : decode cX2_goBack 22 = .ok (.isub, 1) := by decide +kernel
theorem dX2_goBack_23 : decode cX2_goBack 23 = .ok (.putfield 26, 3) := by decide +kernel
theorem dX2_goBack_26 : decode cX2_goBack 26 = .ok (.aload_n 0, 1) := by decide +kernel
theorem dX2_goBack_27 : decode cX2_goBack 27 = .ok (.aload_n 1, 1) := by decide +kernel
theorem dX2_goBack_28 : decode cX2_goBack 28 = .ok (.invokevirtual 35, 3) := by decide +kernel
theorem dX2_goBack_31 : decode cX2_goBack 31 = .ok (.aload_n 0, 1) := by decide +kernel
theorem dX2_goBack_32 : decode cX2_goBack 32 = .ok (.getfield 26, 3) := by decide +kernel
theorem dX2_goBack_35 : decode cX2_goBack 35 = .ok (.ireturn, 1) := by decide +kernel
def fX2_goBack (s : Mem)  : Option (Int32 × Mem) :=
  lt (up2 s 3 1 ((((s.1 3 1) + (31 : Int32)) - (1 : Int32)) - (((s.1 3 1) + (31 : Int32)) - (1 : Int32)) / (31 : Int32) * (31 : Int32))) (fun s1 => lt (up2 s1 3 2 ((s1.1 3 2) - (1 : Int32))) (fun s2 => (fX2_bringBack s2).bind (fun y3 => some ((y3.1 3 2, y3)))))
set_option maxRecDepth 4000 in
theorem jjX2_goBack {X : Scr} (d : Nat) (s : Mem)  {r : (Int32 × Mem)} {w : Option Value} {s' : Mem} (hh : fX2_goBack s = some r) (hk : w = some (.int r.1) ∧ r.2 = s') : J X MX2_goBack (d + 3) 0 [some (.ref 3), some (.ref 1)] [] s w s' := by
  unfold fX2_goBack at hh
  refine J_aload_n (pc := 0) dX2_goBack_0 rfl ?_
  refine J_aload_n (pc := 1) dX2_goBack_1 rfl ?_
  refine J_getI (pc := 2) (k := 1) flX2_15 so3 fk3_1 dX2_goBack_2 ?_
  refine J_bipush (pc := 5) dX2_goBack_5 cb_31 ?_
  refine J_iadd (pc := 7) dX2_goBack_7 ?_
  refine J_iconst (pc := 8) dX2_goBack_8 ci_1 ?_
  refine J_isub (pc := 9) dX2_goBack_9 ?_
  refine J_bipush (pc := 10) dX2_goBack_10 cb_31 ?_
  refine J_irem (pc := 12) dX2_goBack_12 (by decide) ?_
  refine J_putIL (pc := 13) (k := 1) fpX2_15 so3 fk3_1 rfl rfl dX2_goBack_13 hh (fun s1 hh => ?_)
  refine J_aload_n (pc := 16) dX2_goBack_16 rfl ?_
  refine J_dup (pc := 17) dX2_goBack_17 rfl ?_
  refine J_getI (pc := 18) (k := 2) flX2_26 so3 fk3_2 dX2_goBack_18 ?_
  refine J_iconst (pc := 21) dX2_goBack_21 ci_1 ?_
  refine J_isub (pc := 22) dX2_goBack_22 ?_
  refine J_putIL (pc := 23) (k := 2) fpX2_26 so3 fk3_2 rfl rfl dX2_goBack_23 hh (fun s2 hh => ?_)
  refine J_aload_n (pc := 26) dX2_goBack_26 rfl ?_
  refine J_aload_n (pc := 27) dX2_goBack_27 rfl ?_
  obtain ⟨y3, hy3, hh⟩ := bd_some hh
  refine J_callV0 (pc := 28) (M' := MX2_bringBack) (a := 3) (rest := []) (As := [.ref 1]) (L0 := [some (.ref 3), some (.ref 1)]) okX2_bringBack ovX2_bringBack mlX2_35 clX2 so3 rfl rfl (Nat.le_of_ble_eq_true rfl) dX2_goBack_28 rfl (Nat.le_of_ble_eq_true rfl) (jX2_bringBack (X := X) d s2 hy3) ?_
  refine J_aload_n (pc := 31) dX2_goBack_31 rfl ?_
  refine J_getI (pc := 32) (k := 2) flX2_26 so3 fk3_2 dX2_goBack_32 ?_
  obtain rfl := Option.some.inj hh
  obtain ⟨rfl, rfl⟩ := hk
  exact J_ret (w := some (.int (y3.1 3 2))) ⟨dX2_goBack_35, _, rfl, rfl⟩
theorem jX2_goBack {X : Scr} (d : Nat) (s : Mem)  {r : (Int32 × Mem)} (hh : fX2_goBack s = some r) : J X MX2_goBack (d + 3) 0 [some (.ref 3), some (.ref 1)] [] s (some (.int r.1)) r.2 := jjX2_goBack d s hh ⟨rfl, rfl⟩
theorem dX4_isOne_0 : decode cX4_isOne 0 = .ok (.iload_n 1, 1) := by decide +kernel
theorem dX4_isOne_1 : decode cX4_isOne 1 = .ok (.ifCond .lt 12, 3) := by decide +kernel
theorem dX4_isOne_4 : decode cX4_isOne 4 = .ok (.iload_n 1, 1) := by decide +kernel
theorem dX4_isOne_5 : decode cX4_isOne 5 = .ok (.iconst 4, 1) := by decide +kernel
theorem dX4_isOne_6 : decode cX4_isOne 6 = .ok (.if_icmp .ge 7, 3) := by decide +kernel
theorem dX4_isOne_9 : decode cX4_isOne 9 = .ok (.iconst 1, 1) := by decide +kernel
theorem dX4_isOne_10 : decode cX4_isOne 10 = .ok (.goto 4, 3) := by decide +kernel
theorem dX4_isOne_13 : decode cX4_isOne 13 = .ok (.iconst 0, 1) := by decide +kernel
theorem dX4_isOne_14 : decode cX4_isOne 14 = .ok (.ireturn, 1) := by decide +kernel
def fX4_isOne (s : Mem) (p0 : Int32) : Option Int32 :=
  if p0 < (0 : Int32) then some (0 : Int32) else if (4 : Int32) ≤ p0 then some (0 : Int32) else some (1 : Int32)
set_option maxRecDepth 4000 in
theorem jjX4_isOne {X : Scr} (d : Nat) (s : Mem) (p0 : Int32) {r : Int32} {w : Option Value} {s' : Mem} (hh : fX4_isOne s p0 = some r) (hk : w = some (.int r) ∧ s = s') : J X MX4_isOne (d + 0) 0 [some (.ref 14), some (.int p0)] [] s w s' := by
  unfold fX4_isOne at hh
  refine J_iload_n (pc := 0) dX4_isOne_0 rfl ?_
  refine J_if_lt (pc := 1) 13 dX4_isOne_1 (by decide) (fun c2 => ?_) (fun c2 => ?_)
  · replace hh := (if_pos c2).symm.trans hh
    refine J_iconst (pc := 13) dX4_isOne_13 ci_0 ?_
    obtain rfl := Option.some.inj hh
    obtain ⟨rfl, rfl⟩ := hk
    exact J_ret (w := some (.int (0 : Int32))) ⟨dX4_isOne_14, _, rfl, rfl⟩
  · replace hh := (if_neg c2).symm.trans hh
    refine J_iload_n (pc := 4) dX4_isOne_4 rfl ?_
    refine J_iconst (pc := 5) dX4_isOne_5 ci_4 ?_
    refine J_icmp_ge (pc := 6) 13 dX4_isOne_6 (by decide) (fun c1 => ?_) (fun c1 => ?_)
    · replace hh := (if_pos c1).symm.trans hh
      refine J_iconst (pc := 13) dX4_isOne_13 ci_0 ?_
      obtain rfl := Option.some.inj hh
      obtain ⟨rfl, rfl⟩ := hk
      exact J_ret (w := some (.int (0 : Int32))) ⟨dX4_isOne_14, _, rfl, rfl⟩
    · replace hh := (if_neg c1).symm.trans hh
      refine J_iconst (pc := 9) dX4_isOne_9 ci_1 ?_
      refine J_goto (pc := 10) 14 dX4_isOne_10 (by decide) ?_
      obtain rfl := Option.some.inj hh
      obtain ⟨rfl, rfl⟩ := hk
      exact J_ret (w := some (.int (1 : Int32))) ⟨dX4_isOne_14, _, rfl, rfl⟩
theorem jX4_isOne {X : Scr} (d : Nat) (s : Mem) (p0 : Int32) {r : Int32} (hh : fX4_isOne s p0 = some r) : J X MX4_isOne (d + 0) 0 [some (.ref 14), some (.int p0)] [] s (some (.int r)) s := jjX4_isOne d s p0 hh ⟨rfl, rfl⟩
theorem dX4_isMissing_0 : decode cX4_isMissing 0 = .ok (.aload_n 0, 1) := by decide +kernel
theorem dX4_isMissing_1 : decode cX4_isMissing 1 = .ok (.getfield 13, 3) := by decide +kernel
theorem dX4_isMissing_4 : decode cX4_isMissing 4 = .ok (.iload_n 1, 1) := by decide +kernel
theorem dX4_isMissing_5 : decode cX4_isMissing 5 = .ok (.iaload, 1) := by decide +kernel
theorem dX4_isMissing_6 : decode cX4_isMissing 6 = .ok (.ifCond .ge 7, 3) := by decide +kernel
theorem dX4_isMissing_9 : decode cX4_isMissing 9 = .ok (.iconst 1, 1) := by decide +kernel
theorem dX4_isMissing_10 : decode cX4_isMissing 10 = .ok (.goto 4, 3) := by decide +kernel
theorem dX4_isMissing_13 : decode cX4_isMissing 13 = .ok (.iconst 0, 1) := by decide +kernel
theorem dX4_isMissing_14 : decode cX4_isMissing 14 = .ok (.ireturn, 1) := by decide +kernel
def fX4_isMissing (s : Mem) (p0 : Int32) : Option Int32 :=
  gd p0 4 (if (0 : Int32) ≤ (s.1 16 p0.toNatClampNeg) then some (0 : Int32) else some (1 : Int32))
set_option maxRecDepth 4000 in
theorem jjX4_isMissing {X : Scr} (d : Nat) (s : Mem) (p0 : Int32) {r : Int32} {w : Option Value} {s' : Mem} (hh : fX4_isMissing s p0 = some r) (hk : w = some (.int r) ∧ s = s') : J X MX4_isMissing (d + 0) 0 [some (.ref 14), some (.int p0)] [] s w s' := by
  unfold fX4_isMissing at hh
  refine J_aload_n (pc := 0) dX4_isMissing_0 rfl ?_
  refine J_getR (pc := 1) (k := 1) flX4_13 so14 fk14_1 dX4_isMissing_1 ?_
  refine J_iload_n (pc := 4) dX4_isMissing_4 rfl ?_
  obtain ⟨h1, hh⟩ := gd_some hh
  refine J_iald (pc := 5) dX4_isMissing_5 sa16 h1 ?_
  refine J_if_ge (pc := 6) 13 dX4_isMissing_6 (by decide) (fun c2 => ?_) (fun c2 => ?_)
  · replace hh := (if_pos c2).symm.trans hh
    refine J_iconst (pc := 13) dX4_isMissing_13 ci_0 ?_
    obtain rfl := Option.some.inj hh
    obtain ⟨rfl, rfl⟩ := hk
    exact J_ret (w := some (.int (0 : Int32))) ⟨dX4_isMissing_14, _, rfl, rfl⟩
  · replace hh := (if_neg c2).symm.trans hh
    refine J_iconst (pc := 9) dX4_isMissing_9 ci_1 ?_
    refine J_goto (pc := 10) 14 dX4_isMissing_10 (by decide) ?_
    obtain rfl := Option.some.inj hh
    obtain ⟨rfl, rfl⟩ := hk
    exact J_ret (w := some (.int (1 : Int32))) ⟨dX4_isMissing_14, _, rfl, rfl⟩
theorem jX4_isMissing {X : Scr} (d : Nat) (s : Mem) (p0 : Int32) {r : Int32} (hh : fX4_isMissing s p0 = some r) : J X MX4_isMissing (d + 0) 0 [some (.ref 14), some (.int p0)] [] s (some (.int r)) s := jjX4_isMissing d s p0 hh ⟨rfl, rfl⟩
theorem dX4_has_0 : decode cX4_has 0 = .ok (.iload_n 2, 1) := by decide +kernel
theorem dX4_has_1 : decode cX4_has 1 = .ok (.ifCond .lt 17, 3) := by decide +kernel
theorem dX4_has_4 : decode cX4_has 4 = .ok (.iload_n 2, 1) := by decide +kernel
theorem dX4_has_5 : decode cX4_has 5 = .ok (.aload_n 0, 1) := by decide +kernel
theorem dX4_has_6 : decode cX4_has 6 = .ok (.getfield 17, 3) := by decide +kernel
theorem dX4_has_9 : decode cX4_has 9 = .ok (.iload_n 1, 1) := by decide +kernel
theorem dX4_has_10 : decode cX4_has 10 = .ok (.iaload, 1) := by decide +kernel
theorem dX4_has_11 : decode cX4_has 11 = .ok (.if_icmp .ge 7, 3) := by decide +kernel
theorem dX4_has_14 : decode cX4_has 14 = .ok (.iconst 1, 1) := by decide +kernel
theorem dX4_has_15 : decode cX4_has 15 = .ok (.goto 4, 3) := by decide +kernel
theorem dX4_has_18 : decode cX4_has 18 = .ok (.iconst 0, 1) := by decide +kernel
theorem dX4_has_19 : decode cX4_has 19 = .ok (.ireturn, 1) := by decide +kernel
def fX4_has (s : Mem) (p0 : Int32) (p1 : Int32) : Option Int32 :=
  if p1 < (0 : Int32) then some (0 : Int32) else gd p0 4 (if (s.1 17 p0.toNatClampNeg) ≤ p1 then some (0 : Int32) else some (1 : Int32))
set_option maxRecDepth 4000 in
theorem jjX4_has {X : Scr} (d : Nat) (s : Mem) (p0 : Int32) (p1 : Int32) {r : Int32} {w : Option Value} {s' : Mem} (hh : fX4_has s p0 p1 = some r) (hk : w = some (.int r) ∧ s = s') : J X MX4_has (d + 0) 0 [some (.ref 14), some (.int p0), some (.int p1)] [] s w s' := by
  unfold fX4_has at hh
  refine J_iload_n (pc := 0) dX4_has_0 rfl ?_
  refine J_if_lt (pc := 1) 18 dX4_has_1 (by decide) (fun c3 => ?_) (fun c3 => ?_)
  · replace hh := (if_pos c3).symm.trans hh
    refine J_iconst (pc := 18) dX4_has_18 ci_0 ?_
    obtain rfl := Option.some.inj hh
    obtain ⟨rfl, rfl⟩ := hk
    exact J_ret (w := some (.int (0 : Int32))) ⟨dX4_has_19, _, rfl, rfl⟩
  · replace hh := (if_neg c3).symm.trans hh
    refine J_iload_n (pc := 4) dX4_has_4 rfl ?_
    refine J_aload_n (pc := 5) dX4_has_5 rfl ?_
    refine J_getR (pc := 6) (k := 2) flX4_17 so14 fk14_2 dX4_has_6 ?_
    refine J_iload_n (pc := 9) dX4_has_9 rfl ?_
    obtain ⟨h1, hh⟩ := gd_some hh
    refine J_iald (pc := 10) dX4_has_10 sa17 h1 ?_
    refine J_icmp_ge (pc := 11) 18 dX4_has_11 (by decide) (fun c2 => ?_) (fun c2 => ?_)
    · replace hh := (if_pos c2).symm.trans hh
      refine J_iconst (pc := 18) dX4_has_18 ci_0 ?_
      obtain rfl := Option.some.inj hh
      obtain ⟨rfl, rfl⟩ := hk
      exact J_ret (w := some (.int (0 : Int32))) ⟨dX4_has_19, _, rfl, rfl⟩
    · replace hh := (if_neg c2).symm.trans hh
      refine J_iconst (pc := 14) dX4_has_14 ci_1 ?_
      refine J_goto (pc := 15) 19 dX4_has_15 (by decide) ?_
      obtain rfl := Option.some.inj hh
      obtain ⟨rfl, rfl⟩ := hk
      exact J_ret (w := some (.int (1 : Int32))) ⟨dX4_has_19, _, rfl, rfl⟩
theorem jX4_has {X : Scr} (d : Nat) (s : Mem) (p0 : Int32) (p1 : Int32) {r : Int32} (hh : fX4_has s p0 p1 = some r) : J X MX4_has (d + 0) 0 [some (.ref 14), some (.int p0), some (.int p1)] [] s (some (.int r)) s := jjX4_has d s p0 p1 hh ⟨rfl, rfl⟩
theorem dX4_hasRow_0 : decode cX4_hasRow 0 = .ok (.iload_n 2, 1) := by decide +kernel
theorem dX4_hasRow_1 : decode cX4_hasRow 1 = .ok (.ifCond .lt 33, 3) := by decide +kernel
theorem dX4_hasRow_4 : decode cX4_hasRow 4 = .ok (.iload_n 3, 1) := by decide +kernel
theorem dX4_hasRow_5 : decode cX4_hasRow 5 = .ok (.ifCond .lt 29, 3) := by decide +kernel
theorem dX4_hasRow_8 : decode cX4_hasRow 8 = .ok (.iload_n 3, 1) := by decide +kernel
theorem dX4_hasRow_9 : decode cX4_hasRow 9 = .ok (.aload_n 0, 1) := by decide +kernel
theorem dX4_hasRow_10 : decode cX4_hasRow 10 = .ok (.getfield 17, 3) := by decide +kernel
theorem dX4_hasRow_13 : decode cX4_hasRow 13 = .ok (.iload_n 1, 1) := by decide +kernel
theorem dX4_hasRow_14 : decode cX4_hasRow 14 = .ok (.iaload, 1) := by decide +kernel
theorem dX4_hasRow_15 : decode cX4_hasRow 15 = .ok (.if_icmp .gt 19, 3) := by decide +kernel
theorem dX4_hasRow_18 : decode cX4_hasRow 18 = .ok (.iload_n 2, 1) := by decide +kernel
theorem dX4_hasRow_19 : decode cX4_hasRow 19 = .ok (.aload_n 0, 1) := by decide +kernel
theorem dX4_hasRow_20 : decode cX4_hasRow 20 = .ok (.getfield 17, 3) := by decide +kernel
theorem dX4_hasRow_23 : decode cX4_hasRow 23 = .ok (.iload_n 1, 1) := by decide +kernel
theorem dX4_hasRow_24 : decode cX4_hasRow 24 = .ok (.iaload, 1) := by decide +kernel
theorem dX4_hasRow_25 : decode cX4_hasRow 25 = .ok (.iload_n 3, 1) := by decide +kernel
theorem dX4_hasRow_26 : decode cX4_hasRow 26 = .ok (.isub, 1) := by decide +kernel
theorem dX4_hasRow_27 : decode cX4_hasRow 27 = .ok (.if_icmp .gt 7, 3) := by decide +kernel
theorem dX4_hasRow_30 : decode cX4_hasRow 30 = .ok (.iconst 1, 1) := by decide +kernel
theorem dX4_hasRow_31 : decode cX4_hasRow 31 = .ok (.goto 4, 3) := by decide +kernel
theorem dX4_hasRow_34 : decode cX4_hasRow 34 = .ok (.iconst 0, 1) := by decide +kernel
theorem dX4_hasRow_35 : decode cX4_hasRow 35 = .ok (.ireturn, 1) := by decide +kernel
def fX4_hasRow (s : Mem) (p0 : Int32) (p1 : Int32) (p2 : Int32) : Option Int32 :=
  if p1 < (0 : Int32) then some (0 : Int32) else if p2 < (0 : Int32) then some (0 : Int32) else gd p0 4 (if (s.1 17 p0.toNatClampNeg) < p2 then some (0 : Int32) else gd p0 4 (if ((s.1 17 p0.toNatClampNeg) - p2) < p1 then some (0 : Int32) else some (1 : Int32)))
set_option maxRecDepth 4000 in
theorem jjX4_hasRow {X : Scr} (d : Nat) (s : Mem) (p0 : Int32) (p1 : Int32) (p2 : Int32) {r : Int32} {w : Option Value} {s' : Mem} (hh : fX4_hasRow s p0 p1 p2 = some r) (hk : w = some (.int r) ∧ s = s') : J X MX4_hasRow (d + 0) 0 [some (.ref 14), some (.int p0), some (.int p1), some (.int p2)] [] s w s' := by
  unfold fX4_hasRow at hh
  refine J_iload_n (pc := 0) dX4_hasRow_0 rfl ?_
  refine J_if_lt (pc := 1) 34 dX4_hasRow_1 (by decide) (fun c6 => ?_) (fun c6 => ?_)
  · replace hh := (if_pos c6).symm.trans hh
    refine J_iconst (pc := 34) dX4_hasRow_34 ci_0 ?_
    obtain rfl := Option.some.inj hh
    obtain ⟨rfl, rfl⟩ := hk
    exact J_ret (w := some (.int (0 : Int32))) ⟨dX4_hasRow_35, _, rfl, rfl⟩
  · replace hh := (if_neg c6).symm.trans hh
    refine J_iload_n (pc := 4) dX4_hasRow_4 rfl ?_
    refine J_if_lt (pc := 5) 34 dX4_hasRow_5 (by decide) (fun c5 => ?_) (fun c5 => ?_)
    · replace hh := (if_pos c5).symm.trans hh
      refine J_iconst (pc := 34) dX4_hasRow_34 ci_0 ?_
      obtain rfl := Option.some.inj hh
      obtain ⟨rfl, rfl⟩ := hk
      exact J_ret (w := some (.int (0 : Int32))) ⟨dX4_hasRow_35, _, rfl, rfl⟩
    · replace hh := (if_neg c5).symm.trans hh
      refine J_iload_n (pc := 8) dX4_hasRow_8 rfl ?_
      refine J_aload_n (pc := 9) dX4_hasRow_9 rfl ?_
      refine J_getR (pc := 10) (k := 2) flX4_17 so14 fk14_2 dX4_hasRow_10 ?_
      refine J_iload_n (pc := 13) dX4_hasRow_13 rfl ?_
      obtain ⟨h1, hh⟩ := gd_some hh
      refine J_iald (pc := 14) dX4_hasRow_14 sa17 h1 ?_
      refine J_icmp_gt (pc := 15) 34 dX4_hasRow_15 (by decide) (fun c4 => ?_) (fun c4 => ?_)
      · replace hh := (if_pos c4).symm.trans hh
        refine J_iconst (pc := 34) dX4_hasRow_34 ci_0 ?_
        obtain rfl := Option.some.inj hh
        obtain ⟨rfl, rfl⟩ := hk
        exact J_ret (w := some (.int (0 : Int32))) ⟨dX4_hasRow_35, _, rfl, rfl⟩
      · replace hh := (if_neg c4).symm.trans hh
        refine J_iload_n (pc := 18) dX4_hasRow_18 rfl ?_
        refine J_aload_n (pc := 19) dX4_hasRow_19 rfl ?_
        refine J_getR (pc := 20) (k := 2) flX4_17 so14 fk14_2 dX4_hasRow_20 ?_
        refine J_iload_n (pc := 23) dX4_hasRow_23 rfl ?_
        obtain ⟨h2, hh⟩ := gd_some hh
        refine J_iald (pc := 24) dX4_hasRow_24 sa17 h2 ?_
        refine J_iload_n (pc := 25) dX4_hasRow_25 rfl ?_
        refine J_isub (pc := 26) dX4_hasRow_26 ?_
        refine J_icmp_gt (pc := 27) 34 dX4_hasRow_27 (by decide) (fun c3 => ?_) (fun c3 => ?_)
        · replace hh := (if_pos c3).symm.trans hh
          refine J_iconst (pc := 34) dX4_hasRow_34 ci_0 ?_
          obtain rfl := Option.some.inj hh
          obtain ⟨rfl, rfl⟩ := hk
          exact J_ret (w := some (.int (0 : Int32))) ⟨dX4_hasRow_35, _, rfl, rfl⟩
        · replace hh := (if_neg c3).symm.trans hh
          refine J_iconst (pc := 30) dX4_hasRow_30 ci_1 ?_
          refine J_goto (pc := 31) 35 dX4_hasRow_31 (by decide) ?_
          obtain rfl := Option.some.inj hh
          obtain ⟨rfl, rfl⟩ := hk
          exact J_ret (w := some (.int (1 : Int32))) ⟨dX4_hasRow_35, _, rfl, rfl⟩
theorem jX4_hasRow {X : Scr} (d : Nat) (s : Mem) (p0 : Int32) (p1 : Int32) (p2 : Int32) {r : Int32} (hh : fX4_hasRow s p0 p1 p2 = some r) : J X MX4_hasRow (d + 0) 0 [some (.ref 14), some (.int p0), some (.int p1), some (.int p2)] [] s (some (.int r)) s := jjX4_hasRow d s p0 p1 p2 hh ⟨rfl, rfl⟩
theorem dX4_sortOf_0 : decode cX4_sortOf 0 = .ok (.aload_n 0, 1) := by decide +kernel
theorem dX4_sortOf_1 : decode cX4_sortOf 1 = .ok (.getfield 13, 3) := by decide +kernel
theorem dX4_sortOf_4 : decode cX4_sortOf 4 = .ok (.iload_n 1, 1) := by decide +kernel
theorem dX4_sortOf_5 : decode cX4_sortOf 5 = .ok (.iaload, 1) := by decide +kernel
theorem dX4_sortOf_6 : decode cX4_sortOf 6 = .ok (.ireturn, 1) := by decide +kernel
def fX4_sortOf (s : Mem) (p0 : Int32) : Option Int32 :=
  gd p0 4 (some ((s.1 16 p0.toNatClampNeg)))
set_option maxRecDepth 4000 in
theorem jjX4_sortOf {X : Scr} (d : Nat) (s : Mem) (p0 : Int32) {r : Int32} {w : Option Value} {s' : Mem} (hh : fX4_sortOf s p0 = some r) (hk : w = some (.int r) ∧ s = s') : J X MX4_sortOf (d + 0) 0 [some (.ref 14), some (.int p0)] [] s w s' := by
  unfold fX4_sortOf at hh
  refine J_aload_n (pc := 0) dX4_sortOf_0 rfl ?_
  refine J_getR (pc := 1) (k := 1) flX4_13 so14 fk14_1 dX4_sortOf_1 ?_
  refine J_iload_n (pc := 4) dX4_sortOf_4 rfl ?_
  obtain ⟨h1, hh⟩ := gd_some hh
  refine J_iald (pc := 5) dX4_sortOf_5 sa16 h1 ?_
  obtain rfl := Option.some.inj hh
  obtain ⟨rfl, rfl⟩ := hk
  exact J_ret (w := some (.int (s.1 16 p0.toNatClampNeg))) ⟨dX4_sortOf_6, _, rfl, rfl⟩
theorem jX4_sortOf {X : Scr} (d : Nat) (s : Mem) (p0 : Int32) {r : Int32} (hh : fX4_sortOf s p0 = some r) : J X MX4_sortOf (d + 0) 0 [some (.ref 14), some (.int p0)] [] s (some (.int r)) s := jjX4_sortOf d s p0 hh ⟨rfl, rfl⟩
theorem dX4_length_0 : decode cX4_length 0 = .ok (.aload_n 0, 1) := by decide +kernel
theorem dX4_length_1 : decode cX4_length 1 = .ok (.getfield 17, 3) := by decide +kernel
theorem dX4_length_4 : decode cX4_length 4 = .ok (.iload_n 1, 1) := by decide +kernel
theorem dX4_length_5 : decode cX4_length 5 = .ok (.iaload, 1) := by decide +kernel
theorem dX4_length_6 : decode cX4_length 6 = .ok (.ireturn, 1) := by decide +kernel
def fX4_length (s : Mem) (p0 : Int32) : Option Int32 :=
  gd p0 4 (some ((s.1 17 p0.toNatClampNeg)))
set_option maxRecDepth 4000 in
theorem jjX4_length {X : Scr} (d : Nat) (s : Mem) (p0 : Int32) {r : Int32} {w : Option Value} {s' : Mem} (hh : fX4_length s p0 = some r) (hk : w = some (.int r) ∧ s = s') : J X MX4_length (d + 0) 0 [some (.ref 14), some (.int p0)] [] s w s' := by
  unfold fX4_length at hh
  refine J_aload_n (pc := 0) dX4_length_0 rfl ?_
  refine J_getR (pc := 1) (k := 2) flX4_17 so14 fk14_2 dX4_length_1 ?_
  refine J_iload_n (pc := 4) dX4_length_4 rfl ?_
  obtain ⟨h1, hh⟩ := gd_some hh
  refine J_iald (pc := 5) dX4_length_5 sa17 h1 ?_
  obtain rfl := Option.some.inj hh
  obtain ⟨rfl, rfl⟩ := hk
  exact J_ret (w := some (.int (s.1 17 p0.toNatClampNeg))) ⟨dX4_length_6, _, rfl, rfl⟩
theorem jX4_length {X : Scr} (d : Nat) (s : Mem) (p0 : Int32) {r : Int32} (hh : fX4_length s p0 = some r) : J X MX4_length (d + 0) 0 [some (.ref 14), some (.int p0)] [] s (some (.int r)) s := jjX4_length d s p0 hh ⟨rfl, rfl⟩
theorem dX4_at_0 : decode cX4_at 0 = .ok (.aload_n 0, 1) := by decide +kernel
theorem dX4_at_1 : decode cX4_at 1 = .ok (.getfield 9, 3) := by decide +kernel
theorem dX4_at_4 : decode cX4_at 4 = .ok (.bipush 40, 2) := by decide +kernel
theorem dX4_at_6 : decode cX4_at 6 = .ok (.iload_n 1, 1) := by decide +kernel
theorem dX4_at_7 : decode cX4_at 7 = .ok (.imul, 1) := by decide +kernel
theorem dX4_at_8 : decode cX4_at 8 = .ok (.iload_n 2, 1) := by decide +kernel
theorem dX4_at_9 : decode cX4_at 9 = .ok (.iadd, 1) := by decide +kernel
theorem dX4_at_10 : decode cX4_at 10 = .ok (.laload, 1) := by decide +kernel
theorem dX4_at_11 : decode cX4_at 11 = .ok (.lreturn, 1) := by decide +kernel
def fX4_at (s : Mem) (p0 : Int32) (p1 : Int32) : Option Int64 :=
  gd (((40 : Int32) * p0) + p1) 160 (some ((s.2 15 (((40 : Int32) * p0) + p1).toNatClampNeg)))
set_option maxRecDepth 4000 in
theorem jjX4_at {X : Scr} (d : Nat) (s : Mem) (p0 : Int32) (p1 : Int32) {r : Int64} {w : Option Value} {s' : Mem} (hh : fX4_at s p0 p1 = some r) (hk : w = some (.long r) ∧ s = s') : J X MX4_at (d + 0) 0 [some (.ref 14), some (.int p0), some (.int p1)] [] s w s' := by
  unfold fX4_at at hh
  refine J_aload_n (pc := 0) dX4_at_0 rfl ?_
  refine J_getR (pc := 1) (k := 0) flX4_9 so14 fk14_0 dX4_at_1 ?_
  refine J_bipush (pc := 4) dX4_at_4 cb_40 ?_
  refine J_iload_n (pc := 6) dX4_at_6 rfl ?_
  refine J_imul (pc := 7) dX4_at_7 ?_
  refine J_iload_n (pc := 8) dX4_at_8 rfl ?_
  refine J_iadd (pc := 9) dX4_at_9 ?_
  obtain ⟨h1, hh⟩ := gd_some hh
  refine J_lald (pc := 10) dX4_at_10 sa15 h1 ?_
  obtain rfl := Option.some.inj hh
  obtain ⟨rfl, rfl⟩ := hk
  exact J_ret (w := some (.long (s.2 15 (((40 : Int32) * p0) + p1).toNatClampNeg))) ⟨dX4_at_11, rfl⟩
theorem jX4_at {X : Scr} (d : Nat) (s : Mem) (p0 : Int32) (p1 : Int32) {r : Int64} (hh : fX4_at s p0 p1 = some r) : J X MX4_at (d + 0) 0 [some (.ref 14), some (.int p0), some (.int p1)] [] s (some (.long r)) s := jjX4_at d s p0 p1 hh ⟨rfl, rfl⟩
theorem dX4_becomes_0 : decode cX4_becomes 0 = .ok (.aload_n 0, 1) := by decide +kernel
theorem dX4_becomes_1 : decode cX4_becomes 1 = .ok (.getfield 13, 3) := by decide +kernel
theorem dX4_becomes_4 : decode cX4_becomes 4 = .ok (.iload_n 1, 1) := by decide +kernel
theorem dX4_becomes_5 : decode cX4_becomes 5 = .ok (.iload_n 2, 1) := by decide +kernel
theorem dX4_becomes_6 : decode cX4_becomes 6 = .ok (.iastore, 1) := by decide +kernel
theorem dX4_becomes_7 : decode cX4_becomes 7 = .ok (.aload_n 0, 1) := by decide +kernel
theorem dX4_becomes_8 : decode cX4_becomes 8 = .ok (.getfield 17, 3) := by decide +kernel
theorem dX4_becomes_11 : decode cX4_becomes 11 = .ok (.iload_n 1, 1) := by decide +kernel
theorem dX4_becomes_12 : decode cX4_becomes 12 = .ok (.iload_n 3, 1) := by decide +kernel
theorem dX4_becomes_13 : decode cX4_becomes 13 = .ok (.iastore, 1) := by decide +kernel
theorem dX4_becomes_14 : decode cX4_becomes 14 = .ok (.iconst 0, 1) := by decide +kernel
theorem dX4_becomes_15 : decode cX4_becomes 15 = .ok (.istore 4, 2) := by decide +kernel
theorem dX4_becomes_17 : decode cX4_becomes 17 = .ok (.iload 4, 2) := by decide +kernel
theorem dX4_becomes_19 : decode cX4_becomes 19 = .ok (.bipush 40, 2) := by decide +kernel
theorem dX4_becomes_21 : decode cX4_becomes 21 = .ok (.if_icmp .ge 22, 3) := by decide +kernel
theorem dX4_becomes_24 : decode cX4_becomes 24 = .ok (.aload_n 0, 1) := by decide +kernel
theorem dX4_becomes_25 : decode cX4_becomes 25 = .ok (.getfield 9, 3) := by decide +kernel
theorem dX4_becomes_28 : decode cX4_becomes 28 = .ok (.bipush 40, 2) := by decide +kernel
theorem dX4_becomes_30 : decode cX4_becomes 30 = .ok (.iload_n 1, 1) := by decide +kernel
theorem dX4_becomes_31 : decode cX4_becomes 31 = .ok (.imul, 1) := by decide +kernel
theorem dX4_becomes_32 : decode cX4_becomes 32 = .ok (.iload 4, 2) := by decide +kernel
theorem dX4_becomes_34 : decode cX4_becomes 34 = .ok (.iadd, 1) := by decide +kernel
theorem dX4_becomes_35 : decode cX4_becomes 35 = .ok (.lconst 0, 1) := by decide +kernel
theorem dX4_becomes_36 : decode cX4_becomes 36 = .ok (.lastore, 1) := by decide +kernel
theorem dX4_becomes_37 : decode cX4_becomes 37 = .ok (.iinc 4 1, 3) := by decide +kernel
theorem dX4_becomes_40 : decode cX4_becomes 40 = .ok (.goto (-23), 3) := by decide +kernel
theorem dX4_becomes_43 : decode cX4_becomes 43 = .ok (.iload_n 3, 1) := by decide +kernel
theorem dX4_becomes_44 : decode cX4_becomes 44 = .ok (.ireturn, 1) := by decide +kernel
def bX4_becomes_17 (s : Mem) (v1 : Int32) (v3 : Int32) (v4 : Int32) : Option (Mem ⊕ (Int32 × Mem)) :=
  if (40 : Int32) ≤ v4 then some (Sum.inl s) else gd (((40 : Int32) * v1) + v4) 160 (lt (upL s 15 (((40 : Int32) * v1) + v4).toNatClampNeg (0 : Int64)) (fun s6 => lt (v4 + (1 : Int32)) (fun x7 => some (Sum.inr (x7, s6)))))
set_option maxRecDepth 4000 in
theorem jbX4_becomes_17 {X : Scr} (d : Nat) (s : Mem) (v1 : Int32) (v3 : Int32) (v4 : Int32) {r : (Mem ⊕ (Int32 × Mem))} {w : Option Value} {s' : Mem} (hh : bX4_becomes_17 s v1 v3 v4 = some r) (hk : Sum.elim (fun t : Mem => J X MX4_becomes (d + 0) 43 [none, none, none, some (.int v3), none] [] t w s') (fun a : (Int32 × Mem) => J X MX4_becomes (d + 0) 17 [some (.ref 14), some (.int v1), none, some (.int v3), some (.int a.1)] [] a.2 w s') r) : J X MX4_becomes (d + 0) 17 [some (.ref 14), some (.int v1), none, some (.int v3), some (.int v4)] [] s w s' := by
  unfold bX4_becomes_17 at hh
  refine J_iload (pc := 17) dX4_becomes_17 rfl ?_
  refine J_bipush (pc := 19) dX4_becomes_19 cb_40 ?_
  refine J_icmp_ge (pc := 21) 43 dX4_becomes_21 (by decide) (fun c8 => ?_) (fun c8 => ?_)
  · replace hh := (if_pos c8).symm.trans hh
    refine J_drop 0 (L' := [none, some (.int v1), none, some (.int v3), some (.int v4)]) rfl ?_
    refine J_drop 1 (L' := [none, none, none, some (.int v3), some (.int v4)]) rfl ?_
    refine J_drop 4 (L' := [none, none, none, some (.int v3), none]) rfl ?_
    obtain rfl := Option.some.inj hh
    exact hk
  · replace hh := (if_neg c8).symm.trans hh
    refine J_aload_n (pc := 24) dX4_becomes_24 rfl ?_
    refine J_getR (pc := 25) (k := 0) flX4_9 so14 fk14_0 dX4_becomes_25 ?_
    refine J_bipush (pc := 28) dX4_becomes_28 cb_40 ?_
    refine J_iload_n (pc := 30) dX4_becomes_30 rfl ?_
    refine J_imul (pc := 31) dX4_becomes_31 ?_
    refine J_iload (pc := 32) dX4_becomes_32 rfl ?_
    refine J_iadd (pc := 34) dX4_becomes_34 ?_
    refine J_lconst (pc := 35) (v := 0) dX4_becomes_35 rfl ?_
    obtain ⟨h5, hh⟩ := gd_some hh
    refine J_lastL (pc := 36) dX4_becomes_36 sa15 h5 hh (fun s6 hh => ?_)
    refine J_iincL (pc := 37) (v := v4 + (1 : Int32)) (fun x7 => [some (.ref 14), some (.int v1), none, some (.int v3), some (.int x7)]) dX4_becomes_37 rfl rfl (Nat.le_of_ble_eq_true rfl) (congrArg _ ci_1) (fun _ => rfl) hh (fun x7 hh => ?_)
    refine J_goto (pc := 40) 17 dX4_becomes_40 (by decide) ?_
    obtain rfl := Option.some.inj hh
    exact hk
def fX4_becomes (s : Mem) (p0 : Int32) (p1 : Int32) (p2 : Int32) : Option (Int32 × Mem) :=
  gd p0 4 (lt (up2 s 16 p0.toNatClampNeg p1) (fun s2 => gd p0 4 (lt (up2 s2 17 p0.toNatClampNeg p2) (fun s4 => (lp (fun a => bX4_becomes_17 a.2 p0 p2 a.1) 600 ((0 : Int32), s4)).bind (fun y9 => some ((p2, y9)))))))
set_option maxRecDepth 4000 in
theorem jjX4_becomes {X : Scr} (d : Nat) (s : Mem) (p0 : Int32) (p1 : Int32) (p2 : Int32) {r : (Int32 × Mem)} {w : Option Value} {s' : Mem} (hh : fX4_becomes s p0 p1 p2 = some r) (hk : w = some (.int r.1) ∧ r.2 = s') : J X MX4_becomes (d + 0) 0 [some (.ref 14), some (.int p0), some (.int p1), some (.int p2), none] [] s w s' := by
  unfold fX4_becomes at hh
  refine J_aload_n (pc := 0) dX4_becomes_0 rfl ?_
  refine J_getR (pc := 1) (k := 1) flX4_13 so14 fk14_1 dX4_becomes_1 ?_
  refine J_iload_n (pc := 4) dX4_becomes_4 rfl ?_
  refine J_iload_n (pc := 5) dX4_becomes_5 rfl ?_
  obtain ⟨h1, hh⟩ := gd_some hh
  refine J_iastL (pc := 6) dX4_becomes_6 sa16 h1 hh (fun s2 hh => ?_)
  refine J_aload_n (pc := 7) dX4_becomes_7 rfl ?_
  refine J_getR (pc := 8) (k := 2) flX4_17 so14 fk14_2 dX4_becomes_8 ?_
  refine J_iload_n (pc := 11) dX4_becomes_11 rfl ?_
  refine J_iload_n (pc := 12) dX4_becomes_12 rfl ?_
  obtain ⟨h3, hh⟩ := gd_some hh
  refine J_iastL (pc := 13) dX4_becomes_13 sa17 h3 hh (fun s4 hh => ?_)
  refine J_iconst (pc := 14) dX4_becomes_14 ci_0 ?_
  refine J_istore (pc := 15) (L' := [some (.ref 14), some (.int p0), some (.int p1), some (.int p2), some (.int (0 : Int32))]) dX4_becomes_15 rfl (Nat.le_of_ble_eq_true rfl) rfl ?_
  refine J_drop 2 (L' := [some (.ref 14), some (.int p0), none, some (.int p2), some (.int (0 : Int32))]) rfl ?_
  obtain ⟨y9, hy9, hh⟩ := bd_some hh
  refine J_lp (a := ((0 : Int32), s4)) (fun a : (Int32 × Mem) => J X MX4_becomes (d + 0) 17 [some (.ref 14), some (.int p0), none, some (.int p2), some (.int a.1)] [] a.2 w s') (fun t : Mem => J X MX4_becomes (d + 0) 43 [none, none, none, some (.int p2), none] [] t w s') (fun a q h1 h2 => jbX4_becomes_17 d a.2 p0 p2 a.1 h1 h2) hy9 ?_
  refine J_iload_n (pc := 43) dX4_becomes_43 rfl ?_
  obtain rfl := Option.some.inj hh
  obtain ⟨rfl, rfl⟩ := hk
  exact J_ret (w := some (.int p2)) ⟨dX4_becomes_44, _, rfl, rfl⟩
theorem jX4_becomes {X : Scr} (d : Nat) (s : Mem) (p0 : Int32) (p1 : Int32) (p2 : Int32) {r : (Int32 × Mem)} (hh : fX4_becomes s p0 p1 p2 = some r) : J X MX4_becomes (d + 0) 0 [some (.ref 14), some (.int p0), some (.int p1), some (.int p2), none] [] s (some (.int r.1)) r.2 := jjX4_becomes d s p0 p1 p2 hh ⟨rfl, rfl⟩
theorem dX4_set_0 : decode cX4_set 0 = .ok (.aload_n 0, 1) := by decide +kernel
theorem dX4_set_1 : decode cX4_set 1 = .ok (.getfield 13, 3) := by decide +kernel
theorem dX4_set_4 : decode cX4_set 4 = .ok (.iload_n 1, 1) := by decide +kernel
theorem dX4_set_5 : decode cX4_set 5 = .ok (.iaload, 1) := by decide +kernel
theorem dX4_set_6 : decode cX4_set 6 = .ok (.ifCond .ne 10, 3) := by decide +kernel
theorem dX4_set_9 : decode cX4_set 9 = .ok (.lload_n 3, 1) := by decide +kernel
theorem dX4_set_10 : decode cX4_set 10 = .ok (.l2i, 1) := by decide +kernel
theorem dX4_set_11 : decode cX4_set 11 = .ok (.i2b, 1) := by decide +kernel
theorem dX4_set_12 : decode cX4_set 12 = .ok (.i2l, 1) := by decide +kernel
theorem dX4_set_13 : decode cX4_set 13 = .ok (.goto 20, 3) := by decide +kernel
theorem dX4_set_16 : decode cX4_set 16 = .ok (.aload_n 0, 1) := by decide +kernel
theorem dX4_set_17 : decode cX4_set 17 = .ok (.getfield 13, 3) := by decide +kernel
theorem dX4_set_20 : decode cX4_set 20 = .ok (.iload_n 1, 1) := by decide +kernel
theorem dX4_set_21 : decode cX4_set 21 = .ok (.iaload, 1) := by decide +kernel
theorem dX4_set_22 : decode cX4_set 22 = .ok (.iconst 1, 1) := by decide +kernel
theorem dX4_set_23 : decode cX4_set 23 = .ok (.if_icmp .ne 9, 3) := by decide +kernel
theorem dX4_set_26 : decode cX4_set 26 = .ok (.lload_n 3, 1) := by decide +kernel
theorem dX4_set_27 : decode cX4_set 27 = .ok (.l2i, 1) := by decide +kernel
theorem dX4_set_28 : decode cX4_set 28 = .ok (.i2l, 1) := by decide +kernel
theorem dX4_set_29 : decode cX4_set 29 = .ok (.goto 4, 3) := by decide +kernel
theorem dX4_set_32 : decode cX4_set 32 = .ok (.lload_n 3, 1) := by decide +kernel
theorem dX4_set_33 : decode cX4_set 33 = .ok (.lstore 5, 2) := by decide +kernel
theorem dX4_set_35 : decode cX4_set 35 = .ok (.aload_n 0, 1) := by decide +kernel
theorem dX4_set_36 : decode cX4_set 36 = .ok (.getfield 9, 3) := by decide +kernel
theorem dX4_set_39 : decode cX4_set 39 = .ok (.bipush 40, 2) := by decide +kernel
theorem dX4_set_41 : decode cX4_set 41 = .ok (.iload_n 1, 1) := by decide +kernel
theorem dX4_set_42 : decode cX4_set 42 = .ok (.imul, 1) := by decide +kernel
theorem dX4_set_43 : decode cX4_set 43 = .ok (.iload_n 2, 1) := by decide +kernel
theorem dX4_set_44 : decode cX4_set 44 = .ok (.iadd, 1) := by decide +kernel
theorem dX4_set_45 : decode cX4_set 45 = .ok (.lload 5, 2) := by decide +kernel
theorem dX4_set_47 : decode cX4_set 47 = .ok (.lastore, 1) := by decide +kernel
theorem dX4_set_48 : decode cX4_set 48 = .ok (.return_, 1) := by decide +kernel
def gX4_set_33 (s : Mem) (v1 : Int32) (v2 : Int32) (k0 : Int64) : Option Mem :=
  gd (((40 : Int32) * v1) + v2) 160 (lt (upL s 15 (((40 : Int32) * v1) + v2).toNatClampNeg k0) (fun s4 => some s4))
set_option maxRecDepth 4000 in
theorem jgX4_set_33 {X : Scr} (d : Nat) (s : Mem) (v1 : Int32) (v2 : Int32) (k0 : Int64) {r : Mem} {w : Option Value} {s' : Mem} (hh : gX4_set_33 s v1 v2 k0 = some r) (hk : w = none ∧ r = s') : J X MX4_set (d + 0) 33 [some (.ref 14), some (.int v1), some (.int v2), none, none, none, none] [.long k0] s w s' := by
  unfold gX4_set_33 at hh
  refine J_lstore (pc := 33) (L' := [some (.ref 14), some (.int v1), some (.int v2), none, none, some (.long k0), none]) dX4_set_33 rfl (Nat.le_of_ble_eq_true rfl) rfl ?_
  refine J_aload_n (pc := 35) dX4_set_35 rfl ?_
  refine J_getR (pc := 36) (k := 0) flX4_9 so14 fk14_0 dX4_set_36 ?_
  refine J_bipush (pc := 39) dX4_set_39 cb_40 ?_
  refine J_iload_n (pc := 41) dX4_set_41 rfl ?_
  refine J_imul (pc := 42) dX4_set_42 ?_
  refine J_iload_n (pc := 43) dX4_set_43 rfl ?_
  refine J_iadd (pc := 44) dX4_set_44 ?_
  refine J_lload (pc := 45) dX4_set_45 rfl ?_
  obtain ⟨h3, hh⟩ := gd_some hh
  refine J_lastL (pc := 47) dX4_set_47 sa15 h3 hh (fun s4 hh => ?_)
  obtain rfl := Option.some.inj hh
  obtain ⟨rfl, rfl⟩ := hk
  exact J_ret (w := none) ⟨dX4_set_48, rfl⟩
def fX4_set (s : Mem) (p0 : Int32) (p1 : Int32) (p2 : Int64) : Option Mem :=
  gd p0 4 (if (s.1 16 p0.toNatClampNeg) = (0 : Int32) then gX4_set_33 s p0 p1 (((p2.toInt32).toInt8.toInt32).toInt64) else gd p0 4 (if (s.1 16 p0.toNatClampNeg) = (1 : Int32) then gX4_set_33 s p0 p1 ((p2.toInt32).toInt64) else gX4_set_33 s p0 p1 p2))
set_option maxRecDepth 4000 in
theorem jjX4_set {X : Scr} (d : Nat) (s : Mem) (p0 : Int32) (p1 : Int32) (p2 : Int64) {r : Mem} {w : Option Value} {s' : Mem} (hh : fX4_set s p0 p1 p2 = some r) (hk : w = none ∧ r = s') : J X MX4_set (d + 0) 0 [some (.ref 14), some (.int p0), some (.int p1), some (.long p2), none, none, none] [] s w s' := by
  unfold fX4_set at hh
  refine J_aload_n (pc := 0) dX4_set_0 rfl ?_
  refine J_getR (pc := 1) (k := 1) flX4_13 so14 fk14_1 dX4_set_1 ?_
  refine J_iload_n (pc := 4) dX4_set_4 rfl ?_
  obtain ⟨h1, hh⟩ := gd_some hh
  refine J_iald (pc := 5) dX4_set_5 sa16 h1 ?_
  refine J_if_ne (pc := 6) 16 dX4_set_6 (by decide) (fun c6 => ?_) (fun c6 => ?_)
  · replace hh := (if_neg c6).symm.trans hh
    refine J_aload_n (pc := 16) dX4_set_16 rfl ?_
    refine J_getR (pc := 17) (k := 1) flX4_13 so14 fk14_1 dX4_set_17 ?_
    refine J_iload_n (pc := 20) dX4_set_20 rfl ?_
    obtain ⟨h2, hh⟩ := gd_some hh
    refine J_iald (pc := 21) dX4_set_21 sa16 h2 ?_
    refine J_iconst (pc := 22) dX4_set_22 ci_1 ?_
    refine J_icmp_ne (pc := 23) 32 dX4_set_23 (by decide) (fun c5 => ?_) (fun c5 => ?_)
    · replace hh := (if_neg c5).symm.trans hh
      refine J_lload_n (pc := 32) dX4_set_32 rfl ?_
      refine J_drop 3 (L' := [some (.ref 14), some (.int p0), some (.int p1), none, none, none, none]) rfl ?_
      exact jgX4_set_33 d s p0 p1 p2 hh hk
    · replace hh := (if_pos c5).symm.trans hh
      refine J_lload_n (pc := 26) dX4_set_26 rfl ?_
      refine J_l2i (pc := 27) dX4_set_27 ?_
      refine J_i2l (pc := 28) dX4_set_28 ?_
      refine J_goto (pc := 29) 33 dX4_set_29 (by decide) ?_
      refine J_drop 3 (L' := [some (.ref 14), some (.int p0), some (.int p1), none, none, none, none]) rfl ?_
      exact jgX4_set_33 d s p0 p1 ((p2.toInt32).toInt64) hh hk
  · replace hh := (if_pos c6).symm.trans hh
    refine J_lload_n (pc := 9) dX4_set_9 rfl ?_
    refine J_l2i (pc := 10) dX4_set_10 ?_
    refine J_i2b (pc := 11) dX4_set_11 ?_
    refine J_i2l (pc := 12) dX4_set_12 ?_
    refine J_goto (pc := 13) 33 dX4_set_13 (by decide) ?_
    refine J_drop 3 (L' := [some (.ref 14), some (.int p0), some (.int p1), none, none, none, none]) rfl ?_
    exact jgX4_set_33 d s p0 p1 (((p2.toInt32).toInt8.toInt32).toInt64) hh hk
theorem jX4_set {X : Scr} (d : Nat) (s : Mem) (p0 : Int32) (p1 : Int32) (p2 : Int64) {r : Mem} (hh : fX4_set s p0 p1 p2 = some r) : J X MX4_set (d + 0) 0 [some (.ref 14), some (.int p0), some (.int p1), some (.long p2), none, none, none] [] s (none) r := jjX4_set d s p0 p1 p2 hh ⟨rfl, rfl⟩
theorem dX4_carry_0 : decode cX4_carry 0 = .ok (.aload_n 0, 1) := by decide +kernel
theorem dX4_carry_1 : decode cX4_carry 1 = .ok (.getfield 9, 3) := by decide +kernel
theorem dX4_carry_4 : decode cX4_carry 4 = .ok (.bipush 40, 2) := by decide +kernel
theorem dX4_carry_6 : decode cX4_carry 6 = .ok (.iload_n 1, 1) := by decide +kernel
theorem dX4_carry_7 : decode cX4_carry 7 = .ok (.imul, 1) := by decide +kernel
theorem dX4_carry_8 : decode cX4_carry 8 = .ok (.iload_n 2, 1) := by decide +kernel
theorem dX4_carry_9 : decode cX4_carry 9 = .ok (.iadd, 1) := by decide +kernel
theorem dX4_carry_10 : decode cX4_carry 10 = .ok (.aload_n 0, 1) := by decide +kernel
theorem dX4_carry_11 : decode cX4_carry 11 = .ok (.getfield 9, 3) := by decide +kernel
theorem dX4_carry_14 : decode cX4_carry 14 = .ok (.bipush 40, 2) := by decide +kernel
theorem dX4_carry_16 : decode cX4_carry 16 = .ok (.iload_n 3, 1) := by decide +kernel
theorem dX4_carry_17 : decode cX4_carry 17 = .ok (.imul, 1) := by decide +kernel
theorem dX4_carry_18 : decode cX4_carry 18 = .ok (.iload 4, 2) := by decide +kernel
theorem dX4_carry_20 : decode cX4_carry 20 = .ok (.iadd, 1) := by decide +kernel
theorem dX4_carry_21 : decode cX4_carry 21 = .ok (.iload 5, 2) := by decide +kernel
theorem dX4_carry_23 : decode cX4_carry 23 = .ok (.invokestatic 20, 3) := by decide +kernel
theorem dX4_carry_26 : decode cX4_carry 26 = .ok (.return_, 1) := by decide +kernel
def fX4_carry (s : Mem) (p0 : Int32) (p1 : Int32) (p2 : Int32) (p3 : Int32) (p4 : Int32) : Option Mem :=
  gcp (((40 : Int32) * p0) + p1) (((40 : Int32) * p2) + p3) p4 160 160 (lt (upRL s 15 (va_cpy (s.2 15) (s.2 15) (((40 : Int32) * p0) + p1).toNatClampNeg (((40 : Int32) * p2) + p3).toNatClampNeg p4.toNatClampNeg)) (fun s1 => some s1))
set_option maxRecDepth 4000 in
theorem jjX4_carry {X : Scr} (d : Nat) (s : Mem) (p0 : Int32) (p1 : Int32) (p2 : Int32) (p3 : Int32) (p4 : Int32) {r : Mem} {w : Option Value} {s' : Mem} (hh : fX4_carry s p0 p1 p2 p3 p4 = some r) (hk : w = none ∧ r = s') : J X MX4_carry (d + 1) 0 [some (.ref 14), some (.int p0), some (.int p1), some (.int p2), some (.int p3), some (.int p4)] [] s w s' := by
  unfold fX4_carry at hh
  refine J_aload_n (pc := 0) dX4_carry_0 rfl ?_
  refine J_getR (pc := 1) (k := 0) flX4_9 so14 fk14_0 dX4_carry_1 ?_
  refine J_bipush (pc := 4) dX4_carry_4 cb_40 ?_
  refine J_iload_n (pc := 6) dX4_carry_6 rfl ?_
  refine J_imul (pc := 7) dX4_carry_7 ?_
  refine J_iload_n (pc := 8) dX4_carry_8 rfl ?_
  refine J_iadd (pc := 9) dX4_carry_9 ?_
  refine J_aload_n (pc := 10) dX4_carry_10 rfl ?_
  refine J_getR (pc := 11) (k := 0) flX4_9 so14 fk14_0 dX4_carry_11 ?_
  refine J_bipush (pc := 14) dX4_carry_14 cb_40 ?_
  refine J_iload_n (pc := 16) dX4_carry_16 rfl ?_
  refine J_imul (pc := 17) dX4_carry_17 ?_
  refine J_iload (pc := 18) dX4_carry_18 rfl ?_
  refine J_iadd (pc := 20) dX4_carry_20 ?_
  refine J_iload (pc := 21) dX4_carry_21 rfl ?_
  obtain ⟨hz2, hh⟩ := gcp_some hh
  refine J_copyLL (pc := 23) cpX4_20 sa15 sa15 (Nat.le_of_ble_eq_true rfl) hz2 dX4_carry_23 hh (fun s1 hh => ?_)
  obtain rfl := Option.some.inj hh
  obtain ⟨rfl, rfl⟩ := hk
  exact J_ret (w := none) ⟨dX4_carry_26, rfl⟩
theorem jX4_carry {X : Scr} (d : Nat) (s : Mem) (p0 : Int32) (p1 : Int32) (p2 : Int32) (p3 : Int32) (p4 : Int32) {r : Mem} (hh : fX4_carry s p0 p1 p2 p3 p4 = some r) : J X MX4_carry (d + 1) 0 [some (.ref 14), some (.int p0), some (.int p1), some (.int p2), some (.int p3), some (.int p4)] [] s (none) r := jjX4_carry d s p0 p1 p2 p3 p4 hh ⟨rfl, rfl⟩
