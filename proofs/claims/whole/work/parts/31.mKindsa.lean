theorem dX1_days_0 : decode cX1_days 0 = .ok (.iconst 0, 1) := by decide +kernel
theorem dX1_days_1 : decode cX1_days 1 = .ok (.istore_n 1, 1) := by decide +kernel
theorem dX1_days_2 : decode cX1_days 2 = .ok (.iconst 0, 1) := by decide +kernel
theorem dX1_days_3 : decode cX1_days 3 = .ok (.istore_n 2, 1) := by decide +kernel
theorem dX1_days_4 : decode cX1_days 4 = .ok (.iload_n 2, 1) := by decide +kernel
theorem dX1_days_5 : decode cX1_days 5 = .ok (.iconst 5, 1) := by decide +kernel
theorem dX1_days_6 : decode cX1_days 6 = .ok (.if_icmp .ge 23, 3) := by decide +kernel
theorem dX1_days_9 : decode cX1_days 9 = .ok (.iload_n 0, 1) := by decide +kernel
theorem dX1_days_10 : decode cX1_days 10 = .ok (.iconst 4, 1) := by decide +kernel
theorem dX1_days_11 : decode cX1_days 11 = .ok (.iload_n 2, 1) := by decide +kernel
theorem dX1_days_12 : decode cX1_days 12 = .ok (.imul, 1) := by decide +kernel
theorem dX1_days_13 : decode cX1_days 13 = .ok (.ishr, 1) := by decide +kernel
theorem dX1_days_14 : decode cX1_days 14 = .ok (.bipush 15, 2) := by decide +kernel
theorem dX1_days_16 : decode cX1_days 16 = .ok (.iand, 1) := by decide +kernel
theorem dX1_days_17 : decode cX1_days 17 = .ok (.ifCond .eq 6, 3) := by decide +kernel
theorem dX1_days_20 : decode cX1_days 20 = .ok (.iinc 1 1, 3) := by decide +kernel
theorem dX1_days_23 : decode cX1_days 23 = .ok (.iinc 2 1, 3) := by decide +kernel
theorem dX1_days_26 : decode cX1_days 26 = .ok (.goto (-22), 3) := by decide +kernel
theorem dX1_days_29 : decode cX1_days 29 = .ok (.iload_n 1, 1) := by decide +kernel
theorem dX1_days_30 : decode cX1_days 30 = .ok (.ireturn, 1) := by decide +kernel
def bX1_days_4 (v0 : Int32) (v1 : Int32) (v2 : Int32) : Option (Int32 ⊕ (Int32 × Int32)) :=
  if (5 : Int32) ≤ v2 then some (Sum.inl v1) else if ((v0 >>> (((4 : Int32) * v2) &&& 31)) &&& (15 : Int32)) = (0 : Int32) then lt (v2 + (1 : Int32)) (fun x1 => some (Sum.inr (v1, x1))) else lt (v1 + (1 : Int32)) (fun x2 => lt (v2 + (1 : Int32)) (fun x3 => some (Sum.inr (x2, x3))))
set_option maxRecDepth 4000 in
theorem jbX1_days_4 {X : Scr} (d : Nat) {s : Mem} (v0 : Int32) (v1 : Int32) (v2 : Int32) {r : (Int32 ⊕ (Int32 × Int32))} {w : Option Value} {s' : Mem} (hh : bX1_days_4 v0 v1 v2 = some r) (hk : Sum.elim (fun t : Int32 => J X MX1_days (d + 0) 29 [none, some (.int t), none] [] s w s') (fun a : (Int32 × Int32) => J X MX1_days (d + 0) 4 [some (.int v0), some (.int a.1), some (.int a.2)] [] s w s') r) : J X MX1_days (d + 0) 4 [some (.int v0), some (.int v1), some (.int v2)] [] s w s' := by
  unfold bX1_days_4 at hh
  refine J_iload_n (pc := 4) dX1_days_4 rfl ?_
  refine J_iconst (pc := 5) dX1_days_5 ci_5 ?_
  refine J_icmp_ge (pc := 6) 29 dX1_days_6 (by decide) (fun c5 => ?_) (fun c5 => ?_)
  · replace hh := (if_pos c5).symm.trans hh
    refine J_drop 0 (L' := [none, some (.int v1), some (.int v2)]) rfl ?_
    refine J_drop 2 (L' := [none, some (.int v1), none]) rfl ?_
    obtain rfl := Option.some.inj hh
    exact hk
  · replace hh := (if_neg c5).symm.trans hh
    refine J_iload_n (pc := 9) dX1_days_9 rfl ?_
    refine J_iconst (pc := 10) dX1_days_10 ci_4 ?_
    refine J_iload_n (pc := 11) dX1_days_11 rfl ?_
    refine J_imul (pc := 12) dX1_days_12 ?_
    refine J_ishr (pc := 13) dX1_days_13 ?_
    refine J_bipush (pc := 14) dX1_days_14 cb_15 ?_
    refine J_iand (pc := 16) dX1_days_16 ?_
    refine J_if_eq (pc := 17) 23 dX1_days_17 (by decide) (fun c4 => ?_) (fun c4 => ?_)
    · replace hh := (if_pos c4).symm.trans hh
      refine J_iincL (pc := 23) (v := v2 + (1 : Int32)) (fun x1 => [some (.int v0), some (.int v1), some (.int x1)]) dX1_days_23 rfl rfl (Nat.le_of_ble_eq_true rfl) (congrArg _ ci_1) (fun _ => rfl) hh (fun x1 hh => ?_)
      refine J_goto (pc := 26) 4 dX1_days_26 (by decide) ?_
      obtain rfl := Option.some.inj hh
      exact hk
    · replace hh := (if_neg c4).symm.trans hh
      refine J_iincL (pc := 20) (v := v1 + (1 : Int32)) (fun x2 => [some (.int v0), some (.int x2), some (.int v2)]) dX1_days_20 rfl rfl (Nat.le_of_ble_eq_true rfl) (congrArg _ ci_1) (fun _ => rfl) hh (fun x2 hh => ?_)
      refine J_iincL (pc := 23) (v := v2 + (1 : Int32)) (fun x3 => [some (.int v0), some (.int x2), some (.int x3)]) dX1_days_23 rfl rfl (Nat.le_of_ble_eq_true rfl) (congrArg _ ci_1) (fun _ => rfl) hh (fun x3 hh => ?_)
      refine J_goto (pc := 26) 4 dX1_days_26 (by decide) ?_
      obtain rfl := Option.some.inj hh
      exact hk
def fX1_days (p0 : Int32) : Option Int32 :=
  (lp (fun a => bX1_days_4 p0 a.1 a.2) 600 ((0 : Int32), (0 : Int32))).bind (fun y6 => some y6)
set_option maxRecDepth 4000 in
theorem jjX1_days {X : Scr} (d : Nat) {s : Mem} (p0 : Int32) {r : Int32} {w : Option Value} {s' : Mem} (hh : fX1_days p0 = some r) (hk : w = some (.int r) ∧ s = s') : J X MX1_days (d + 0) 0 [some (.int p0), none, none] [] s w s' := by
  unfold fX1_days at hh
  refine J_iconst (pc := 0) dX1_days_0 ci_0 ?_
  refine J_istore_n (pc := 1) (L' := [some (.int p0), some (.int (0 : Int32)), none]) dX1_days_1 rfl (Nat.le_of_ble_eq_true rfl) rfl ?_
  refine J_iconst (pc := 2) dX1_days_2 ci_0 ?_
  refine J_istore_n (pc := 3) (L' := [some (.int p0), some (.int (0 : Int32)), some (.int (0 : Int32))]) dX1_days_3 rfl (Nat.le_of_ble_eq_true rfl) rfl ?_
  obtain ⟨y6, hy6, hh⟩ := bd_some hh
  refine J_lp (a := ((0 : Int32), (0 : Int32))) (fun a : (Int32 × Int32) => J X MX1_days (d + 0) 4 [some (.int p0), some (.int a.1), some (.int a.2)] [] s w s') (fun t : Int32 => J X MX1_days (d + 0) 29 [none, some (.int t), none] [] s w s') (fun a q h1 h2 => jbX1_days_4 d p0 a.1 a.2 h1 h2) hy6 ?_
  refine J_iload_n (pc := 29) dX1_days_29 rfl ?_
  obtain rfl := Option.some.inj hh
  obtain ⟨rfl, rfl⟩ := hk
  exact J_ret (w := some (.int y6)) ⟨dX1_days_30, _, rfl, rfl⟩
theorem jX1_days {X : Scr} (d : Nat) (s : Mem) (p0 : Int32) {r : Int32} (hh : fX1_days p0 = some r) : J X MX1_days (d + 0) 0 [some (.int p0), none, none] [] s (some (.int r)) s := jjX1_days d p0 hh ⟨rfl, rfl⟩
theorem dJ6_bitCount_0f7a4_0 : decode cJ6_bitCount_0f7a4 0 = .ok (.iload_n 0, 1) := by decide +kernel
theorem dJ6_bitCount_0f7a4_1 : decode cJ6_bitCount_0f7a4 1 = .ok (.iload_n 0, 1) := by decide +kernel
theorem dJ6_bitCount_0f7a4_2 : decode cJ6_bitCount_0f7a4 2 = .ok (.iconst 1, 1) := by decide +kernel
theorem dJ6_bitCount_0f7a4_3 : decode cJ6_bitCount_0f7a4 3 = .ok (.iushr, 1) := by decide +kernel
theorem dJ6_bitCount_0f7a4_4 : decode cJ6_bitCount_0f7a4 4 = .ok (.ldc_w 265, 3) := by decide +kernel
theorem dJ6_bitCount_0f7a4_7 : decode cJ6_bitCount_0f7a4 7 = .ok (.iand, 1) := by decide +kernel
theorem dJ6_bitCount_0f7a4_8 : decode cJ6_bitCount_0f7a4 8 = .ok (.isub, 1) := by decide +kernel
theorem dJ6_bitCount_0f7a4_9 : decode cJ6_bitCount_0f7a4 9 = .ok (.istore_n 0, 1) := by decide +kernel
theorem dJ6_bitCount_0f7a4_10 : decode cJ6_bitCount_0f7a4 10 = .ok (.iload_n 0, 1) := by decide +kernel
theorem dJ6_bitCount_0f7a4_11 : decode cJ6_bitCount_0f7a4 11 = .ok (.ldc_w 266, 3) := by decide +kernel
theorem dJ6_bitCount_0f7a4_14 : decode cJ6_bitCount_0f7a4 14 = .ok (.iand, 1) := by decide +kernel
theorem dJ6_bitCount_0f7a4_15 : decode cJ6_bitCount_0f7a4 15 = .ok (.iload_n 0, 1) := by decide +kernel
theorem dJ6_bitCount_0f7a4_16 : decode cJ6_bitCount_0f7a4 16 = .ok (.iconst 2, 1) := by decide +kernel
theorem dJ6_bitCount_0f7a4_17 : decode cJ6_bitCount_0f7a4 17 = .ok (.iushr, 1) := by decide +kernel
theorem dJ6_bitCount_0f7a4_18 : decode cJ6_bitCount_0f7a4 18 = .ok (.ldc_w 266, 3) := by decide +kernel
theorem dJ6_bitCount_0f7a4_21 : decode cJ6_bitCount_0f7a4 21 = .ok (.iand, 1) := by decide +kernel
theorem dJ6_bitCount_0f7a4_22 : decode cJ6_bitCount_0f7a4 22 = .ok (.iadd, 1) := by decide +kernel
theorem dJ6_bitCount_0f7a4_23 : decode cJ6_bitCount_0f7a4 23 = .ok (.istore_n 0, 1) := by decide +kernel
theorem dJ6_bitCount_0f7a4_24 : decode cJ6_bitCount_0f7a4 24 = .ok (.iload_n 0, 1) := by decide +kernel
theorem dJ6_bitCount_0f7a4_25 : decode cJ6_bitCount_0f7a4 25 = .ok (.iload_n 0, 1) := by decide +kernel
theorem dJ6_bitCount_0f7a4_26 : decode cJ6_bitCount_0f7a4 26 = .ok (.iconst 4, 1) := by decide +kernel
theorem dJ6_bitCount_0f7a4_27 : decode cJ6_bitCount_0f7a4 27 = .ok (.iushr, 1) := by decide +kernel
theorem dJ6_bitCount_0f7a4_28 : decode cJ6_bitCount_0f7a4 28 = .ok (.iadd, 1) := by decide +kernel
theorem dJ6_bitCount_0f7a4_29 : decode cJ6_bitCount_0f7a4 29 = .ok (.ldc_w 267, 3) := by decide +kernel
theorem dJ6_bitCount_0f7a4_32 : decode cJ6_bitCount_0f7a4 32 = .ok (.iand, 1) := by decide +kernel
theorem dJ6_bitCount_0f7a4_33 : decode cJ6_bitCount_0f7a4 33 = .ok (.istore_n 0, 1) := by decide +kernel
theorem dJ6_bitCount_0f7a4_34 : decode cJ6_bitCount_0f7a4 34 = .ok (.iload_n 0, 1) := by decide +kernel
theorem dJ6_bitCount_0f7a4_35 : decode cJ6_bitCount_0f7a4 35 = .ok (.iload_n 0, 1) := by decide +kernel
theorem dJ6_bitCount_0f7a4_36 : decode cJ6_bitCount_0f7a4 36 = .ok (.bipush 8, 2) := by decide +kernel
theorem dJ6_bitCount_0f7a4_38 : decode cJ6_bitCount_0f7a4 38 = .ok (.iushr, 1) := by decide +kernel
theorem dJ6_bitCount_0f7a4_39 : decode cJ6_bitCount_0f7a4 39 = .ok (.iadd, 1) := by decide +kernel
theorem dJ6_bitCount_0f7a4_40 : decode cJ6_bitCount_0f7a4 40 = .ok (.istore_n 0, 1) := by decide +kernel
theorem dJ6_bitCount_0f7a4_41 : decode cJ6_bitCount_0f7a4 41 = .ok (.iload_n 0, 1) := by decide +kernel
theorem dJ6_bitCount_0f7a4_42 : decode cJ6_bitCount_0f7a4 42 = .ok (.iload_n 0, 1) := by decide +kernel
theorem dJ6_bitCount_0f7a4_43 : decode cJ6_bitCount_0f7a4 43 = .ok (.bipush 16, 2) := by decide +kernel
theorem dJ6_bitCount_0f7a4_45 : decode cJ6_bitCount_0f7a4 45 = .ok (.iushr, 1) := by decide +kernel
theorem dJ6_bitCount_0f7a4_46 : decode cJ6_bitCount_0f7a4 46 = .ok (.iadd, 1) := by decide +kernel
theorem dJ6_bitCount_0f7a4_47 : decode cJ6_bitCount_0f7a4 47 = .ok (.istore_n 0, 1) := by decide +kernel
theorem dJ6_bitCount_0f7a4_48 : decode cJ6_bitCount_0f7a4 48 = .ok (.iload_n 0, 1) := by decide +kernel
theorem dJ6_bitCount_0f7a4_49 : decode cJ6_bitCount_0f7a4 49 = .ok (.bipush 63, 2) := by decide +kernel
theorem dJ6_bitCount_0f7a4_51 : decode cJ6_bitCount_0f7a4 51 = .ok (.iand, 1) := by decide +kernel
theorem dJ6_bitCount_0f7a4_52 : decode cJ6_bitCount_0f7a4 52 = .ok (.ireturn, 1) := by decide +kernel
def fJ6_bitCount_0f7a4 (p0 : Int32) : Option Int32 :=
  lt (p0 - (((p0.toUInt32 >>> ((1 : Int32).toUInt32 &&& Int32.toUInt32 31)).toInt32) &&& (1431655765 : Int32))) (fun x1 => lt ((x1 &&& (858993459 : Int32)) + (((x1.toUInt32 >>> ((2 : Int32).toUInt32 &&& Int32.toUInt32 31)).toInt32) &&& (858993459 : Int32))) (fun x2 => lt ((x2 + ((x2.toUInt32 >>> ((4 : Int32).toUInt32 &&& Int32.toUInt32 31)).toInt32)) &&& (252645135 : Int32)) (fun x3 => lt (x3 + ((x3.toUInt32 >>> ((8 : Int32).toUInt32 &&& Int32.toUInt32 31)).toInt32)) (fun x4 => lt (x4 + ((x4.toUInt32 >>> ((16 : Int32).toUInt32 &&& Int32.toUInt32 31)).toInt32)) (fun x5 => some ((x5 &&& (63 : Int32))))))))
set_option maxRecDepth 4000 in
theorem jjJ6_bitCount_0f7a4 {X : Scr} (d : Nat) {s : Mem} (p0 : Int32) {r : Int32} {w : Option Value} {s' : Mem} (hh : fJ6_bitCount_0f7a4 p0 = some r) (hk : w = some (.int r) ∧ s = s') : J X MJ6_bitCount_0f7a4 (d + 0) 0 [some (.int p0)] [] s w s' := by
  unfold fJ6_bitCount_0f7a4 at hh
  refine J_iload_n (pc := 0) dJ6_bitCount_0f7a4_0 rfl ?_
  refine J_iload_n (pc := 1) dJ6_bitCount_0f7a4_1 rfl ?_
  refine J_iconst (pc := 2) dJ6_bitCount_0f7a4_2 ci_1 ?_
  refine J_iushr (pc := 3) dJ6_bitCount_0f7a4_3 ?_
  refine J_ldcw (pc := 4) kcJ6_265 dJ6_bitCount_0f7a4_4 ?_
  refine J_iand (pc := 7) dJ6_bitCount_0f7a4_7 ?_
  refine J_isub (pc := 8) dJ6_bitCount_0f7a4_8 ?_
  refine J_istoreL_n (pc := 9) (fun x1 => [some (.int x1)]) dJ6_bitCount_0f7a4_9 rfl (Nat.le_of_ble_eq_true rfl) (fun _ => rfl) hh (fun x1 hh => ?_)
  refine J_iload_n (pc := 10) dJ6_bitCount_0f7a4_10 rfl ?_
  refine J_ldcw (pc := 11) kcJ6_266 dJ6_bitCount_0f7a4_11 ?_
  refine J_iand (pc := 14) dJ6_bitCount_0f7a4_14 ?_
  refine J_iload_n (pc := 15) dJ6_bitCount_0f7a4_15 rfl ?_
  refine J_iconst (pc := 16) dJ6_bitCount_0f7a4_16 ci_2 ?_
  refine J_iushr (pc := 17) dJ6_bitCount_0f7a4_17 ?_
  refine J_ldcw (pc := 18) kcJ6_266 dJ6_bitCount_0f7a4_18 ?_
  refine J_iand (pc := 21) dJ6_bitCount_0f7a4_21 ?_
  refine J_iadd (pc := 22) dJ6_bitCount_0f7a4_22 ?_
  refine J_istoreL_n (pc := 23) (fun x2 => [some (.int x2)]) dJ6_bitCount_0f7a4_23 rfl (Nat.le_of_ble_eq_true rfl) (fun _ => rfl) hh (fun x2 hh => ?_)
  refine J_iload_n (pc := 24) dJ6_bitCount_0f7a4_24 rfl ?_
  refine J_iload_n (pc := 25) dJ6_bitCount_0f7a4_25 rfl ?_
  refine J_iconst (pc := 26) dJ6_bitCount_0f7a4_26 ci_4 ?_
  refine J_iushr (pc := 27) dJ6_bitCount_0f7a4_27 ?_
  refine J_iadd (pc := 28) dJ6_bitCount_0f7a4_28 ?_
  refine J_ldcw (pc := 29) kcJ6_267 dJ6_bitCount_0f7a4_29 ?_
  refine J_iand (pc := 32) dJ6_bitCount_0f7a4_32 ?_
  refine J_istoreL_n (pc := 33) (fun x3 => [some (.int x3)]) dJ6_bitCount_0f7a4_33 rfl (Nat.le_of_ble_eq_true rfl) (fun _ => rfl) hh (fun x3 hh => ?_)
  refine J_iload_n (pc := 34) dJ6_bitCount_0f7a4_34 rfl ?_
  refine J_iload_n (pc := 35) dJ6_bitCount_0f7a4_35 rfl ?_
  refine J_bipush (pc := 36) dJ6_bitCount_0f7a4_36 cb_8 ?_
  refine J_iushr (pc := 38) dJ6_bitCount_0f7a4_38 ?_
  refine J_iadd (pc := 39) dJ6_bitCount_0f7a4_39 ?_
  refine J_istoreL_n (pc := 40) (fun x4 => [some (.int x4)]) dJ6_bitCount_0f7a4_40 rfl (Nat.le_of_ble_eq_true rfl) (fun _ => rfl) hh (fun x4 hh => ?_)
  refine J_iload_n (pc := 41) dJ6_bitCount_0f7a4_41 rfl ?_
  refine J_iload_n (pc := 42) dJ6_bitCount_0f7a4_42 rfl ?_
  refine J_bipush (pc := 43) dJ6_bitCount_0f7a4_43 cb_16 ?_
  refine J_iushr (pc := 45) dJ6_bitCount_0f7a4_45 ?_
  refine J_iadd (pc := 46) dJ6_bitCount_0f7a4_46 ?_
  refine J_istoreL_n (pc := 47) (fun x5 => [some (.int x5)]) dJ6_bitCount_0f7a4_47 rfl (Nat.le_of_ble_eq_true rfl) (fun _ => rfl) hh (fun x5 hh => ?_)
  refine J_iload_n (pc := 48) dJ6_bitCount_0f7a4_48 rfl ?_
  refine J_bipush (pc := 49) dJ6_bitCount_0f7a4_49 cb_63 ?_
  refine J_iand (pc := 51) dJ6_bitCount_0f7a4_51 ?_
  obtain rfl := Option.some.inj hh
  obtain ⟨rfl, rfl⟩ := hk
  exact J_ret (w := some (.int (x5 &&& (63 : Int32)))) ⟨dJ6_bitCount_0f7a4_52, _, rfl, rfl⟩
theorem jJ6_bitCount_0f7a4 {X : Scr} (d : Nat) (s : Mem) (p0 : Int32) {r : Int32} (hh : fJ6_bitCount_0f7a4 p0 = some r) : J X MJ6_bitCount_0f7a4 (d + 0) 0 [some (.int p0)] [] s (some (.int r)) s := jjJ6_bitCount_0f7a4 d p0 hh ⟨rfl, rfl⟩
theorem dX1_price_0 : decode cX1_price 0 = .ok (.iload_n 1, 1) := by decide +kernel
theorem dX1_price_1 : decode cX1_price 1 = .ok (.invokestatic 27, 3) := by decide +kernel
theorem dX1_price_4 : decode cX1_price 4 = .ok (.iload_n 1, 1) := by decide +kernel
theorem dX1_price_5 : decode cX1_price 5 = .ok (.ldc 30, 2) := by decide +kernel
theorem dX1_price_7 : decode cX1_price 7 = .ok (.iand, 1) := by decide +kernel
theorem dX1_price_8 : decode cX1_price 8 = .ok (.invokestatic 31, 3) := by decide +kernel
theorem dX1_price_11 : decode cX1_price 11 = .ok (.iadd, 1) := by decide +kernel
theorem dX1_price_12 : decode cX1_price 12 = .ok (.istore_n 2, 1) := by decide +kernel
theorem dX1_price_13 : decode cX1_price 13 = .ok (.iload_n 1, 1) := by decide +kernel
theorem dX1_price_14 : decode cX1_price 14 = .ok (.invokestatic 27, 3) := by decide +kernel
theorem dX1_price_17 : decode cX1_price 17 = .ok (.iload_n 1, 1) := by decide +kernel
theorem dX1_price_18 : decode cX1_price 18 = .ok (.ldc 36, 2) := by decide +kernel
theorem dX1_price_20 : decode cX1_price 20 = .ok (.iand, 1) := by decide +kernel
theorem dX1_price_21 : decode cX1_price 21 = .ok (.invokestatic 31, 3) := by decide +kernel
theorem dX1_price_24 : decode cX1_price 24 = .ok (.iadd, 1) := by decide +kernel
theorem dX1_price_25 : decode cX1_price 25 = .ok (.istore_n 3, 1) := by decide +kernel
theorem dX1_price_26 : decode cX1_price 26 = .ok (.iload_n 0, 1) := by decide +kernel
theorem dX1_price_27 : decode cX1_price 27 = .ok (.tableswitch 60 0 4 #[33, 38, 40, 42, 55], 33) := by decide +kernel
theorem dX1_price_60 : decode cX1_price 60 = .ok (.iload_n 1, 1) := by decide +kernel
theorem dX1_price_61 : decode cX1_price 61 = .ok (.invokestatic 27, 3) := by decide +kernel
theorem dX1_price_64 : decode cX1_price 64 = .ok (.ireturn, 1) := by decide +kernel
theorem dX1_price_65 : decode cX1_price 65 = .ok (.iload_n 2, 1) := by decide +kernel
theorem dX1_price_66 : decode cX1_price 66 = .ok (.ireturn, 1) := by decide +kernel
theorem dX1_price_67 : decode cX1_price 67 = .ok (.iload_n 3, 1) := by decide +kernel
theorem dX1_price_68 : decode cX1_price 68 = .ok (.ireturn, 1) := by decide +kernel
theorem dX1_price_69 : decode cX1_price 69 = .ok (.iload_n 2, 1) := by decide +kernel
theorem dX1_price_70 : decode cX1_price 70 = .ok (.iconst 2, 1) := by decide +kernel
theorem dX1_price_71 : decode cX1_price 71 = .ok (.iload_n 1, 1) := by decide +kernel
theorem dX1_price_72 : decode cX1_price 72 = .ok (.sipush 3840, 3) := by decide +kernel
theorem dX1_price_75 : decode cX1_price 75 = .ok (.iand, 1) := by decide +kernel
theorem dX1_price_76 : decode cX1_price 76 = .ok (.invokestatic 31, 3) := by decide +kernel
theorem dX1_price_79 : decode cX1_price 79 = .ok (.imul, 1) := by decide +kernel
theorem dX1_price_80 : decode cX1_price 80 = .ok (.iadd, 1) := by decide +kernel
theorem dX1_price_81 : decode cX1_price 81 = .ok (.ireturn, 1) := by decide +kernel
theorem dX1_price_82 : decode cX1_price 82 = .ok (.bipush 20, 2) := by decide +kernel
theorem dX1_price_84 : decode cX1_price 84 = .ok (.iload_n 3, 1) := by decide +kernel
theorem dX1_price_85 : decode cX1_price 85 = .ok (.isub, 1) := by decide +kernel
theorem dX1_price_86 : decode cX1_price 86 = .ok (.ireturn, 1) := by decide +kernel
theorem dX1_price_87 : decode cX1_price 87 = .ok (.iconst 0, 1) := by decide +kernel
theorem dX1_price_88 : decode cX1_price 88 = .ok (.ireturn, 1) := by decide +kernel
def fX1_price (p0 : Int32) (p1 : Int32) : Option Int32 :=
  (fX1_days p1).bind (fun y1 => (fJ6_bitCount_0f7a4 (p1 &&& (559240 : Int32))).bind (fun y2 => lt (y1 + y2) (fun x3 => (fX1_days p1).bind (fun y4 => (fJ6_bitCount_0f7a4 (p1 &&& (69905 : Int32))).bind (fun y5 => lt (y4 + y5) (fun x6 => if p0 = (0 : Int32) then (fX1_days p1).bind (fun y8 => some y8) else if p0 = (1 : Int32) then some x3 else if p0 = (2 : Int32) then some x6 else if p0 = (3 : Int32) then (fJ6_bitCount_0f7a4 (p1 &&& (3840 : Int32))).bind (fun y12 => some ((x3 + ((2 : Int32) * y12)))) else if p0 = (4 : Int32) then some (((20 : Int32) - x6)) else some (0 : Int32)))))))
set_option maxRecDepth 4000 in
theorem jjX1_price {X : Scr} (d : Nat) {s : Mem} (p0 : Int32) (p1 : Int32) {r : Int32} {w : Option Value} {s' : Mem} (hh : fX1_price p0 p1 = some r) (hk : w = some (.int r) ∧ s = s') : J X MX1_price (d + 1) 0 [some (.int p0), some (.int p1), none, none] [] s w s' := by
  unfold fX1_price at hh
  refine J_iload_n (pc := 0) dX1_price_0 rfl ?_
  obtain ⟨y1, hy1, hh⟩ := bd_some hh
  refine J_callSi (pc := 1) (M' := MX1_days) (rest := []) (As := [.int p1]) (L0 := [some (.int p1), none, none]) okX1_days osX1_days mlX1_27 rfl rfl (Nat.le_of_ble_eq_true rfl) dX1_price_1 rfl (Nat.le_of_ble_eq_true rfl) (jX1_days (X := X) d s p1 hy1) ?_
  refine J_iload_n (pc := 4) dX1_price_4 rfl ?_
  refine J_ldc (pc := 5) kcX1_30 dX1_price_5 ?_
  refine J_iand (pc := 7) dX1_price_7 ?_
  obtain ⟨y2, hy2, hh⟩ := bd_some hh
  refine J_callSi (pc := 8) (M' := MJ6_bitCount_0f7a4) (rest := [.int y1]) (As := [.int (p1 &&& (559240 : Int32))]) (L0 := [some (.int (p1 &&& (559240 : Int32)))]) okJ6_bitCount_0f7a4 osJ6_bitCount_0f7a4 mlX1_31 rfl rfl (Nat.le_of_ble_eq_true rfl) dX1_price_8 rfl (Nat.le_of_ble_eq_true rfl) (jJ6_bitCount_0f7a4 (X := X) d s (p1 &&& (559240 : Int32)) hy2) ?_
  refine J_iadd (pc := 11) dX1_price_11 ?_
  refine J_istoreL_n (pc := 12) (fun x3 => [some (.int p0), some (.int p1), some (.int x3), none]) dX1_price_12 rfl (Nat.le_of_ble_eq_true rfl) (fun _ => rfl) hh (fun x3 hh => ?_)
  refine J_iload_n (pc := 13) dX1_price_13 rfl ?_
  obtain ⟨y4, hy4, hh⟩ := bd_some hh
  refine J_callSi (pc := 14) (M' := MX1_days) (rest := []) (As := [.int p1]) (L0 := [some (.int p1), none, none]) okX1_days osX1_days mlX1_27 rfl rfl (Nat.le_of_ble_eq_true rfl) dX1_price_14 rfl (Nat.le_of_ble_eq_true rfl) (jX1_days (X := X) d s p1 hy4) ?_
  refine J_iload_n (pc := 17) dX1_price_17 rfl ?_
  refine J_ldc (pc := 18) kcX1_36 dX1_price_18 ?_
  refine J_iand (pc := 20) dX1_price_20 ?_
  obtain ⟨y5, hy5, hh⟩ := bd_some hh
  refine J_callSi (pc := 21) (M' := MJ6_bitCount_0f7a4) (rest := [.int y4]) (As := [.int (p1 &&& (69905 : Int32))]) (L0 := [some (.int (p1 &&& (69905 : Int32)))]) okJ6_bitCount_0f7a4 osJ6_bitCount_0f7a4 mlX1_31 rfl rfl (Nat.le_of_ble_eq_true rfl) dX1_price_21 rfl (Nat.le_of_ble_eq_true rfl) (jJ6_bitCount_0f7a4 (X := X) d s (p1 &&& (69905 : Int32)) hy5) ?_
  refine J_iadd (pc := 24) dX1_price_24 ?_
  refine J_istoreL_n (pc := 25) (fun x6 => [some (.int p0), some (.int p1), some (.int x3), some (.int x6)]) dX1_price_25 rfl (Nat.le_of_ble_eq_true rfl) (fun _ => rfl) hh (fun x6 hh => ?_)
  refine J_iload_n (pc := 26) dX1_price_26 rfl ?_
  by_cases c7 : p0 = (0 : Int32)
  · replace hh := (if_pos c7).symm.trans hh
    refine J_swIn (pc := 27) 60 dX1_price_27 (by rw [c7]; decide) (by rw [c7]; decide) (by rw [c7]; rfl) (by decide) ?_
    refine J_iload_n (pc := 60) dX1_price_60 rfl ?_
    obtain ⟨y8, hy8, hh⟩ := bd_some hh
    refine J_callSi (pc := 61) (M' := MX1_days) (rest := []) (As := [.int p1]) (L0 := [some (.int p1), none, none]) okX1_days osX1_days mlX1_27 rfl rfl (Nat.le_of_ble_eq_true rfl) dX1_price_61 rfl (Nat.le_of_ble_eq_true rfl) (jX1_days (X := X) d s p1 hy8) ?_
    obtain rfl := Option.some.inj hh
    obtain ⟨rfl, rfl⟩ := hk
    exact J_ret (w := some (.int y8)) ⟨dX1_price_64, _, rfl, rfl⟩
  replace hh := (if_neg c7).symm.trans hh
  by_cases c9 : p0 = (1 : Int32)
  · replace hh := (if_pos c9).symm.trans hh
    refine J_swIn (pc := 27) 65 dX1_price_27 (by rw [c9]; decide) (by rw [c9]; decide) (by rw [c9]; rfl) (by decide) ?_
    refine J_iload_n (pc := 65) dX1_price_65 rfl ?_
    obtain rfl := Option.some.inj hh
    obtain ⟨rfl, rfl⟩ := hk
    exact J_ret (w := some (.int x3)) ⟨dX1_price_66, _, rfl, rfl⟩
  replace hh := (if_neg c9).symm.trans hh
  by_cases c10 : p0 = (2 : Int32)
  · replace hh := (if_pos c10).symm.trans hh
    refine J_swIn (pc := 27) 67 dX1_price_27 (by rw [c10]; decide) (by rw [c10]; decide) (by rw [c10]; rfl) (by decide) ?_
    refine J_iload_n (pc := 67) dX1_price_67 rfl ?_
    obtain rfl := Option.some.inj hh
    obtain ⟨rfl, rfl⟩ := hk
    exact J_ret (w := some (.int x6)) ⟨dX1_price_68, _, rfl, rfl⟩
  replace hh := (if_neg c10).symm.trans hh
  by_cases c11 : p0 = (3 : Int32)
  · replace hh := (if_pos c11).symm.trans hh
    refine J_swIn (pc := 27) 69 dX1_price_27 (by rw [c11]; decide) (by rw [c11]; decide) (by rw [c11]; rfl) (by decide) ?_
    refine J_iload_n (pc := 69) dX1_price_69 rfl ?_
    refine J_iconst (pc := 70) dX1_price_70 ci_2 ?_
    refine J_iload_n (pc := 71) dX1_price_71 rfl ?_
    refine J_sipush (pc := 72) dX1_price_72 cs_3840 ?_
    refine J_iand (pc := 75) dX1_price_75 ?_
    obtain ⟨y12, hy12, hh⟩ := bd_some hh
    refine J_callSi (pc := 76) (M' := MJ6_bitCount_0f7a4) (rest := [.int (2 : Int32), .int x3]) (As := [.int (p1 &&& (3840 : Int32))]) (L0 := [some (.int (p1 &&& (3840 : Int32)))]) okJ6_bitCount_0f7a4 osJ6_bitCount_0f7a4 mlX1_31 rfl rfl (Nat.le_of_ble_eq_true rfl) dX1_price_76 rfl (Nat.le_of_ble_eq_true rfl) (jJ6_bitCount_0f7a4 (X := X) d s (p1 &&& (3840 : Int32)) hy12) ?_
    refine J_imul (pc := 79) dX1_price_79 ?_
    refine J_iadd (pc := 80) dX1_price_80 ?_
    obtain rfl := Option.some.inj hh
    obtain ⟨rfl, rfl⟩ := hk
    exact J_ret (w := some (.int (x3 + ((2 : Int32) * y12)))) ⟨dX1_price_81, _, rfl, rfl⟩
  replace hh := (if_neg c11).symm.trans hh
  by_cases c13 : p0 = (4 : Int32)
  · replace hh := (if_pos c13).symm.trans hh
    refine J_swIn (pc := 27) 82 dX1_price_27 (by rw [c13]; decide) (by rw [c13]; decide) (by rw [c13]; rfl) (by decide) ?_
    refine J_bipush (pc := 82) dX1_price_82 cb_20 ?_
    refine J_iload_n (pc := 84) dX1_price_84 rfl ?_
    refine J_isub (pc := 85) dX1_price_85 ?_
    obtain rfl := Option.some.inj hh
    obtain ⟨rfl, rfl⟩ := hk
    exact J_ret (w := some (.int ((20 : Int32) - x6))) ⟨dX1_price_86, _, rfl, rfl⟩
  replace hh := (if_neg c13).symm.trans hh
  refine J_swOut (pc := 27) 87 dX1_price_27 (by have := lv_neT c7 (a := 0) (by decide); have := lv_neT c9 (a := 1) (by decide); have := lv_neT c10 (a := 2) (by decide); have := lv_neT c11 (a := 3) (by decide); have := lv_neT c13 (a := 4) (by decide); omega) (by decide) ?_
  refine J_iconst (pc := 87) dX1_price_87 ci_0 ?_
  obtain rfl := Option.some.inj hh
  obtain ⟨rfl, rfl⟩ := hk
  exact J_ret (w := some (.int (0 : Int32))) ⟨dX1_price_88, _, rfl, rfl⟩
theorem jX1_price {X : Scr} (d : Nat) (s : Mem) (p0 : Int32) (p1 : Int32) {r : Int32} (hh : fX1_price p0 p1 = some r) : J X MX1_price (d + 1) 0 [some (.int p0), some (.int p1), none, none] [] s (some (.int r)) s := jjX1_price d p0 p1 hh ⟨rfl, rfl⟩
theorem dX1_word_0 : decode cX1_word 0 = .ok (.iload_n 0, 1) := by decide +kernel
theorem dX1_word_1 : decode cX1_word 1 = .ok (.tableswitch 50 0 4 #[35, 38, 41, 44, 47], 35) := by decide +kernel
theorem dX1_word_36 : decode cX1_word 36 = .ok (.ldc 9, 2) := by decide +kernel
theorem dX1_word_38 : decode cX1_word 38 = .ok (.areturn, 1) := by decide +kernel
theorem dX1_word_39 : decode cX1_word 39 = .ok (.ldc 11, 2) := by decide +kernel
theorem dX1_word_41 : decode cX1_word 41 = .ok (.areturn, 1) := by decide +kernel
theorem dX1_word_42 : decode cX1_word 42 = .ok (.ldc 13, 2) := by decide +kernel
theorem dX1_word_44 : decode cX1_word 44 = .ok (.areturn, 1) := by decide +kernel
theorem dX1_word_45 : decode cX1_word 45 = .ok (.ldc 15, 2) := by decide +kernel
theorem dX1_word_47 : decode cX1_word 47 = .ok (.areturn, 1) := by decide +kernel
theorem dX1_word_48 : decode cX1_word 48 = .ok (.ldc 17, 2) := by decide +kernel
theorem dX1_word_50 : decode cX1_word 50 = .ok (.areturn, 1) := by decide +kernel
theorem dX1_word_51 : decode cX1_word 51 = .ok (.ldc 19, 2) := by decide +kernel
theorem dX1_word_53 : decode cX1_word 53 = .ok (.areturn, 1) := by decide +kernel
def fX1_word (p0 : Int32) : Option Nat :=
  if p0 = (0 : Int32) then some 0 else if p0 = (1 : Int32) then some 1 else if p0 = (2 : Int32) then some 2 else if p0 = (3 : Int32) then some 3 else if p0 = (4 : Int32) then some 4 else some 5
set_option maxRecDepth 4000 in
theorem jjX1_word {X : Scr} (d : Nat) {s : Mem} (p0 : Int32) {r : Nat} {w : Option Value} {s' : Mem} (hh : fX1_word p0 = some r) (hk : w = some (.ref (1000 + r)) ∧ s = s') : J X MX1_word (d + 0) 0 [some (.int p0)] [] s w s' := by
  unfold fX1_word at hh
  refine J_iload_n (pc := 0) dX1_word_0 rfl ?_
  by_cases c1 : p0 = (0 : Int32)
  · replace hh := (if_pos c1).symm.trans hh
    refine J_swIn (pc := 1) 36 dX1_word_1 (by rw [c1]; decide) (by rw [c1]; decide) (by rw [c1]; rfl) (by decide) ?_
    refine J_ldcS (pc := 36) (i := 0) sl0 dX1_word_36 ?_
    obtain rfl := Option.some.inj hh
    obtain ⟨rfl, rfl⟩ := hk
    exact J_ret (w := some (.ref (1000 + 0))) ⟨dX1_word_38, _, rfl⟩
  replace hh := (if_neg c1).symm.trans hh
  by_cases c2 : p0 = (1 : Int32)
  · replace hh := (if_pos c2).symm.trans hh
    refine J_swIn (pc := 1) 39 dX1_word_1 (by rw [c2]; decide) (by rw [c2]; decide) (by rw [c2]; rfl) (by decide) ?_
    refine J_ldcS (pc := 39) (i := 1) sl1 dX1_word_39 ?_
    obtain rfl := Option.some.inj hh
    obtain ⟨rfl, rfl⟩ := hk
    exact J_ret (w := some (.ref (1000 + 1))) ⟨dX1_word_41, _, rfl⟩
  replace hh := (if_neg c2).symm.trans hh
  by_cases c3 : p0 = (2 : Int32)
  · replace hh := (if_pos c3).symm.trans hh
    refine J_swIn (pc := 1) 42 dX1_word_1 (by rw [c3]; decide) (by rw [c3]; decide) (by rw [c3]; rfl) (by decide) ?_
    refine J_ldcS (pc := 42) (i := 2) sl2 dX1_word_42 ?_
    obtain rfl := Option.some.inj hh
    obtain ⟨rfl, rfl⟩ := hk
    exact J_ret (w := some (.ref (1000 + 2))) ⟨dX1_word_44, _, rfl⟩
  replace hh := (if_neg c3).symm.trans hh
  by_cases c4 : p0 = (3 : Int32)
  · replace hh := (if_pos c4).symm.trans hh
    refine J_swIn (pc := 1) 45 dX1_word_1 (by rw [c4]; decide) (by rw [c4]; decide) (by rw [c4]; rfl) (by decide) ?_
    refine J_ldcS (pc := 45) (i := 3) sl3 dX1_word_45 ?_
    obtain rfl := Option.some.inj hh
    obtain ⟨rfl, rfl⟩ := hk
    exact J_ret (w := some (.ref (1000 + 3))) ⟨dX1_word_47, _, rfl⟩
  replace hh := (if_neg c4).symm.trans hh
  by_cases c5 : p0 = (4 : Int32)
  · replace hh := (if_pos c5).symm.trans hh
    refine J_swIn (pc := 1) 48 dX1_word_1 (by rw [c5]; decide) (by rw [c5]; decide) (by rw [c5]; rfl) (by decide) ?_
    refine J_ldcS (pc := 48) (i := 4) sl4 dX1_word_48 ?_
    obtain rfl := Option.some.inj hh
    obtain ⟨rfl, rfl⟩ := hk
    exact J_ret (w := some (.ref (1000 + 4))) ⟨dX1_word_50, _, rfl⟩
  replace hh := (if_neg c5).symm.trans hh
  refine J_swOut (pc := 1) 51 dX1_word_1 (by have := lv_neT c1 (a := 0) (by decide); have := lv_neT c2 (a := 1) (by decide); have := lv_neT c3 (a := 2) (by decide); have := lv_neT c4 (a := 3) (by decide); have := lv_neT c5 (a := 4) (by decide); omega) (by decide) ?_
  refine J_ldcS (pc := 51) (i := 5) sl5 dX1_word_51 ?_
  obtain rfl := Option.some.inj hh
  obtain ⟨rfl, rfl⟩ := hk
  exact J_ret (w := some (.ref (1000 + 5))) ⟨dX1_word_53, _, rfl⟩
theorem jX1_word {X : Scr} (d : Nat) (s : Mem) (p0 : Int32) {r : Nat} (hh : fX1_word p0 = some r) : J X MX1_word (d + 0) 0 [some (.int p0)] [] s (some (.ref (1000 + r))) s := jjX1_word d p0 hh ⟨rfl, rfl⟩
theorem dX1_above_0 : decode cX1_above 0 = .ok (.iload_n 0, 1) := by decide +kernel
theorem dX1_above_1 : decode cX1_above 1 = .ok (.tableswitch 41 0 4 #[35, 41, 41, 37, 39], 35) := by decide +kernel
theorem dX1_above_36 : decode cX1_above 36 = .ok (.iconst (-1), 1) := by decide +kernel
theorem dX1_above_37 : decode cX1_above 37 = .ok (.ireturn, 1) := by decide +kernel
theorem dX1_above_38 : decode cX1_above 38 = .ok (.iconst 1, 1) := by decide +kernel
theorem dX1_above_39 : decode cX1_above 39 = .ok (.ireturn, 1) := by decide +kernel
theorem dX1_above_40 : decode cX1_above 40 = .ok (.iconst 2, 1) := by decide +kernel
theorem dX1_above_41 : decode cX1_above 41 = .ok (.ireturn, 1) := by decide +kernel
theorem dX1_above_42 : decode cX1_above 42 = .ok (.iconst 0, 1) := by decide +kernel
theorem dX1_above_43 : decode cX1_above 43 = .ok (.ireturn, 1) := by decide +kernel
def fX1_above (p0 : Int32) : Option Int32 :=
  if p0 = (0 : Int32) then some (-1 : Int32) else if p0 = (1 : Int32) then some (0 : Int32) else if p0 = (2 : Int32) then some (0 : Int32) else if p0 = (3 : Int32) then some (1 : Int32) else if p0 = (4 : Int32) then some (2 : Int32) else some (0 : Int32)
set_option maxRecDepth 4000 in
theorem jjX1_above {X : Scr} (d : Nat) {s : Mem} (p0 : Int32) {r : Int32} {w : Option Value} {s' : Mem} (hh : fX1_above p0 = some r) (hk : w = some (.int r) ∧ s = s') : J X MX1_above (d + 0) 0 [some (.int p0)] [] s w s' := by
  unfold fX1_above at hh
  refine J_iload_n (pc := 0) dX1_above_0 rfl ?_
  by_cases c1 : p0 = (0 : Int32)
  · replace hh := (if_pos c1).symm.trans hh
    refine J_swIn (pc := 1) 36 dX1_above_1 (by rw [c1]; decide) (by rw [c1]; decide) (by rw [c1]; rfl) (by decide) ?_
    refine J_iconst (pc := 36) dX1_above_36 ci_m1 ?_
    obtain rfl := Option.some.inj hh
    obtain ⟨rfl, rfl⟩ := hk
    exact J_ret (w := some (.int (-1 : Int32))) ⟨dX1_above_37, _, rfl, rfl⟩
  replace hh := (if_neg c1).symm.trans hh
  by_cases c2 : p0 = (1 : Int32)
  · replace hh := (if_pos c2).symm.trans hh
    refine J_swIn (pc := 1) 42 dX1_above_1 (by rw [c2]; decide) (by rw [c2]; decide) (by rw [c2]; rfl) (by decide) ?_
    refine J_iconst (pc := 42) dX1_above_42 ci_0 ?_
    obtain rfl := Option.some.inj hh
    obtain ⟨rfl, rfl⟩ := hk
    exact J_ret (w := some (.int (0 : Int32))) ⟨dX1_above_43, _, rfl, rfl⟩
  replace hh := (if_neg c2).symm.trans hh
  by_cases c3 : p0 = (2 : Int32)
  · replace hh := (if_pos c3).symm.trans hh
    refine J_swIn (pc := 1) 42 dX1_above_1 (by rw [c3]; decide) (by rw [c3]; decide) (by rw [c3]; rfl) (by decide) ?_
    refine J_iconst (pc := 42) dX1_above_42 ci_0 ?_
    obtain rfl := Option.some.inj hh
    obtain ⟨rfl, rfl⟩ := hk
    exact J_ret (w := some (.int (0 : Int32))) ⟨dX1_above_43, _, rfl, rfl⟩
  replace hh := (if_neg c3).symm.trans hh
  by_cases c4 : p0 = (3 : Int32)
  · replace hh := (if_pos c4).symm.trans hh
    refine J_swIn (pc := 1) 38 dX1_above_1 (by rw [c4]; decide) (by rw [c4]; decide) (by rw [c4]; rfl) (by decide) ?_
    refine J_iconst (pc := 38) dX1_above_38 ci_1 ?_
    obtain rfl := Option.some.inj hh
    obtain ⟨rfl, rfl⟩ := hk
    exact J_ret (w := some (.int (1 : Int32))) ⟨dX1_above_39, _, rfl, rfl⟩
  replace hh := (if_neg c4).symm.trans hh
  by_cases c5 : p0 = (4 : Int32)
  · replace hh := (if_pos c5).symm.trans hh
    refine J_swIn (pc := 1) 40 dX1_above_1 (by rw [c5]; decide) (by rw [c5]; decide) (by rw [c5]; rfl) (by decide) ?_
    refine J_iconst (pc := 40) dX1_above_40 ci_2 ?_
    obtain rfl := Option.some.inj hh
    obtain ⟨rfl, rfl⟩ := hk
    exact J_ret (w := some (.int (2 : Int32))) ⟨dX1_above_41, _, rfl, rfl⟩
  replace hh := (if_neg c5).symm.trans hh
  refine J_swOut (pc := 1) 42 dX1_above_1 (by have := lv_neT c1 (a := 0) (by decide); have := lv_neT c2 (a := 1) (by decide); have := lv_neT c3 (a := 2) (by decide); have := lv_neT c4 (a := 3) (by decide); have := lv_neT c5 (a := 4) (by decide); omega) (by decide) ?_
  refine J_iconst (pc := 42) dX1_above_42 ci_0 ?_
  obtain rfl := Option.some.inj hh
  obtain ⟨rfl, rfl⟩ := hk
  exact J_ret (w := some (.int (0 : Int32))) ⟨dX1_above_43, _, rfl, rfl⟩
theorem jX1_above {X : Scr} (d : Nat) (s : Mem) (p0 : Int32) {r : Int32} (hh : fX1_above p0 = some r) : J X MX1_above (d + 0) 0 [some (.int p0)] [] s (some (.int r)) s := jjX1_above d p0 hh ⟨rfl, rfl⟩
theorem dX1_isUnder_0 : decode cX1_isUnder 0 = .ok (.iload_n 0, 1) := by decide +kernel
theorem dX1_isUnder_1 : decode cX1_isUnder 1 = .ok (.istore_n 2, 1) := by decide +kernel
theorem dX1_isUnder_2 : decode cX1_isUnder 2 = .ok (.iconst 0, 1) := by decide +kernel
theorem dX1_isUnder_3 : decode cX1_isUnder 3 = .ok (.istore_n 3, 1) := by decide +kernel
theorem dX1_isUnder_4 : decode cX1_isUnder 4 = .ok (.iload_n 3, 1) := by decide +kernel
theorem dX1_isUnder_5 : decode cX1_isUnder 5 = .ok (.bipush 6, 2) := by decide +kernel
theorem dX1_isUnder_7 : decode cX1_isUnder 7 = .ok (.if_icmp .ge 25, 3) := by decide +kernel
theorem dX1_isUnder_10 : decode cX1_isUnder 10 = .ok (.iload_n 2, 1) := by decide +kernel
theorem dX1_isUnder_11 : decode cX1_isUnder 11 = .ok (.ifCond .lt 21, 3) := by decide +kernel
theorem dX1_isUnder_14 : decode cX1_isUnder 14 = .ok (.iload_n 2, 1) := by decide +kernel
theorem dX1_isUnder_15 : decode cX1_isUnder 15 = .ok (.iload_n 1, 1) := by decide +kernel
theorem dX1_isUnder_16 : decode cX1_isUnder 16 = .ok (.if_icmp .ne 5, 3) := by decide +kernel
theorem dX1_isUnder_19 : decode cX1_isUnder 19 = .ok (.iconst 1, 1) := by decide +kernel
theorem dX1_isUnder_20 : decode cX1_isUnder 20 = .ok (.ireturn, 1) := by decide +kernel
theorem dX1_isUnder_21 : decode cX1_isUnder 21 = .ok (.iload_n 2, 1) := by decide +kernel
theorem dX1_isUnder_22 : decode cX1_isUnder 22 = .ok (.invokestatic 23, 3) := by decide +kernel
theorem dX1_isUnder_25 : decode cX1_isUnder 25 = .ok (.istore_n 2, 1) := by decide +kernel
theorem dX1_isUnder_26 : decode cX1_isUnder 26 = .ok (.iinc 3 1, 3) := by decide +kernel
theorem dX1_isUnder_29 : decode cX1_isUnder 29 = .ok (.goto (-25), 3) := by decide +kernel
theorem dX1_isUnder_32 : decode cX1_isUnder 32 = .ok (.iconst 0, 1) := by decide +kernel
theorem dX1_isUnder_33 : decode cX1_isUnder 33 = .ok (.ireturn, 1) := by decide +kernel
def bX1_isUnder_4 (v1 : Int32) (v2 : Int32) (v3 : Int32) : Option ((Int32 ⊕ Unit) ⊕ (Int32 × Int32)) :=
  if (6 : Int32) ≤ v3 then some (Sum.inl (Sum.inr ())) else if v2 < (0 : Int32) then some (Sum.inl (Sum.inr ())) else if v2 = v1 then some (Sum.inl (Sum.inl (1 : Int32))) else (fX1_above v2).bind (fun y1 => lt (v3 + (1 : Int32)) (fun x2 => some (Sum.inr (y1, x2))))
set_option maxRecDepth 4000 in
theorem jbX1_isUnder_4 {X : Scr} (d : Nat) {s : Mem} (v1 : Int32) (v2 : Int32) (v3 : Int32) {r : ((Int32 ⊕ Unit) ⊕ (Int32 × Int32))} {w : Option Value} {s' : Mem} (hh : bX1_isUnder_4 v1 v2 v3 = some r) (hk : Sum.elim (Sum.elim (fun q : Int32 => w = some (.int q) ∧ s = s') (fun t : Unit => J X MX1_isUnder (d + 1) 32 [none, none, none, none] [] s w s')) (fun a : (Int32 × Int32) => J X MX1_isUnder (d + 1) 4 [none, some (.int v1), some (.int a.1), some (.int a.2)] [] s w s') r) : J X MX1_isUnder (d + 1) 4 [none, some (.int v1), some (.int v2), some (.int v3)] [] s w s' := by
  unfold bX1_isUnder_4 at hh
  refine J_iload_n (pc := 4) dX1_isUnder_4 rfl ?_
  refine J_bipush (pc := 5) dX1_isUnder_5 cb_6 ?_
  refine J_icmp_ge (pc := 7) 32 dX1_isUnder_7 (by decide) (fun c5 => ?_) (fun c5 => ?_)
  · replace hh := (if_pos c5).symm.trans hh
    refine J_drop 1 (L' := [none, none, some (.int v2), some (.int v3)]) rfl ?_
    refine J_drop 2 (L' := [none, none, none, some (.int v3)]) rfl ?_
    refine J_drop 3 (L' := [none, none, none, none]) rfl ?_
    obtain rfl := Option.some.inj hh
    exact hk
  · replace hh := (if_neg c5).symm.trans hh
    refine J_iload_n (pc := 10) dX1_isUnder_10 rfl ?_
    refine J_if_lt (pc := 11) 32 dX1_isUnder_11 (by decide) (fun c4 => ?_) (fun c4 => ?_)
    · replace hh := (if_pos c4).symm.trans hh
      refine J_drop 1 (L' := [none, none, some (.int v2), some (.int v3)]) rfl ?_
      refine J_drop 2 (L' := [none, none, none, some (.int v3)]) rfl ?_
      refine J_drop 3 (L' := [none, none, none, none]) rfl ?_
      obtain rfl := Option.some.inj hh
      exact hk
    · replace hh := (if_neg c4).symm.trans hh
      refine J_iload_n (pc := 14) dX1_isUnder_14 rfl ?_
      refine J_iload_n (pc := 15) dX1_isUnder_15 rfl ?_
      refine J_icmp_ne (pc := 16) 21 dX1_isUnder_16 (by decide) (fun c3 => ?_) (fun c3 => ?_)
      · replace hh := (if_neg c3).symm.trans hh
        refine J_iload_n (pc := 21) dX1_isUnder_21 rfl ?_
        obtain ⟨y1, hy1, hh⟩ := bd_some hh
        refine J_callSi (pc := 22) (M' := MX1_above) (rest := []) (As := [.int v2]) (L0 := [some (.int v2)]) okX1_above osX1_above mlX1_23 rfl rfl (Nat.le_of_ble_eq_true rfl) dX1_isUnder_22 rfl (Nat.le_of_ble_eq_true rfl) (jX1_above (X := X) d s v2 hy1) ?_
        refine J_istore_n (pc := 25) (L' := [none, some (.int v1), some (.int y1), some (.int v3)]) dX1_isUnder_25 rfl (Nat.le_of_ble_eq_true rfl) rfl ?_
        refine J_iincL (pc := 26) (v := v3 + (1 : Int32)) (fun x2 => [none, some (.int v1), some (.int y1), some (.int x2)]) dX1_isUnder_26 rfl rfl (Nat.le_of_ble_eq_true rfl) (congrArg _ ci_1) (fun _ => rfl) hh (fun x2 hh => ?_)
        refine J_goto (pc := 29) 4 dX1_isUnder_29 (by decide) ?_
        obtain rfl := Option.some.inj hh
        exact hk
      · replace hh := (if_pos c3).symm.trans hh
        refine J_iconst (pc := 19) dX1_isUnder_19 ci_1 ?_
        obtain rfl := Option.some.inj hh
        obtain ⟨rfl, rfl⟩ := hk
        exact J_ret (w := some (.int (1 : Int32))) ⟨dX1_isUnder_20, _, rfl, rfl⟩
def fX1_isUnder (p0 : Int32) (p1 : Int32) : Option Int32 :=
  (lp (fun a => bX1_isUnder_4 p1 a.1 a.2) 600 (p0, (0 : Int32))).bind (fun y6 => Sum.elim (fun q8 => some q8) (fun t7 => some (0 : Int32)) y6)
set_option maxRecDepth 4000 in
theorem jjX1_isUnder {X : Scr} (d : Nat) {s : Mem} (p0 : Int32) (p1 : Int32) {r : Int32} {w : Option Value} {s' : Mem} (hh : fX1_isUnder p0 p1 = some r) (hk : w = some (.int r) ∧ s = s') : J X MX1_isUnder (d + 1) 0 [some (.int p0), some (.int p1), none, none] [] s w s' := by
  unfold fX1_isUnder at hh
  refine J_iload_n (pc := 0) dX1_isUnder_0 rfl ?_
  refine J_istore_n (pc := 1) (L' := [some (.int p0), some (.int p1), some (.int p0), none]) dX1_isUnder_1 rfl (Nat.le_of_ble_eq_true rfl) rfl ?_
  refine J_iconst (pc := 2) dX1_isUnder_2 ci_0 ?_
  refine J_istore_n (pc := 3) (L' := [some (.int p0), some (.int p1), some (.int p0), some (.int (0 : Int32))]) dX1_isUnder_3 rfl (Nat.le_of_ble_eq_true rfl) rfl ?_
  refine J_drop 0 (L' := [none, some (.int p1), some (.int p0), some (.int (0 : Int32))]) rfl ?_
  obtain ⟨y6, hy6, hh⟩ := bd_some hh
  refine J_lp (a := (p0, (0 : Int32))) (fun a : (Int32 × Int32) => J X MX1_isUnder (d + 1) 4 [none, some (.int p1), some (.int a.1), some (.int a.2)] [] s w s') (Sum.elim (fun q : Int32 => w = some (.int q) ∧ s = s') (fun t : Unit => J X MX1_isUnder (d + 1) 32 [none, none, none, none] [] s w s')) (fun a q h1 h2 => jbX1_isUnder_4 d p1 a.1 a.2 h1 h2) hy6 ?_
  cases y6 with
  | inl q8 =>
    obtain rfl := Option.some.inj hh
    exact hk
  | inr t7 =>
    skip
    replace hh : (some (0 : Int32)) = some r := hh
    refine J_iconst (pc := 32) dX1_isUnder_32 ci_0 ?_
    obtain rfl := Option.some.inj hh
    obtain ⟨rfl, rfl⟩ := hk
    exact J_ret (w := some (.int (0 : Int32))) ⟨dX1_isUnder_33, _, rfl, rfl⟩
theorem jX1_isUnder {X : Scr} (d : Nat) (s : Mem) (p0 : Int32) (p1 : Int32) {r : Int32} (hh : fX1_isUnder p0 p1 = some r) : J X MX1_isUnder (d + 1) 0 [some (.int p0), some (.int p1), none, none] [] s (some (.int r)) s := jjX1_isUnder d p0 p1 hh ⟨rfl, rfl⟩
