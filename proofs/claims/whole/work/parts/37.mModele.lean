theorem dX7_undo_0 : decode cX7_undo 0 = .ok (.aload_n 0, 1) := by decide +kernel
theorem dX7_undo_1 : decode cX7_undo 1 = .ok (.getfield 70, 3) := by decide +kernel
theorem dX7_undo_4 : decode cX7_undo 4 = .ok (.ifCond .ne 9, 3) := by decide +kernel
theorem dX7_undo_7 : decode cX7_undo 7 = .ok (.aload_n 0, 1) := by decide +kernel
theorem dX7_undo_8 : decode cX7_undo 8 = .ok (.iconst 3, 1) := by decide +kernel
theorem dX7_undo_9 : decode cX7_undo 9 = .ok (.invokevirtual 158, 3) := by decide +kernel
theorem dX7_undo_12 : decode cX7_undo 12 = .ok (.ireturn, 1) := by decide +kernel
theorem dX7_undo_13 : decode cX7_undo 13 = .ok (.aload_n 0, 1) := by decide +kernel
theorem dX7_undo_14 : decode cX7_undo 14 = .ok (.dup, 1) := by decide +kernel
theorem dX7_undo_15 : decode cX7_undo 15 = .ok (.getfield 70, 3) := by decide +kernel
theorem dX7_undo_18 : decode cX7_undo 18 = .ok (.iconst 1, 1) := by decide +kernel
theorem dX7_undo_19 : decode cX7_undo 19 = .ok (.isub, 1) := by decide +kernel
theorem dX7_undo_20 : decode cX7_undo 20 = .ok (.putfield 70, 3) := by decide +kernel
theorem dX7_undo_23 : decode cX7_undo 23 = .ok (.aload_n 0, 1) := by decide +kernel
theorem dX7_undo_24 : decode cX7_undo 24 = .ok (.getfield 67, 3) := by decide +kernel
theorem dX7_undo_27 : decode cX7_undo 27 = .ok (.aload_n 0, 1) := by decide +kernel
theorem dX7_undo_28 : decode cX7_undo 28 = .ok (.getfield 70, 3) := by decide +kernel
theorem dX7_undo_31 : decode cX7_undo 31 = .ok (.iadd, 1) := by decide +kernel
theorem dX7_undo_32 : decode cX7_undo 32 = .ok (.bipush 30, 2) := by decide +kernel
theorem dX7_undo_34 : decode cX7_undo 34 = .ok (.irem, 1) := by decide +kernel
theorem dX7_undo_35 : decode cX7_undo 35 = .ok (.istore_n 1, 1) := by decide +kernel
theorem dX7_undo_36 : decode cX7_undo 36 = .ok (.iconst 0, 1) := by decide +kernel
theorem dX7_undo_37 : decode cX7_undo 37 = .ok (.istore_n 2, 1) := by decide +kernel
theorem dX7_undo_38 : decode cX7_undo 38 = .ok (.iload_n 2, 1) := by decide +kernel
theorem dX7_undo_39 : decode cX7_undo 39 = .ok (.sipush 139, 3) := by decide +kernel
theorem dX7_undo_42 : decode cX7_undo 42 = .ok (.if_icmp .ge 23, 3) := by decide +kernel
theorem dX7_undo_45 : decode cX7_undo 45 = .ok (.aload_n 0, 1) := by decide +kernel
theorem dX7_undo_46 : decode cX7_undo 46 = .ok (.getfield 9, 3) := by decide +kernel
theorem dX7_undo_49 : decode cX7_undo 49 = .ok (.iload_n 2, 1) := by decide +kernel
theorem dX7_undo_50 : decode cX7_undo 50 = .ok (.aload_n 0, 1) := by decide +kernel
theorem dX7_undo_51 : decode cX7_undo 51 = .ok (.getfield 15, 3) := by decide +kernel
theorem dX7_undo_54 : decode cX7_undo 54 = .ok (.iload_n 1, 1) := by decide +kernel
theorem dX7_undo_55 : decode cX7_undo 55 = .ok (.aaload, 1) := by decide +kernel
theorem dX7_undo_56 : decode cX7_undo 56 = .ok (.iload_n 2, 1) := by decide +kernel
theorem dX7_undo_57 : decode cX7_undo 57 = .ok (.iaload, 1) := by decide +kernel
theorem dX7_undo_58 : decode cX7_undo 58 = .ok (.iastore, 1) := by decide +kernel
theorem dX7_undo_59 : decode cX7_undo 59 = .ok (.iinc 2 1, 3) := by decide +kernel
theorem dX7_undo_62 : decode cX7_undo 62 = .ok (.goto (-24), 3) := by decide +kernel
theorem dX7_undo_65 : decode cX7_undo 65 = .ok (.aload_n 0, 1) := by decide +kernel
theorem dX7_undo_66 : decode cX7_undo 66 = .ok (.getfield 70, 3) := by decide +kernel
theorem dX7_undo_69 : decode cX7_undo 69 = .ok (.ireturn, 1) := by decide +kernel
def bX7_undo_38 (s : Mem) (v1 : Int32) (v2 : Int32) : Option (Mem ⊕ (Int32 × Mem)) :=
  if (139 : Int32) ≤ v2 then some (Sum.inl s) else gd v1 30 (gd v2 139 (gd v2 139 (lt (up2 s 20 v2.toNatClampNeg (s.1 (37 + v1.toNatClampNeg) v2.toNatClampNeg)) (fun s6 => lt (v2 + (1 : Int32)) (fun x7 => some (Sum.inr (x7, s6)))))))
set_option maxRecDepth 4000 in
theorem jbX7_undo_38 {X : Scr} (d : Nat) (s : Mem) (v1 : Int32) (v2 : Int32) {r : (Mem ⊕ (Int32 × Mem))} {w : Option Value} {s' : Mem} (hh : bX7_undo_38 s v1 v2 = some r) (hk : Sum.elim (fun t : Mem => J X MX7_undo (d + 1) 65 [some (.ref 19), none, none] [] t w s') (fun a : (Int32 × Mem) => J X MX7_undo (d + 1) 38 [some (.ref 19), some (.int v1), some (.int a.1)] [] a.2 w s') r) : J X MX7_undo (d + 1) 38 [some (.ref 19), some (.int v1), some (.int v2)] [] s w s' := by
  unfold bX7_undo_38 at hh
  refine J_iload_n (pc := 38) dX7_undo_38 rfl ?_
  refine J_sipush (pc := 39) dX7_undo_39 cs_139 ?_
  refine J_icmp_ge (pc := 42) 65 dX7_undo_42 (by decide) (fun c8 => ?_) (fun c8 => ?_)
  · replace hh := (if_pos c8).symm.trans hh
    refine J_drop 1 (L' := [some (.ref 19), none, some (.int v2)]) rfl ?_
    refine J_drop 2 (L' := [some (.ref 19), none, none]) rfl ?_
    obtain rfl := Option.some.inj hh
    exact hk
  · replace hh := (if_neg c8).symm.trans hh
    refine J_aload_n (pc := 45) dX7_undo_45 rfl ?_
    refine J_getR (pc := 46) (k := 0) flX7_9 so19 fk19_0 dX7_undo_46 ?_
    refine J_iload_n (pc := 49) dX7_undo_49 rfl ?_
    refine J_aload_n (pc := 50) dX7_undo_50 rfl ?_
    refine J_getR (pc := 51) (k := 1) flX7_15 so19 fk19_1 dX7_undo_51 ?_
    refine J_iload_n (pc := 54) dX7_undo_54 rfl ?_
    obtain ⟨h3, hh⟩ := gd_some hh
    refine J_aald (pc := 55) dX7_undo_55 (Or.inl rfl) sa21 h3 ?_
    refine J_iload_n (pc := 56) dX7_undo_56 rfl ?_
    obtain ⟨h4, hh⟩ := gd_some hh
    refine J_iald (pc := 57) dX7_undo_57 (sh_kept h3) h4 ?_
    obtain ⟨h5, hh⟩ := gd_some hh
    refine J_iastL (pc := 58) dX7_undo_58 sa20 h5 hh (fun s6 hh => ?_)
    refine J_iincL (pc := 59) (v := v2 + (1 : Int32)) (fun x7 => [some (.ref 19), some (.int v1), some (.int x7)]) dX7_undo_59 rfl rfl (Nat.le_of_ble_eq_true rfl) (congrArg _ ci_1) (fun _ => rfl) hh (fun x7 hh => ?_)
    refine J_goto (pc := 62) 38 dX7_undo_62 (by decide) ?_
    obtain rfl := Option.some.inj hh
    exact hk
def fX7_undo (s : Mem)  : Option (Int32 × Mem) :=
  if (s.1 19 3) = (0 : Int32) then (fX7_finds s (3 : Int32)).bind (fun y10 => some ((y10.1, y10.2))) else lt (up2 s 19 3 ((s.1 19 3) - (1 : Int32))) (fun s1 => lt (((s1.1 19 2) + (s1.1 19 3)) - ((s1.1 19 2) + (s1.1 19 3)) / (30 : Int32) * (30 : Int32)) (fun x2 => (lp (fun a => bX7_undo_38 a.2 x2 a.1) 600 ((0 : Int32), s1)).bind (fun y9 => some ((y9.1 19 3, y9)))))
set_option maxRecDepth 4000 in
theorem jjX7_undo {X : Scr} (d : Nat) (s : Mem)  {r : (Int32 × Mem)} {w : Option Value} {s' : Mem} (hh : fX7_undo s = some r) (hk : w = some (.int r.1) ∧ r.2 = s') : J X MX7_undo (d + 1) 0 [some (.ref 19), none, none] [] s w s' := by
  unfold fX7_undo at hh
  refine J_aload_n (pc := 0) dX7_undo_0 rfl ?_
  refine J_getI (pc := 1) (k := 3) flX7_70 so19 fk19_3 dX7_undo_1 ?_
  refine J_if_ne (pc := 4) 13 dX7_undo_4 (by decide) (fun c11 => ?_) (fun c11 => ?_)
  · replace hh := (if_neg c11).symm.trans hh
    refine J_aload_n (pc := 13) dX7_undo_13 rfl ?_
    refine J_dup (pc := 14) dX7_undo_14 rfl ?_
    refine J_getI (pc := 15) (k := 3) flX7_70 so19 fk19_3 dX7_undo_15 ?_
    refine J_iconst (pc := 18) dX7_undo_18 ci_1 ?_
    refine J_isub (pc := 19) dX7_undo_19 ?_
    refine J_putIL (pc := 20) (k := 3) fpX7_70 so19 fk19_3 rfl rfl dX7_undo_20 hh (fun s1 hh => ?_)
    refine J_aload_n (pc := 23) dX7_undo_23 rfl ?_
    refine J_getI (pc := 24) (k := 2) flX7_67 so19 fk19_2 dX7_undo_24 ?_
    refine J_aload_n (pc := 27) dX7_undo_27 rfl ?_
    refine J_getI (pc := 28) (k := 3) flX7_70 so19 fk19_3 dX7_undo_28 ?_
    refine J_iadd (pc := 31) dX7_undo_31 ?_
    refine J_bipush (pc := 32) dX7_undo_32 cb_30 ?_
    refine J_irem (pc := 34) dX7_undo_34 (by decide) ?_
    refine J_istoreL_n (pc := 35) (fun x2 => [some (.ref 19), some (.int x2), none]) dX7_undo_35 rfl (Nat.le_of_ble_eq_true rfl) (fun _ => rfl) hh (fun x2 hh => ?_)
    refine J_iconst (pc := 36) dX7_undo_36 ci_0 ?_
    refine J_istore_n (pc := 37) (L' := [some (.ref 19), some (.int x2), some (.int (0 : Int32))]) dX7_undo_37 rfl (Nat.le_of_ble_eq_true rfl) rfl ?_
    obtain ⟨y9, hy9, hh⟩ := bd_some hh
    refine J_lp (a := ((0 : Int32), s1)) (fun a : (Int32 × Mem) => J X MX7_undo (d + 1) 38 [some (.ref 19), some (.int x2), some (.int a.1)] [] a.2 w s') (fun t : Mem => J X MX7_undo (d + 1) 65 [some (.ref 19), none, none] [] t w s') (fun a q h1 h2 => jbX7_undo_38 d a.2 x2 a.1 h1 h2) hy9 ?_
    refine J_aload_n (pc := 65) dX7_undo_65 rfl ?_
    refine J_getI (pc := 66) (k := 3) flX7_70 so19 fk19_3 dX7_undo_66 ?_
    obtain rfl := Option.some.inj hh
    obtain ⟨rfl, rfl⟩ := hk
    exact J_ret (w := some (.int (y9.1 19 3))) ⟨dX7_undo_69, _, rfl, rfl⟩
  · replace hh := (if_pos c11).symm.trans hh
    refine J_aload_n (pc := 7) dX7_undo_7 rfl ?_
    refine J_iconst (pc := 8) dX7_undo_8 ci_3 ?_
    obtain ⟨y10, hy10, hh⟩ := bd_some hh
    refine J_callVi (pc := 9) (M' := MX7_finds) (a := 19) (rest := []) (As := [.int (3 : Int32)]) (L0 := [some (.ref 19), some (.int (3 : Int32))]) okX7_finds ovX7_finds mlX7_158 clX7 so19 rfl rfl (Nat.le_of_ble_eq_true rfl) dX7_undo_9 rfl (Nat.le_of_ble_eq_true rfl) (jX7_finds (X := X) d s (3 : Int32) hy10) ?_
    obtain rfl := Option.some.inj hh
    obtain ⟨rfl, rfl⟩ := hk
    exact J_ret (w := some (.int y10.1)) ⟨dX7_undo_12, _, rfl, rfl⟩
theorem jX7_undo {X : Scr} (d : Nat) (s : Mem)  {r : (Int32 × Mem)} (hh : fX7_undo s = some r) : J X MX7_undo (d + 1) 0 [some (.ref 19), none, none] [] s (some (.int r.1)) r.2 := jjX7_undo d s hh ⟨rfl, rfl⟩
theorem dX7_openMany_0 : decode cX7_openMany 0 = .ok (.iconst 0, 1) := by decide +kernel
theorem dX7_openMany_1 : decode cX7_openMany 1 = .ok (.istore_n 1, 1) := by decide +kernel
theorem dX7_openMany_2 : decode cX7_openMany 2 = .ok (.iconst 0, 1) := by decide +kernel
theorem dX7_openMany_3 : decode cX7_openMany 3 = .ok (.istore_n 2, 1) := by decide +kernel
theorem dX7_openMany_4 : decode cX7_openMany 4 = .ok (.iload_n 2, 1) := by decide +kernel
theorem dX7_openMany_5 : decode cX7_openMany 5 = .ok (.iconst 4, 1) := by decide +kernel
theorem dX7_openMany_6 : decode cX7_openMany 6 = .ok (.if_icmp .ge 56, 3) := by decide +kernel
theorem dX7_openMany_9 : decode cX7_openMany 9 = .ok (.iconst 0, 1) := by decide +kernel
theorem dX7_openMany_10 : decode cX7_openMany 10 = .ok (.istore_n 3, 1) := by decide +kernel
theorem dX7_openMany_11 : decode cX7_openMany 11 = .ok (.iload_n 3, 1) := by decide +kernel
theorem dX7_openMany_12 : decode cX7_openMany 12 = .ok (.iconst 3, 1) := by decide +kernel
theorem dX7_openMany_13 : decode cX7_openMany 13 = .ok (.if_icmp .ge 43, 3) := by decide +kernel
theorem dX7_openMany_16 : decode cX7_openMany 16 = .ok (.iconst 0, 1) := by decide +kernel
theorem dX7_openMany_17 : decode cX7_openMany 17 = .ok (.istore 4, 2) := by decide +kernel
theorem dX7_openMany_19 : decode cX7_openMany 19 = .ok (.iload 4, 2) := by decide +kernel
theorem dX7_openMany_21 : decode cX7_openMany 21 = .ok (.iconst 2, 1) := by decide +kernel
theorem dX7_openMany_22 : decode cX7_openMany 22 = .ok (.if_icmp .ge 28, 3) := by decide +kernel
theorem dX7_openMany_25 : decode cX7_openMany 25 = .ok (.iload_n 1, 1) := by decide +kernel
theorem dX7_openMany_26 : decode cX7_openMany 26 = .ok (.aload_n 0, 1) := by decide +kernel
theorem dX7_openMany_27 : decode cX7_openMany 27 = .ok (.iload_n 2, 1) := by decide +kernel
theorem dX7_openMany_28 : decode cX7_openMany 28 = .ok (.iload_n 3, 1) := by decide +kernel
theorem dX7_openMany_29 : decode cX7_openMany 29 = .ok (.iload 4, 2) := by decide +kernel
theorem dX7_openMany_31 : decode cX7_openMany 31 = .ok (.invokevirtual 77, 3) := by decide +kernel
theorem dX7_openMany_34 : decode cX7_openMany 34 = .ok (.ifCond .eq 7, 3) := by decide +kernel
theorem dX7_openMany_37 : decode cX7_openMany 37 = .ok (.iconst 1, 1) := by decide +kernel
theorem dX7_openMany_38 : decode cX7_openMany 38 = .ok (.goto 4, 3) := by decide +kernel
theorem dX7_openMany_41 : decode cX7_openMany 41 = .ok (.iconst 0, 1) := by decide +kernel
theorem dX7_openMany_42 : decode cX7_openMany 42 = .ok (.iadd, 1) := by decide +kernel
theorem dX7_openMany_43 : decode cX7_openMany 43 = .ok (.istore_n 1, 1) := by decide +kernel
theorem dX7_openMany_44 : decode cX7_openMany 44 = .ok (.iinc 4 1, 3) := by decide +kernel
theorem dX7_openMany_47 : decode cX7_openMany 47 = .ok (.goto (-28), 3) := by decide +kernel
theorem dX7_openMany_50 : decode cX7_openMany 50 = .ok (.iinc 3 1, 3) := by decide +kernel
theorem dX7_openMany_53 : decode cX7_openMany 53 = .ok (.goto (-42), 3) := by decide +kernel
theorem dX7_openMany_56 : decode cX7_openMany 56 = .ok (.iinc 2 1, 3) := by decide +kernel
theorem dX7_openMany_59 : decode cX7_openMany 59 = .ok (.goto (-55), 3) := by decide +kernel
theorem dX7_openMany_62 : decode cX7_openMany 62 = .ok (.iload_n 1, 1) := by decide +kernel
theorem dX7_openMany_63 : decode cX7_openMany 63 = .ok (.ireturn, 1) := by decide +kernel
def bX7_openMany_19 (s : Mem) (v2 : Int32) (v3 : Int32) (v1 : Int32) (v4 : Int32) : Option (Int32 ⊕ (Int32 × Int32)) :=
  if (2 : Int32) ≤ v4 then some (Sum.inl v1) else (fX7_isOpen s v2 v3 v4).bind (fun y1 => if y1 = (0 : Int32) then lt (v1 + (0 : Int32)) (fun x2 => lt (v4 + (1 : Int32)) (fun x3 => some (Sum.inr (x2, x3)))) else lt (v1 + (1 : Int32)) (fun x4 => lt (v4 + (1 : Int32)) (fun x5 => some (Sum.inr (x4, x5)))))
set_option maxRecDepth 4000 in
theorem jbX7_openMany_19 {X : Scr} (d : Nat) (s : Mem) (v2 : Int32) (v3 : Int32) (v1 : Int32) (v4 : Int32) {r : (Int32 ⊕ (Int32 × Int32))} {w : Option Value} {s' : Mem} (hh : bX7_openMany_19 s v2 v3 v1 v4 = some r) (hk : Sum.elim (fun t : Int32 => J X MX7_openMany (d + 2) 50 [some (.ref 19), some (.int t), some (.int v2), some (.int v3), none] [] s w s') (fun a : (Int32 × Int32) => J X MX7_openMany (d + 2) 19 [some (.ref 19), some (.int a.1), some (.int v2), some (.int v3), some (.int a.2)] [] s w s') r) : J X MX7_openMany (d + 2) 19 [some (.ref 19), some (.int v1), some (.int v2), some (.int v3), some (.int v4)] [] s w s' := by
  unfold bX7_openMany_19 at hh
  refine J_iload (pc := 19) dX7_openMany_19 rfl ?_
  refine J_iconst (pc := 21) dX7_openMany_21 ci_2 ?_
  refine J_icmp_ge (pc := 22) 50 dX7_openMany_22 (by decide) (fun c7 => ?_) (fun c7 => ?_)
  · replace hh := (if_pos c7).symm.trans hh
    refine J_drop 4 (L' := [some (.ref 19), some (.int v1), some (.int v2), some (.int v3), none]) rfl ?_
    obtain rfl := Option.some.inj hh
    exact hk
  · replace hh := (if_neg c7).symm.trans hh
    refine J_iload_n (pc := 25) dX7_openMany_25 rfl ?_
    refine J_aload_n (pc := 26) dX7_openMany_26 rfl ?_
    refine J_iload_n (pc := 27) dX7_openMany_27 rfl ?_
    refine J_iload_n (pc := 28) dX7_openMany_28 rfl ?_
    refine J_iload (pc := 29) dX7_openMany_29 rfl ?_
    obtain ⟨y1, hy1, hh⟩ := bd_some hh
    refine J_callVi (pc := 31) (M' := MX7_isOpen) (a := 19) (rest := [.int v1]) (As := [.int v2, .int v3, .int v4]) (L0 := [some (.ref 19), some (.int v2), some (.int v3), some (.int v4)]) okX7_isOpen ovX7_isOpen mlX7_77 clX7 so19 rfl rfl (Nat.le_of_ble_eq_true rfl) dX7_openMany_31 rfl (Nat.le_of_ble_eq_true rfl) (jX7_isOpen (X := X) d s v2 v3 v4 hy1) ?_
    refine J_if_eq (pc := 34) 41 dX7_openMany_34 (by decide) (fun c6 => ?_) (fun c6 => ?_)
    · replace hh := (if_pos c6).symm.trans hh
      refine J_iconst (pc := 41) dX7_openMany_41 ci_0 ?_
      refine J_iadd (pc := 42) dX7_openMany_42 ?_
      refine J_istoreL_n (pc := 43) (fun x2 => [some (.ref 19), some (.int x2), some (.int v2), some (.int v3), some (.int v4)]) dX7_openMany_43 rfl (Nat.le_of_ble_eq_true rfl) (fun _ => rfl) hh (fun x2 hh => ?_)
      refine J_iincL (pc := 44) (v := v4 + (1 : Int32)) (fun x3 => [some (.ref 19), some (.int x2), some (.int v2), some (.int v3), some (.int x3)]) dX7_openMany_44 rfl rfl (Nat.le_of_ble_eq_true rfl) (congrArg _ ci_1) (fun _ => rfl) hh (fun x3 hh => ?_)
      refine J_goto (pc := 47) 19 dX7_openMany_47 (by decide) ?_
      obtain rfl := Option.some.inj hh
      exact hk
    · replace hh := (if_neg c6).symm.trans hh
      refine J_iconst (pc := 37) dX7_openMany_37 ci_1 ?_
      refine J_goto (pc := 38) 42 dX7_openMany_38 (by decide) ?_
      refine J_iadd (pc := 42) dX7_openMany_42 ?_
      refine J_istoreL_n (pc := 43) (fun x4 => [some (.ref 19), some (.int x4), some (.int v2), some (.int v3), some (.int v4)]) dX7_openMany_43 rfl (Nat.le_of_ble_eq_true rfl) (fun _ => rfl) hh (fun x4 hh => ?_)
      refine J_iincL (pc := 44) (v := v4 + (1 : Int32)) (fun x5 => [some (.ref 19), some (.int x4), some (.int v2), some (.int v3), some (.int x5)]) dX7_openMany_44 rfl rfl (Nat.le_of_ble_eq_true rfl) (congrArg _ ci_1) (fun _ => rfl) hh (fun x5 hh => ?_)
      refine J_goto (pc := 47) 19 dX7_openMany_47 (by decide) ?_
      obtain rfl := Option.some.inj hh
      exact hk
def bX7_openMany_11 (s : Mem) (v2 : Int32) (v1 : Int32) (v3 : Int32) : Option (Int32 ⊕ (Int32 × Int32)) :=
  if (3 : Int32) ≤ v3 then some (Sum.inl v1) else (lp (fun a => bX7_openMany_19 s v2 v3 a.1 a.2) 600 (v1, (0 : Int32))).bind (fun y8 => lt (v3 + (1 : Int32)) (fun x9 => some (Sum.inr (y8, x9))))
set_option maxRecDepth 4000 in
theorem jbX7_openMany_11 {X : Scr} (d : Nat) (s : Mem) (v2 : Int32) (v1 : Int32) (v3 : Int32) {r : (Int32 ⊕ (Int32 × Int32))} {w : Option Value} {s' : Mem} (hh : bX7_openMany_11 s v2 v1 v3 = some r) (hk : Sum.elim (fun t : Int32 => J X MX7_openMany (d + 2) 56 [some (.ref 19), some (.int t), some (.int v2), none, none] [] s w s') (fun a : (Int32 × Int32) => J X MX7_openMany (d + 2) 11 [some (.ref 19), some (.int a.1), some (.int v2), some (.int a.2), none] [] s w s') r) : J X MX7_openMany (d + 2) 11 [some (.ref 19), some (.int v1), some (.int v2), some (.int v3), none] [] s w s' := by
  unfold bX7_openMany_11 at hh
  refine J_iload_n (pc := 11) dX7_openMany_11 rfl ?_
  refine J_iconst (pc := 12) dX7_openMany_12 ci_3 ?_
  refine J_icmp_ge (pc := 13) 56 dX7_openMany_13 (by decide) (fun c10 => ?_) (fun c10 => ?_)
  · replace hh := (if_pos c10).symm.trans hh
    refine J_drop 3 (L' := [some (.ref 19), some (.int v1), some (.int v2), none, none]) rfl ?_
    obtain rfl := Option.some.inj hh
    exact hk
  · replace hh := (if_neg c10).symm.trans hh
    refine J_iconst (pc := 16) dX7_openMany_16 ci_0 ?_
    refine J_istore (pc := 17) (L' := [some (.ref 19), some (.int v1), some (.int v2), some (.int v3), some (.int (0 : Int32))]) dX7_openMany_17 rfl (Nat.le_of_ble_eq_true rfl) rfl ?_
    obtain ⟨y8, hy8, hh⟩ := bd_some hh
    refine J_lp (a := (v1, (0 : Int32))) (fun a : (Int32 × Int32) => J X MX7_openMany (d + 2) 19 [some (.ref 19), some (.int a.1), some (.int v2), some (.int v3), some (.int a.2)] [] s w s') (fun t : Int32 => J X MX7_openMany (d + 2) 50 [some (.ref 19), some (.int t), some (.int v2), some (.int v3), none] [] s w s') (fun a q h1 h2 => jbX7_openMany_19 d s v2 v3 a.1 a.2 h1 h2) hy8 ?_
    refine J_iincL (pc := 50) (v := v3 + (1 : Int32)) (fun x9 => [some (.ref 19), some (.int y8), some (.int v2), some (.int x9), none]) dX7_openMany_50 rfl rfl (Nat.le_of_ble_eq_true rfl) (congrArg _ ci_1) (fun _ => rfl) hh (fun x9 hh => ?_)
    refine J_goto (pc := 53) 11 dX7_openMany_53 (by decide) ?_
    obtain rfl := Option.some.inj hh
    exact hk
def bX7_openMany_4 (s : Mem) (v1 : Int32) (v2 : Int32) : Option (Int32 ⊕ (Int32 × Int32)) :=
  if (4 : Int32) ≤ v2 then some (Sum.inl v1) else (lp (fun a => bX7_openMany_11 s v2 a.1 a.2) 600 (v1, (0 : Int32))).bind (fun y11 => lt (v2 + (1 : Int32)) (fun x12 => some (Sum.inr (y11, x12))))
set_option maxRecDepth 4000 in
theorem jbX7_openMany_4 {X : Scr} (d : Nat) (s : Mem) (v1 : Int32) (v2 : Int32) {r : (Int32 ⊕ (Int32 × Int32))} {w : Option Value} {s' : Mem} (hh : bX7_openMany_4 s v1 v2 = some r) (hk : Sum.elim (fun t : Int32 => J X MX7_openMany (d + 2) 62 [none, some (.int t), none, none, none] [] s w s') (fun a : (Int32 × Int32) => J X MX7_openMany (d + 2) 4 [some (.ref 19), some (.int a.1), some (.int a.2), none, none] [] s w s') r) : J X MX7_openMany (d + 2) 4 [some (.ref 19), some (.int v1), some (.int v2), none, none] [] s w s' := by
  unfold bX7_openMany_4 at hh
  refine J_iload_n (pc := 4) dX7_openMany_4 rfl ?_
  refine J_iconst (pc := 5) dX7_openMany_5 ci_4 ?_
  refine J_icmp_ge (pc := 6) 62 dX7_openMany_6 (by decide) (fun c13 => ?_) (fun c13 => ?_)
  · replace hh := (if_pos c13).symm.trans hh
    refine J_drop 0 (L' := [none, some (.int v1), some (.int v2), none, none]) rfl ?_
    refine J_drop 2 (L' := [none, some (.int v1), none, none, none]) rfl ?_
    obtain rfl := Option.some.inj hh
    exact hk
  · replace hh := (if_neg c13).symm.trans hh
    refine J_iconst (pc := 9) dX7_openMany_9 ci_0 ?_
    refine J_istore_n (pc := 10) (L' := [some (.ref 19), some (.int v1), some (.int v2), some (.int (0 : Int32)), none]) dX7_openMany_10 rfl (Nat.le_of_ble_eq_true rfl) rfl ?_
    obtain ⟨y11, hy11, hh⟩ := bd_some hh
    refine J_lp (a := (v1, (0 : Int32))) (fun a : (Int32 × Int32) => J X MX7_openMany (d + 2) 11 [some (.ref 19), some (.int a.1), some (.int v2), some (.int a.2), none] [] s w s') (fun t : Int32 => J X MX7_openMany (d + 2) 56 [some (.ref 19), some (.int t), some (.int v2), none, none] [] s w s') (fun a q h1 h2 => jbX7_openMany_11 d s v2 a.1 a.2 h1 h2) hy11 ?_
    refine J_iincL (pc := 56) (v := v2 + (1 : Int32)) (fun x12 => [some (.ref 19), some (.int y11), some (.int x12), none, none]) dX7_openMany_56 rfl rfl (Nat.le_of_ble_eq_true rfl) (congrArg _ ci_1) (fun _ => rfl) hh (fun x12 hh => ?_)
    refine J_goto (pc := 59) 4 dX7_openMany_59 (by decide) ?_
    obtain rfl := Option.some.inj hh
    exact hk
def fX7_openMany (s : Mem)  : Option Int32 :=
  (lp (fun a => bX7_openMany_4 s a.1 a.2) 600 ((0 : Int32), (0 : Int32))).bind (fun y14 => some y14)
set_option maxRecDepth 4000 in
theorem jjX7_openMany {X : Scr} (d : Nat) (s : Mem)  {r : Int32} {w : Option Value} {s' : Mem} (hh : fX7_openMany s = some r) (hk : w = some (.int r) ∧ s = s') : J X MX7_openMany (d + 2) 0 [some (.ref 19), none, none, none, none] [] s w s' := by
  unfold fX7_openMany at hh
  refine J_iconst (pc := 0) dX7_openMany_0 ci_0 ?_
  refine J_istore_n (pc := 1) (L' := [some (.ref 19), some (.int (0 : Int32)), none, none, none]) dX7_openMany_1 rfl (Nat.le_of_ble_eq_true rfl) rfl ?_
  refine J_iconst (pc := 2) dX7_openMany_2 ci_0 ?_
  refine J_istore_n (pc := 3) (L' := [some (.ref 19), some (.int (0 : Int32)), some (.int (0 : Int32)), none, none]) dX7_openMany_3 rfl (Nat.le_of_ble_eq_true rfl) rfl ?_
  obtain ⟨y14, hy14, hh⟩ := bd_some hh
  refine J_lp (a := ((0 : Int32), (0 : Int32))) (fun a : (Int32 × Int32) => J X MX7_openMany (d + 2) 4 [some (.ref 19), some (.int a.1), some (.int a.2), none, none] [] s w s') (fun t : Int32 => J X MX7_openMany (d + 2) 62 [none, some (.int t), none, none, none] [] s w s') (fun a q h1 h2 => jbX7_openMany_4 d s a.1 a.2 h1 h2) hy14 ?_
  refine J_iload_n (pc := 62) dX7_openMany_62 rfl ?_
  obtain rfl := Option.some.inj hh
  obtain ⟨rfl, rfl⟩ := hk
  exact J_ret (w := some (.int y14)) ⟨dX7_openMany_63, _, rfl, rfl⟩
theorem jX7_openMany {X : Scr} (d : Nat) (s : Mem)  {r : Int32} (hh : fX7_openMany s = some r) : J X MX7_openMany (d + 2) 0 [some (.ref 19), none, none, none, none] [] s (some (.int r)) s := jjX7_openMany d s hh ⟨rfl, rfl⟩
theorem dX7_count_0 : decode cX7_count 0 = .ok (.iconst 0, 1) := by decide +kernel
theorem dX7_count_1 : decode cX7_count 1 = .ok (.istore_n 2, 1) := by decide +kernel
theorem dX7_count_2 : decode cX7_count 2 = .ok (.iconst 0, 1) := by decide +kernel
theorem dX7_count_3 : decode cX7_count 3 = .ok (.istore_n 3, 1) := by decide +kernel
theorem dX7_count_4 : decode cX7_count 4 = .ok (.iconst 0, 1) := by decide +kernel
theorem dX7_count_5 : decode cX7_count 5 = .ok (.istore 4, 2) := by decide +kernel
theorem dX7_count_7 : decode cX7_count 7 = .ok (.iconst 0, 1) := by decide +kernel
theorem dX7_count_8 : decode cX7_count 8 = .ok (.istore 5, 2) := by decide +kernel
theorem dX7_count_10 : decode cX7_count 10 = .ok (.iload 5, 2) := by decide +kernel
theorem dX7_count_12 : decode cX7_count 12 = .ok (.aload_n 0, 1) := by decide +kernel
theorem dX7_count_13 : decode cX7_count 13 = .ok (.getfield 9, 3) := by decide +kernel
theorem dX7_count_16 : decode cX7_count 16 = .ok (.bipush 96, 2) := by decide +kernel
theorem dX7_count_18 : decode cX7_count 18 = .ok (.iaload, 1) := by decide +kernel
theorem dX7_count_19 : decode cX7_count 19 = .ok (.if_icmp .ge 41, 3) := by decide +kernel
theorem dX7_count_22 : decode cX7_count 22 = .ok (.iload_n 2, 1) := by decide +kernel
theorem dX7_count_23 : decode cX7_count 23 = .ok (.aload_n 0, 1) := by decide +kernel
theorem dX7_count_24 : decode cX7_count 24 = .ok (.iload 5, 2) := by decide +kernel
theorem dX7_count_26 : decode cX7_count 26 = .ok (.invokevirtual 205, 3) := by decide +kernel
theorem dX7_count_29 : decode cX7_count 29 = .ok (.iadd, 1) := by decide +kernel
theorem dX7_count_30 : decode cX7_count 30 = .ok (.istore_n 2, 1) := by decide +kernel
theorem dX7_count_31 : decode cX7_count 31 = .ok (.iload_n 3, 1) := by decide +kernel
theorem dX7_count_32 : decode cX7_count 32 = .ok (.aload_n 0, 1) := by decide +kernel
theorem dX7_count_33 : decode cX7_count 33 = .ok (.iload 5, 2) := by decide +kernel
theorem dX7_count_35 : decode cX7_count 35 = .ok (.invokevirtual 203, 3) := by decide +kernel
theorem dX7_count_38 : decode cX7_count 38 = .ok (.iadd, 1) := by decide +kernel
theorem dX7_count_39 : decode cX7_count 39 = .ok (.istore_n 3, 1) := by decide +kernel
theorem dX7_count_40 : decode cX7_count 40 = .ok (.iload 4, 2) := by decide +kernel
theorem dX7_count_42 : decode cX7_count 42 = .ok (.aload_n 0, 1) := by decide +kernel
theorem dX7_count_43 : decode cX7_count 43 = .ok (.iload 5, 2) := by decide +kernel
theorem dX7_count_45 : decode cX7_count 45 = .ok (.invokevirtual 208, 3) := by decide +kernel
theorem dX7_count_48 : decode cX7_count 48 = .ok (.invokestatic 114, 3) := by decide +kernel
theorem dX7_count_51 : decode cX7_count 51 = .ok (.iadd, 1) := by decide +kernel
theorem dX7_count_52 : decode cX7_count 52 = .ok (.istore 4, 2) := by decide +kernel
theorem dX7_count_54 : decode cX7_count 54 = .ok (.iinc 5 1, 3) := by decide +kernel
theorem dX7_count_57 : decode cX7_count 57 = .ok (.goto (-47), 3) := by decide +kernel
theorem dX7_count_60 : decode cX7_count 60 = .ok (.iload_n 1, 1) := by decide +kernel
theorem dX7_count_61 : decode cX7_count 61 = .ok (.tableswitch 84 0 7 #[47, 55, 60, 62, 64, 69, 74, 79], 47) := by decide +kernel
theorem dX7_count_108 : decode cX7_count 108 = .ok (.aload_n 0, 1) := by decide +kernel
theorem dX7_count_109 : decode cX7_count 109 = .ok (.getfield 9, 3) := by decide +kernel
theorem dX7_count_112 : decode cX7_count 112 = .ok (.bipush 96, 2) := by decide +kernel
theorem dX7_count_114 : decode cX7_count 114 = .ok (.iaload, 1) := by decide +kernel
theorem dX7_count_115 : decode cX7_count 115 = .ok (.ireturn, 1) := by decide +kernel
theorem dX7_count_116 : decode cX7_count 116 = .ok (.aload_n 0, 1) := by decide +kernel
theorem dX7_count_117 : decode cX7_count 117 = .ok (.invokevirtual 433, 3) := by decide +kernel
theorem dX7_count_120 : decode cX7_count 120 = .ok (.ireturn, 1) := by decide +kernel
theorem dX7_count_121 : decode cX7_count 121 = .ok (.iload_n 2, 1) := by decide +kernel
theorem dX7_count_122 : decode cX7_count 122 = .ok (.ireturn, 1) := by decide +kernel
theorem dX7_count_123 : decode cX7_count 123 = .ok (.iload_n 3, 1) := by decide +kernel
theorem dX7_count_124 : decode cX7_count 124 = .ok (.ireturn, 1) := by decide +kernel
theorem dX7_count_125 : decode cX7_count 125 = .ok (.aload_n 0, 1) := by decide +kernel
theorem dX7_count_126 : decode cX7_count 126 = .ok (.getfield 70, 3) := by decide +kernel
theorem dX7_count_129 : decode cX7_count 129 = .ok (.ireturn, 1) := by decide +kernel
theorem dX7_count_130 : decode cX7_count 130 = .ok (.aload_n 0, 1) := by decide +kernel
theorem dX7_count_131 : decode cX7_count 131 = .ok (.getfield 18, 3) := by decide +kernel
theorem dX7_count_134 : decode cX7_count 134 = .ok (.ireturn, 1) := by decide +kernel
theorem dX7_count_135 : decode cX7_count 135 = .ok (.aload_n 0, 1) := by decide +kernel
theorem dX7_count_136 : decode cX7_count 136 = .ok (.getfield 310, 3) := by decide +kernel
theorem dX7_count_139 : decode cX7_count 139 = .ok (.ireturn, 1) := by decide +kernel
theorem dX7_count_140 : decode cX7_count 140 = .ok (.iload 4, 2) := by decide +kernel
theorem dX7_count_142 : decode cX7_count 142 = .ok (.iload_n 2, 1) := by decide +kernel
theorem dX7_count_143 : decode cX7_count 143 = .ok (.isub, 1) := by decide +kernel
theorem dX7_count_144 : decode cX7_count 144 = .ok (.ireturn, 1) := by decide +kernel
theorem dX7_count_145 : decode cX7_count 145 = .ok (.aload_n 0, 1) := by decide +kernel
theorem dX7_count_146 : decode cX7_count 146 = .ok (.iconst 0, 1) := by decide +kernel
theorem dX7_count_147 : decode cX7_count 147 = .ok (.invokevirtual 158, 3) := by decide +kernel
theorem dX7_count_150 : decode cX7_count 150 = .ok (.ireturn, 1) := by decide +kernel
def bX7_count_10 (s : Mem) (v1 : Int32) (v2 : Int32) (v3 : Int32) (v4 : Int32) (v5 : Int32) : Option ((Int32 × Int32 × Int32) ⊕ (Int32 × Int32 × Int32 × Int32)) :=
  gd (96 : Int32) 139 (if (s.1 20 (96 : Int32).toNatClampNeg) ≤ v5 then some (Sum.inl (v2, v3, v4)) else (fX7_putMany s v5).bind (fun y2 => lt (v2 + y2) (fun x3 => (fX7_costOf_ s v5).bind (fun y4 => lt (v3 + y4) (fun x5 => (fX7_wishes s v5).bind (fun y6 => (fX7_bits y6).bind (fun y7 => lt (v4 + y7) (fun x8 => lt (v5 + (1 : Int32)) (fun x9 => some (Sum.inr (x3, x5, x8, x9)))))))))))
set_option maxRecDepth 4000 in
theorem jbX7_count_10 {X : Scr} (d : Nat) (s : Mem) (v1 : Int32) (v2 : Int32) (v3 : Int32) (v4 : Int32) (v5 : Int32) {r : ((Int32 × Int32 × Int32) ⊕ (Int32 × Int32 × Int32 × Int32))} {w : Option Value} {s' : Mem} (hh : bX7_count_10 s v1 v2 v3 v4 v5 = some r) (hk : Sum.elim (fun t : (Int32 × Int32 × Int32) => J X MX7_count (d + 7) 60 [some (.ref 19), some (.int v1), some (.int t.1), some (.int t.2.1), some (.int t.2.2), none] [] s w s') (fun a : (Int32 × Int32 × Int32 × Int32) => J X MX7_count (d + 7) 10 [some (.ref 19), some (.int v1), some (.int a.1), some (.int a.2.1), some (.int a.2.2.1), some (.int a.2.2.2)] [] s w s') r) : J X MX7_count (d + 7) 10 [some (.ref 19), some (.int v1), some (.int v2), some (.int v3), some (.int v4), some (.int v5)] [] s w s' := by
  unfold bX7_count_10 at hh
  refine J_iload (pc := 10) dX7_count_10 rfl ?_
  refine J_aload_n (pc := 12) dX7_count_12 rfl ?_
  refine J_getR (pc := 13) (k := 0) flX7_9 so19 fk19_0 dX7_count_13 ?_
  refine J_bipush (pc := 16) dX7_count_16 cb_96 ?_
  obtain ⟨h1, hh⟩ := gd_some hh
  refine J_iald (pc := 18) dX7_count_18 sa20 h1 ?_
  refine J_icmp_ge (pc := 19) 60 dX7_count_19 (by decide) (fun c10 => ?_) (fun c10 => ?_)
  · replace hh := (if_pos c10).symm.trans hh
    refine J_drop 5 (L' := [some (.ref 19), some (.int v1), some (.int v2), some (.int v3), some (.int v4), none]) rfl ?_
    obtain rfl := Option.some.inj hh
    exact hk
  · replace hh := (if_neg c10).symm.trans hh
    refine J_iload_n (pc := 22) dX7_count_22 rfl ?_
    refine J_aload_n (pc := 23) dX7_count_23 rfl ?_
    refine J_iload (pc := 24) dX7_count_24 rfl ?_
    obtain ⟨y2, hy2, hh⟩ := bd_some hh
    refine J_callVi (pc := 26) (M' := MX7_putMany) (a := 19) (rest := [.int v2]) (As := [.int v5]) (L0 := [some (.ref 19), some (.int v5), none, none]) okX7_putMany ovX7_putMany mlX7_205 clX7 so19 rfl rfl (Nat.le_of_ble_eq_true rfl) dX7_count_26 rfl (Nat.le_of_ble_eq_true rfl) (jX7_putMany (X := X) (d + 5) s v5 hy2) ?_
    refine J_iadd (pc := 29) dX7_count_29 ?_
    refine J_istoreL_n (pc := 30) (fun x3 => [some (.ref 19), some (.int v1), some (.int x3), some (.int v3), some (.int v4), some (.int v5)]) dX7_count_30 rfl (Nat.le_of_ble_eq_true rfl) (fun _ => rfl) hh (fun x3 hh => ?_)
    refine J_iload_n (pc := 31) dX7_count_31 rfl ?_
    refine J_aload_n (pc := 32) dX7_count_32 rfl ?_
    refine J_iload (pc := 33) dX7_count_33 rfl ?_
    obtain ⟨y4, hy4, hh⟩ := bd_some hh
    refine J_callVi (pc := 35) (M' := MX7_costOf_) (a := 19) (rest := [.int v3]) (As := [.int v5]) (L0 := [some (.ref 19), some (.int v5)]) okX7_costOf_ ovX7_costOf_ mlX7_203 clX7 so19 rfl rfl (Nat.le_of_ble_eq_true rfl) dX7_count_35 rfl (Nat.le_of_ble_eq_true rfl) (jX7_costOf_ (X := X) d s v5 hy4) ?_
    refine J_iadd (pc := 38) dX7_count_38 ?_
    refine J_istoreL_n (pc := 39) (fun x5 => [some (.ref 19), some (.int v1), some (.int x3), some (.int x5), some (.int v4), some (.int v5)]) dX7_count_39 rfl (Nat.le_of_ble_eq_true rfl) (fun _ => rfl) hh (fun x5 hh => ?_)
    refine J_iload (pc := 40) dX7_count_40 rfl ?_
    refine J_aload_n (pc := 42) dX7_count_42 rfl ?_
    refine J_iload (pc := 43) dX7_count_43 rfl ?_
    obtain ⟨y6, hy6, hh⟩ := bd_some hh
    refine J_callVi (pc := 45) (M' := MX7_wishes) (a := 19) (rest := [.int v4]) (As := [.int v5]) (L0 := [some (.ref 19), some (.int v5)]) okX7_wishes ovX7_wishes mlX7_208 clX7 so19 rfl rfl (Nat.le_of_ble_eq_true rfl) dX7_count_45 rfl (Nat.le_of_ble_eq_true rfl) (jX7_wishes (X := X) (d + 6) s v5 hy6) ?_
    obtain ⟨y7, hy7, hh⟩ := bd_some hh
    refine J_callSi (pc := 48) (M' := MX7_bits) (rest := [.int v4]) (As := [.int y6]) (L0 := [some (.int y6), none, none]) okX7_bits osX7_bits mlX7_114 rfl rfl (Nat.le_of_ble_eq_true rfl) dX7_count_48 rfl (Nat.le_of_ble_eq_true rfl) (jX7_bits (X := X) (d + 6) s y6 hy7) ?_
    refine J_iadd (pc := 51) dX7_count_51 ?_
    refine J_istoreL (pc := 52) (fun x8 => [some (.ref 19), some (.int v1), some (.int x3), some (.int x5), some (.int x8), some (.int v5)]) dX7_count_52 rfl (Nat.le_of_ble_eq_true rfl) (fun _ => rfl) hh (fun x8 hh => ?_)
    refine J_iincL (pc := 54) (v := v5 + (1 : Int32)) (fun x9 => [some (.ref 19), some (.int v1), some (.int x3), some (.int x5), some (.int x8), some (.int x9)]) dX7_count_54 rfl rfl (Nat.le_of_ble_eq_true rfl) (congrArg _ ci_1) (fun _ => rfl) hh (fun x9 hh => ?_)
    refine J_goto (pc := 57) 10 dX7_count_57 (by decide) ?_
    obtain rfl := Option.some.inj hh
    exact hk
def fX7_count (s : Mem) (p0 : Int32) : Option (Int32 × Mem) :=
  (lp (fun a => bX7_count_10 s p0 a.1 a.2.1 a.2.2.1 a.2.2.2) 600 ((0 : Int32), (0 : Int32), (0 : Int32), (0 : Int32))).bind (fun y11 => if p0 = (0 : Int32) then gd (96 : Int32) 139 (some ((s.1 20 (96 : Int32).toNatClampNeg, s))) else if p0 = (1 : Int32) then (fX7_openMany s).bind (fun y15 => some ((y15, s))) else if p0 = (2 : Int32) then some ((y11.1, s)) else if p0 = (3 : Int32) then some ((y11.2.1, s)) else if p0 = (4 : Int32) then some ((s.1 19 3, s)) else if p0 = (5 : Int32) then some ((s.1 19 4, s)) else if p0 = (6 : Int32) then some ((s.1 19 19, s)) else if p0 = (7 : Int32) then some ((y11.2.2 - y11.1, s)) else (fX7_finds s (0 : Int32)).bind (fun y22 => some ((y22.1, y22.2))))
set_option maxRecDepth 4000 in
theorem jjX7_count {X : Scr} (d : Nat) (s : Mem) (p0 : Int32) {r : (Int32 × Mem)} {w : Option Value} {s' : Mem} (hh : fX7_count s p0 = some r) (hk : w = some (.int r.1) ∧ r.2 = s') : J X MX7_count (d + 7) 0 [some (.ref 19), some (.int p0), none, none, none, none] [] s w s' := by
  unfold fX7_count at hh
  refine J_iconst (pc := 0) dX7_count_0 ci_0 ?_
  refine J_istore_n (pc := 1) (L' := [some (.ref 19), some (.int p0), some (.int (0 : Int32)), none, none, none]) dX7_count_1 rfl (Nat.le_of_ble_eq_true rfl) rfl ?_
  refine J_iconst (pc := 2) dX7_count_2 ci_0 ?_
  refine J_istore_n (pc := 3) (L' := [some (.ref 19), some (.int p0), some (.int (0 : Int32)), some (.int (0 : Int32)), none, none]) dX7_count_3 rfl (Nat.le_of_ble_eq_true rfl) rfl ?_
  refine J_iconst (pc := 4) dX7_count_4 ci_0 ?_
  refine J_istore (pc := 5) (L' := [some (.ref 19), some (.int p0), some (.int (0 : Int32)), some (.int (0 : Int32)), some (.int (0 : Int32)), none]) dX7_count_5 rfl (Nat.le_of_ble_eq_true rfl) rfl ?_
  refine J_iconst (pc := 7) dX7_count_7 ci_0 ?_
  refine J_istore (pc := 8) (L' := [some (.ref 19), some (.int p0), some (.int (0 : Int32)), some (.int (0 : Int32)), some (.int (0 : Int32)), some (.int (0 : Int32))]) dX7_count_8 rfl (Nat.le_of_ble_eq_true rfl) rfl ?_
  obtain ⟨y11, hy11, hh⟩ := bd_some hh
  refine J_lp (a := ((0 : Int32), (0 : Int32), (0 : Int32), (0 : Int32))) (fun a : (Int32 × Int32 × Int32 × Int32) => J X MX7_count (d + 7) 10 [some (.ref 19), some (.int p0), some (.int a.1), some (.int a.2.1), some (.int a.2.2.1), some (.int a.2.2.2)] [] s w s') (fun t : (Int32 × Int32 × Int32) => J X MX7_count (d + 7) 60 [some (.ref 19), some (.int p0), some (.int t.1), some (.int t.2.1), some (.int t.2.2), none] [] s w s') (fun a q h1 h2 => jbX7_count_10 d s p0 a.1 a.2.1 a.2.2.1 a.2.2.2 h1 h2) hy11 ?_
  refine J_iload_n (pc := 60) dX7_count_60 rfl ?_
  by_cases c12 : p0 = (0 : Int32)
  · replace hh := (if_pos c12).symm.trans hh
    refine J_swIn (pc := 61) 108 dX7_count_61 (by rw [c12]; decide) (by rw [c12]; decide) (by rw [c12]; rfl) (by decide) ?_
    refine J_aload_n (pc := 108) dX7_count_108 rfl ?_
    refine J_getR (pc := 109) (k := 0) flX7_9 so19 fk19_0 dX7_count_109 ?_
    refine J_bipush (pc := 112) dX7_count_112 cb_96 ?_
    obtain ⟨h13, hh⟩ := gd_some hh
    refine J_iald (pc := 114) dX7_count_114 sa20 h13 ?_
    obtain rfl := Option.some.inj hh
    obtain ⟨rfl, rfl⟩ := hk
    exact J_ret (w := some (.int (s.1 20 (96 : Int32).toNatClampNeg))) ⟨dX7_count_115, _, rfl, rfl⟩
  replace hh := (if_neg c12).symm.trans hh
  by_cases c14 : p0 = (1 : Int32)
  · replace hh := (if_pos c14).symm.trans hh
    refine J_swIn (pc := 61) 116 dX7_count_61 (by rw [c14]; decide) (by rw [c14]; decide) (by rw [c14]; rfl) (by decide) ?_
    refine J_aload_n (pc := 116) dX7_count_116 rfl ?_
    obtain ⟨y15, hy15, hh⟩ := bd_some hh
    refine J_callVi (pc := 117) (M' := MX7_openMany) (a := 19) (rest := []) (As := []) (L0 := [some (.ref 19), none, none, none, none]) okX7_openMany ovX7_openMany mlX7_433 clX7 so19 rfl rfl (Nat.le_of_ble_eq_true rfl) dX7_count_117 rfl (Nat.le_of_ble_eq_true rfl) (jX7_openMany (X := X) (d + 4) s hy15) ?_
    obtain rfl := Option.some.inj hh
    obtain ⟨rfl, rfl⟩ := hk
    exact J_ret (w := some (.int y15)) ⟨dX7_count_120, _, rfl, rfl⟩
  replace hh := (if_neg c14).symm.trans hh
  by_cases c16 : p0 = (2 : Int32)
  · replace hh := (if_pos c16).symm.trans hh
    refine J_swIn (pc := 61) 121 dX7_count_61 (by rw [c16]; decide) (by rw [c16]; decide) (by rw [c16]; rfl) (by decide) ?_
    refine J_iload_n (pc := 121) dX7_count_121 rfl ?_
    obtain rfl := Option.some.inj hh
    obtain ⟨rfl, rfl⟩ := hk
    exact J_ret (w := some (.int y11.1)) ⟨dX7_count_122, _, rfl, rfl⟩
  replace hh := (if_neg c16).symm.trans hh
  by_cases c17 : p0 = (3 : Int32)
  · replace hh := (if_pos c17).symm.trans hh
    refine J_swIn (pc := 61) 123 dX7_count_61 (by rw [c17]; decide) (by rw [c17]; decide) (by rw [c17]; rfl) (by decide) ?_
    refine J_iload_n (pc := 123) dX7_count_123 rfl ?_
    obtain rfl := Option.some.inj hh
    obtain ⟨rfl, rfl⟩ := hk
    exact J_ret (w := some (.int y11.2.1)) ⟨dX7_count_124, _, rfl, rfl⟩
  replace hh := (if_neg c17).symm.trans hh
  by_cases c18 : p0 = (4 : Int32)
  · replace hh := (if_pos c18).symm.trans hh
    refine J_swIn (pc := 61) 125 dX7_count_61 (by rw [c18]; decide) (by rw [c18]; decide) (by rw [c18]; rfl) (by decide) ?_
    refine J_aload_n (pc := 125) dX7_count_125 rfl ?_
    refine J_getI (pc := 126) (k := 3) flX7_70 so19 fk19_3 dX7_count_126 ?_
    obtain rfl := Option.some.inj hh
    obtain ⟨rfl, rfl⟩ := hk
    exact J_ret (w := some (.int (s.1 19 3))) ⟨dX7_count_129, _, rfl, rfl⟩
  replace hh := (if_neg c18).symm.trans hh
  by_cases c19 : p0 = (5 : Int32)
  · replace hh := (if_pos c19).symm.trans hh
    refine J_swIn (pc := 61) 130 dX7_count_61 (by rw [c19]; decide) (by rw [c19]; decide) (by rw [c19]; rfl) (by decide) ?_
    refine J_aload_n (pc := 130) dX7_count_130 rfl ?_
    refine J_getI (pc := 131) (k := 4) flX7_18 so19 fk19_4 dX7_count_131 ?_
    obtain rfl := Option.some.inj hh
    obtain ⟨rfl, rfl⟩ := hk
    exact J_ret (w := some (.int (s.1 19 4))) ⟨dX7_count_134, _, rfl, rfl⟩
  replace hh := (if_neg c19).symm.trans hh
  by_cases c20 : p0 = (6 : Int32)
  · replace hh := (if_pos c20).symm.trans hh
    refine J_swIn (pc := 61) 135 dX7_count_61 (by rw [c20]; decide) (by rw [c20]; decide) (by rw [c20]; rfl) (by decide) ?_
    refine J_aload_n (pc := 135) dX7_count_135 rfl ?_
    refine J_getI (pc := 136) (k := 19) flX7_310 so19 fk19_19 dX7_count_136 ?_
    obtain rfl := Option.some.inj hh
    obtain ⟨rfl, rfl⟩ := hk
    exact J_ret (w := some (.int (s.1 19 19))) ⟨dX7_count_139, _, rfl, rfl⟩
  replace hh := (if_neg c20).symm.trans hh
  by_cases c21 : p0 = (7 : Int32)
  · replace hh := (if_pos c21).symm.trans hh
    refine J_swIn (pc := 61) 140 dX7_count_61 (by rw [c21]; decide) (by rw [c21]; decide) (by rw [c21]; rfl) (by decide) ?_
    refine J_iload (pc := 140) dX7_count_140 rfl ?_
    refine J_iload_n (pc := 142) dX7_count_142 rfl ?_
    refine J_isub (pc := 143) dX7_count_143 ?_
    obtain rfl := Option.some.inj hh
    obtain ⟨rfl, rfl⟩ := hk
    exact J_ret (w := some (.int (y11.2.2 - y11.1))) ⟨dX7_count_144, _, rfl, rfl⟩
  replace hh := (if_neg c21).symm.trans hh
  refine J_swOut (pc := 61) 145 dX7_count_61 (by have := lv_neT c12 (a := 0) (by decide); have := lv_neT c14 (a := 1) (by decide); have := lv_neT c16 (a := 2) (by decide); have := lv_neT c17 (a := 3) (by decide); have := lv_neT c18 (a := 4) (by decide); have := lv_neT c19 (a := 5) (by decide); have := lv_neT c20 (a := 6) (by decide); have := lv_neT c21 (a := 7) (by decide); omega) (by decide) ?_
  refine J_aload_n (pc := 145) dX7_count_145 rfl ?_
  refine J_iconst (pc := 146) dX7_count_146 ci_0 ?_
  obtain ⟨y22, hy22, hh⟩ := bd_some hh
  refine J_callVi (pc := 147) (M' := MX7_finds) (a := 19) (rest := []) (As := [.int (0 : Int32)]) (L0 := [some (.ref 19), some (.int (0 : Int32))]) okX7_finds ovX7_finds mlX7_158 clX7 so19 rfl rfl (Nat.le_of_ble_eq_true rfl) dX7_count_147 rfl (Nat.le_of_ble_eq_true rfl) (jX7_finds (X := X) (d + 6) s (0 : Int32) hy22) ?_
  obtain rfl := Option.some.inj hh
  obtain ⟨rfl, rfl⟩ := hk
  exact J_ret (w := some (.int y22.1)) ⟨dX7_count_150, _, rfl, rfl⟩
theorem jX7_count {X : Scr} (d : Nat) (s : Mem) (p0 : Int32) {r : (Int32 × Mem)} (hh : fX7_count s p0 = some r) : J X MX7_count (d + 7) 0 [some (.ref 19), some (.int p0), none, none, none, none] [] s (some (.int r.1)) r.2 := jjX7_count d s p0 hh ⟨rfl, rfl⟩
theorem dX7_status_0 : decode cX7_status 0 = .ok (.iload_n 1, 1) := by decide +kernel
theorem dX7_status_1 : decode cX7_status 1 = .ok (.i2l, 1) := by decide +kernel
theorem dX7_status_2 : decode cX7_status 2 = .ok (.ldc2_w 156, 3) := by decide +kernel
theorem dX7_status_5 : decode cX7_status 5 = .ok (.ldc2_w 178, 3) := by decide +kernel
theorem dX7_status_8 : decode cX7_status 8 = .ok (.invokestatic 63, 3) := by decide +kernel
theorem dX7_status_11 : decode cX7_status 11 = .ok (.ifCond .ne 9, 3) := by decide +kernel
theorem dX7_status_14 : decode cX7_status 14 = .ok (.aload_n 0, 1) := by decide +kernel
theorem dX7_status_15 : decode cX7_status 15 = .ok (.iconst 0, 1) := by decide +kernel
theorem dX7_status_16 : decode cX7_status 16 = .ok (.invokevirtual 158, 3) := by decide +kernel
theorem dX7_status_19 : decode cX7_status 19 = .ok (.ireturn, 1) := by decide +kernel
theorem dX7_status_20 : decode cX7_status 20 = .ok (.iconst 0, 1) := by decide +kernel
theorem dX7_status_21 : decode cX7_status 21 = .ok (.istore_n 2, 1) := by decide +kernel
theorem dX7_status_22 : decode cX7_status 22 = .ok (.iconst 0, 1) := by decide +kernel
theorem dX7_status_23 : decode cX7_status 23 = .ok (.istore_n 3, 1) := by decide +kernel
theorem dX7_status_24 : decode cX7_status 24 = .ok (.iload_n 3, 1) := by decide +kernel
theorem dX7_status_25 : decode cX7_status 25 = .ok (.bipush 8, 2) := by decide +kernel
theorem dX7_status_27 : decode cX7_status 27 = .ok (.if_icmp .ge 31, 3) := by decide +kernel
theorem dX7_status_30 : decode cX7_status 30 = .ok (.iload_n 2, 1) := by decide +kernel
theorem dX7_status_31 : decode cX7_status 31 = .ok (.iload_n 1, 1) := by decide +kernel
theorem dX7_status_32 : decode cX7_status 32 = .ok (.ifCond .lt 8, 3) := by decide +kernel
theorem dX7_status_35 : decode cX7_status 35 = .ok (.iload_n 1, 1) := by decide +kernel
theorem dX7_status_36 : decode cX7_status 36 = .ok (.iload_n 3, 1) := by decide +kernel
theorem dX7_status_37 : decode cX7_status 37 = .ok (.if_icmp .ne 12, 3) := by decide +kernel
theorem dX7_status_40 : decode cX7_status 40 = .ok (.aload_n 0, 1) := by decide +kernel
theorem dX7_status_41 : decode cX7_status 41 = .ok (.getfield 22, 3) := by decide +kernel
theorem dX7_status_44 : decode cX7_status 44 = .ok (.iload_n 3, 1) := by decide +kernel
theorem dX7_status_45 : decode cX7_status 45 = .ok (.iaload, 1) := by decide +kernel
theorem dX7_status_46 : decode cX7_status 46 = .ok (.goto 4, 3) := by decide +kernel
theorem dX7_status_49 : decode cX7_status 49 = .ok (.iconst 0, 1) := by decide +kernel
theorem dX7_status_50 : decode cX7_status 50 = .ok (.iadd, 1) := by decide +kernel
theorem dX7_status_51 : decode cX7_status 51 = .ok (.istore_n 2, 1) := by decide +kernel
theorem dX7_status_52 : decode cX7_status 52 = .ok (.iinc 3 1, 3) := by decide +kernel
theorem dX7_status_55 : decode cX7_status 55 = .ok (.goto (-31), 3) := by decide +kernel
theorem dX7_status_58 : decode cX7_status 58 = .ok (.iload_n 2, 1) := by decide +kernel
theorem dX7_status_59 : decode cX7_status 59 = .ok (.ireturn, 1) := by decide +kernel
def gX7_status_40 (s : Mem) (v1 : Int32) (v3 : Int32) (k0 : Int32) : Option (Int32 ⊕ (Int32 × Int32)) :=
  gd v3 8 (lt (k0 + (s.1 22 v3.toNatClampNeg)) (fun x3 => lt (v3 + (1 : Int32)) (fun x4 => some (Sum.inr (x3, x4)))))
set_option maxRecDepth 4000 in
theorem jgX7_status_40 {X : Scr} (d : Nat) (s : Mem) (v1 : Int32) (v3 : Int32) (k0 : Int32) {r : (Int32 ⊕ (Int32 × Int32))} {w : Option Value} {s' : Mem} (hh : gX7_status_40 s v1 v3 k0 = some r) (hk : Sum.elim (fun t : Int32 => J X MX7_status (d + 1) 58 [none, none, some (.int t), none] [] s w s') (fun a : (Int32 × Int32) => J X MX7_status (d + 1) 24 [some (.ref 19), some (.int v1), some (.int a.1), some (.int a.2)] [] s w s') r) : J X MX7_status (d + 1) 40 [some (.ref 19), some (.int v1), none, some (.int v3)] [.int k0] s w s' := by
  unfold gX7_status_40 at hh
  refine J_aload_n (pc := 40) dX7_status_40 rfl ?_
  refine J_getR (pc := 41) (k := 5) flX7_22 so19 fk19_5 dX7_status_41 ?_
  refine J_iload_n (pc := 44) dX7_status_44 rfl ?_
  obtain ⟨h2, hh⟩ := gd_some hh
  refine J_iald (pc := 45) dX7_status_45 sa22 h2 ?_
  refine J_goto (pc := 46) 50 dX7_status_46 (by decide) ?_
  refine J_iadd (pc := 50) dX7_status_50 ?_
  refine J_istoreL_n (pc := 51) (fun x3 => [some (.ref 19), some (.int v1), some (.int x3), some (.int v3)]) dX7_status_51 rfl (Nat.le_of_ble_eq_true rfl) (fun _ => rfl) hh (fun x3 hh => ?_)
  refine J_iincL (pc := 52) (v := v3 + (1 : Int32)) (fun x4 => [some (.ref 19), some (.int v1), some (.int x3), some (.int x4)]) dX7_status_52 rfl rfl (Nat.le_of_ble_eq_true rfl) (congrArg _ ci_1) (fun _ => rfl) hh (fun x4 hh => ?_)
  refine J_goto (pc := 55) 24 dX7_status_55 (by decide) ?_
  obtain rfl := Option.some.inj hh
  exact hk
def bX7_status_24 (s : Mem) (v1 : Int32) (v2 : Int32) (v3 : Int32) : Option (Int32 ⊕ (Int32 × Int32)) :=
  if (8 : Int32) ≤ v3 then some (Sum.inl v2) else if v1 < (0 : Int32) then gX7_status_40 s v1 v3 v2 else if v1 = v3 then gX7_status_40 s v1 v3 v2 else lt (v2 + (0 : Int32)) (fun x5 => lt (v3 + (1 : Int32)) (fun x6 => some (Sum.inr (x5, x6))))
set_option maxRecDepth 4000 in
theorem jbX7_status_24 {X : Scr} (d : Nat) (s : Mem) (v1 : Int32) (v2 : Int32) (v3 : Int32) {r : (Int32 ⊕ (Int32 × Int32))} {w : Option Value} {s' : Mem} (hh : bX7_status_24 s v1 v2 v3 = some r) (hk : Sum.elim (fun t : Int32 => J X MX7_status (d + 1) 58 [none, none, some (.int t), none] [] s w s') (fun a : (Int32 × Int32) => J X MX7_status (d + 1) 24 [some (.ref 19), some (.int v1), some (.int a.1), some (.int a.2)] [] s w s') r) : J X MX7_status (d + 1) 24 [some (.ref 19), some (.int v1), some (.int v2), some (.int v3)] [] s w s' := by
  unfold bX7_status_24 at hh
  refine J_iload_n (pc := 24) dX7_status_24 rfl ?_
  refine J_bipush (pc := 25) dX7_status_25 cb_8 ?_
  refine J_icmp_ge (pc := 27) 58 dX7_status_27 (by decide) (fun c9 => ?_) (fun c9 => ?_)
  · replace hh := (if_pos c9).symm.trans hh
    refine J_drop 0 (L' := [none, some (.int v1), some (.int v2), some (.int v3)]) rfl ?_
    refine J_drop 1 (L' := [none, none, some (.int v2), some (.int v3)]) rfl ?_
    refine J_drop 3 (L' := [none, none, some (.int v2), none]) rfl ?_
    obtain rfl := Option.some.inj hh
    exact hk
  · replace hh := (if_neg c9).symm.trans hh
    refine J_iload_n (pc := 30) dX7_status_30 rfl ?_
    refine J_iload_n (pc := 31) dX7_status_31 rfl ?_
    refine J_if_lt (pc := 32) 40 dX7_status_32 (by decide) (fun c8 => ?_) (fun c8 => ?_)
    · replace hh := (if_pos c8).symm.trans hh
      refine J_drop 2 (L' := [some (.ref 19), some (.int v1), none, some (.int v3)]) rfl ?_
      exact jgX7_status_40 d s v1 v3 v2 hh hk
    · replace hh := (if_neg c8).symm.trans hh
      refine J_iload_n (pc := 35) dX7_status_35 rfl ?_
      refine J_iload_n (pc := 36) dX7_status_36 rfl ?_
      refine J_icmp_ne (pc := 37) 49 dX7_status_37 (by decide) (fun c7 => ?_) (fun c7 => ?_)
      · replace hh := (if_neg c7).symm.trans hh
        refine J_iconst (pc := 49) dX7_status_49 ci_0 ?_
        refine J_iadd (pc := 50) dX7_status_50 ?_
        refine J_istoreL_n (pc := 51) (fun x5 => [some (.ref 19), some (.int v1), some (.int x5), some (.int v3)]) dX7_status_51 rfl (Nat.le_of_ble_eq_true rfl) (fun _ => rfl) hh (fun x5 hh => ?_)
        refine J_iincL (pc := 52) (v := v3 + (1 : Int32)) (fun x6 => [some (.ref 19), some (.int v1), some (.int x5), some (.int x6)]) dX7_status_52 rfl rfl (Nat.le_of_ble_eq_true rfl) (congrArg _ ci_1) (fun _ => rfl) hh (fun x6 hh => ?_)
        refine J_goto (pc := 55) 24 dX7_status_55 (by decide) ?_
        obtain rfl := Option.some.inj hh
        exact hk
      · replace hh := (if_pos c7).symm.trans hh
        refine J_drop 2 (L' := [some (.ref 19), some (.int v1), none, some (.int v3)]) rfl ?_
        exact jgX7_status_40 d s v1 v3 v2 hh hk
def fX7_status (s : Mem) (p0 : Int32) : Option (Int32 × Mem) :=
  (fX7_in (p0.toInt64) (-1 : Int64) (7 : Int64)).bind (fun y1 => if y1 = (0 : Int32) then (fX7_finds s (0 : Int32)).bind (fun y11 => some ((y11.1, y11.2))) else (lp (fun a => bX7_status_24 s p0 a.1 a.2) 600 ((0 : Int32), (0 : Int32))).bind (fun y10 => some ((y10, s))))
set_option maxRecDepth 4000 in
theorem jjX7_status {X : Scr} (d : Nat) (s : Mem) (p0 : Int32) {r : (Int32 × Mem)} {w : Option Value} {s' : Mem} (hh : fX7_status s p0 = some r) (hk : w = some (.int r.1) ∧ r.2 = s') : J X MX7_status (d + 1) 0 [some (.ref 19), some (.int p0), none, none] [] s w s' := by
  unfold fX7_status at hh
  refine J_iload_n (pc := 0) dX7_status_0 rfl ?_
  refine J_i2l (pc := 1) dX7_status_1 ?_
  refine J_ldc2 (pc := 2) klX7_156 dX7_status_2 ?_
  refine J_ldc2 (pc := 5) klX7_178 dX7_status_5 ?_
  obtain ⟨y1, hy1, hh⟩ := bd_some hh
  refine J_callSi (pc := 8) (M' := MX7_in) (rest := []) (As := [.long (p0.toInt64), .long (-1 : Int64), .long (7 : Int64)]) (L0 := [some (.long (p0.toInt64)), none, some (.long (-1 : Int64)), none, some (.long (7 : Int64)), none]) okX7_in osX7_in mlX7_63 rfl rfl (Nat.le_of_ble_eq_true rfl) dX7_status_8 rfl (Nat.le_of_ble_eq_true rfl) (jX7_in (X := X) d s (p0.toInt64) (-1 : Int64) (7 : Int64) hy1) ?_
  refine J_if_ne (pc := 11) 20 dX7_status_11 (by decide) (fun c12 => ?_) (fun c12 => ?_)
  · replace hh := (if_neg c12).symm.trans hh
    refine J_iconst (pc := 20) dX7_status_20 ci_0 ?_
    refine J_istore_n (pc := 21) (L' := [some (.ref 19), some (.int p0), some (.int (0 : Int32)), none]) dX7_status_21 rfl (Nat.le_of_ble_eq_true rfl) rfl ?_
    refine J_iconst (pc := 22) dX7_status_22 ci_0 ?_
    refine J_istore_n (pc := 23) (L' := [some (.ref 19), some (.int p0), some (.int (0 : Int32)), some (.int (0 : Int32))]) dX7_status_23 rfl (Nat.le_of_ble_eq_true rfl) rfl ?_
    obtain ⟨y10, hy10, hh⟩ := bd_some hh
    refine J_lp (a := ((0 : Int32), (0 : Int32))) (fun a : (Int32 × Int32) => J X MX7_status (d + 1) 24 [some (.ref 19), some (.int p0), some (.int a.1), some (.int a.2)] [] s w s') (fun t : Int32 => J X MX7_status (d + 1) 58 [none, none, some (.int t), none] [] s w s') (fun a q h1 h2 => jbX7_status_24 d s p0 a.1 a.2 h1 h2) hy10 ?_
    refine J_iload_n (pc := 58) dX7_status_58 rfl ?_
    obtain rfl := Option.some.inj hh
    obtain ⟨rfl, rfl⟩ := hk
    exact J_ret (w := some (.int y10)) ⟨dX7_status_59, _, rfl, rfl⟩
  · replace hh := (if_pos c12).symm.trans hh
    refine J_aload_n (pc := 14) dX7_status_14 rfl ?_
    refine J_iconst (pc := 15) dX7_status_15 ci_0 ?_
    obtain ⟨y11, hy11, hh⟩ := bd_some hh
    refine J_callVi (pc := 16) (M' := MX7_finds) (a := 19) (rest := []) (As := [.int (0 : Int32)]) (L0 := [some (.ref 19), some (.int (0 : Int32))]) okX7_finds ovX7_finds mlX7_158 clX7 so19 rfl rfl (Nat.le_of_ble_eq_true rfl) dX7_status_16 rfl (Nat.le_of_ble_eq_true rfl) (jX7_finds (X := X) d s (0 : Int32) hy11) ?_
    obtain rfl := Option.some.inj hh
    obtain ⟨rfl, rfl⟩ := hk
    exact J_ret (w := some (.int y11.1)) ⟨dX7_status_19, _, rfl, rfl⟩
theorem jX7_status {X : Scr} (d : Nat) (s : Mem) (p0 : Int32) {r : (Int32 × Mem)} (hh : fX7_status s p0 = some r) : J X MX7_status (d + 1) 0 [some (.ref 19), some (.int p0), none, none] [] s (some (.int r.1)) r.2 := jjX7_status d s p0 hh ⟨rfl, rfl⟩
