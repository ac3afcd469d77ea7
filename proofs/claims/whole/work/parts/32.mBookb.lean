theorem dX0_leastLeft_0 : decode cX0_leastLeft 0 = .ok (.bipush 9, 2) := by decide +kernel
theorem dX0_leastLeft_2 : decode cX0_leastLeft 2 = .ok (.istore 4, 2) := by decide +kernel
theorem dX0_leastLeft_4 : decode cX0_leastLeft 4 = .ok (.iconst 0, 1) := by decide +kernel
theorem dX0_leastLeft_5 : decode cX0_leastLeft 5 = .ok (.istore 5, 2) := by decide +kernel
theorem dX0_leastLeft_7 : decode cX0_leastLeft 7 = .ok (.iload 5, 2) := by decide +kernel
theorem dX0_leastLeft_9 : decode cX0_leastLeft 9 = .ok (.iconst 3, 1) := by decide +kernel
theorem dX0_leastLeft_10 : decode cX0_leastLeft 10 = .ok (.if_icmp .ge 59, 3) := by decide +kernel
theorem dX0_leastLeft_13 : decode cX0_leastLeft 13 = .ok (.aload_n 0, 1) := by decide +kernel
theorem dX0_leastLeft_14 : decode cX0_leastLeft 14 = .ok (.iload_n 1, 1) := by decide +kernel
theorem dX0_leastLeft_15 : decode cX0_leastLeft 15 = .ok (.iload 5, 2) := by decide +kernel
theorem dX0_leastLeft_17 : decode cX0_leastLeft 17 = .ok (.invokevirtual 74, 3) := by decide +kernel
theorem dX0_leastLeft_20 : decode cX0_leastLeft 20 = .ok (.ifCond .eq 43, 3) := by decide +kernel
theorem dX0_leastLeft_23 : decode cX0_leastLeft 23 = .ok (.iload_n 2, 1) := by decide +kernel
theorem dX0_leastLeft_24 : decode cX0_leastLeft 24 = .ok (.iload 5, 2) := by decide +kernel
theorem dX0_leastLeft_26 : decode cX0_leastLeft 26 = .ok (.invokestatic 71, 3) := by decide +kernel
theorem dX0_leastLeft_29 : decode cX0_leastLeft 29 = .ok (.istore 6, 2) := by decide +kernel
theorem dX0_leastLeft_31 : decode cX0_leastLeft 31 = .ok (.aload_n 0, 1) := by decide +kernel
theorem dX0_leastLeft_32 : decode cX0_leastLeft 32 = .ok (.iload_n 1, 1) := by decide +kernel
theorem dX0_leastLeft_33 : decode cX0_leastLeft 33 = .ok (.iload 5, 2) := by decide +kernel
theorem dX0_leastLeft_35 : decode cX0_leastLeft 35 = .ok (.iload 6, 2) := by decide +kernel
theorem dX0_leastLeft_37 : decode cX0_leastLeft 37 = .ok (.iconst 2, 1) := by decide +kernel
theorem dX0_leastLeft_38 : decode cX0_leastLeft 38 = .ok (.invokevirtual 51, 3) := by decide +kernel
theorem dX0_leastLeft_41 : decode cX0_leastLeft 41 = .ok (.aload_n 0, 1) := by decide +kernel
theorem dX0_leastLeft_42 : decode cX0_leastLeft 42 = .ok (.iload_n 1, 1) := by decide +kernel
theorem dX0_leastLeft_43 : decode cX0_leastLeft 43 = .ok (.iload 5, 2) := by decide +kernel
theorem dX0_leastLeft_45 : decode cX0_leastLeft 45 = .ok (.iload 6, 2) := by decide +kernel
theorem dX0_leastLeft_47 : decode cX0_leastLeft 47 = .ok (.iload_n 3, 1) := by decide +kernel
theorem dX0_leastLeft_48 : decode cX0_leastLeft 48 = .ok (.invokevirtual 47, 3) := by decide +kernel
theorem dX0_leastLeft_51 : decode cX0_leastLeft 51 = .ok (.isub, 1) := by decide +kernel
theorem dX0_leastLeft_52 : decode cX0_leastLeft 52 = .ok (.istore 7, 2) := by decide +kernel
theorem dX0_leastLeft_54 : decode cX0_leastLeft 54 = .ok (.iload 4, 2) := by decide +kernel
theorem dX0_leastLeft_56 : decode cX0_leastLeft 56 = .ok (.iload 7, 2) := by decide +kernel
theorem dX0_leastLeft_58 : decode cX0_leastLeft 58 = .ok (.invokestatic 114, 3) := by decide +kernel
theorem dX0_leastLeft_61 : decode cX0_leastLeft 61 = .ok (.istore 4, 2) := by decide +kernel
theorem dX0_leastLeft_63 : decode cX0_leastLeft 63 = .ok (.iinc 5 1, 3) := by decide +kernel
theorem dX0_leastLeft_66 : decode cX0_leastLeft 66 = .ok (.goto (-59), 3) := by decide +kernel
theorem dX0_leastLeft_69 : decode cX0_leastLeft 69 = .ok (.iload 4, 2) := by decide +kernel
theorem dX0_leastLeft_71 : decode cX0_leastLeft 71 = .ok (.ireturn, 1) := by decide +kernel
def bX0_leastLeft_7 (s : Mem) (v1 : Int32) (v2 : Int32) (v3 : Int32) (v4 : Int32) (v5 : Int32) : Option (Int32 ⊕ (Int32 × Int32)) :=
  if (3 : Int32) ≤ v5 then some (Sum.inl v4) else (fX0_counts s v1 v5).bind (fun y1 => if y1 = (0 : Int32) then lt (v5 + (1 : Int32)) (fun x2 => some (Sum.inr (v4, x2))) else (fX0_partOf v2 v5).bind (fun y3 => (fX0_ofSection s v1 v5 y3 (2 : Int32)).bind (fun y4 => (fX0_taken s v1 v5 y3 v3).bind (fun y5 => lt (y4 - y5) (fun x6 => lt (mnI v4 x6) (fun x7 => lt (v5 + (1 : Int32)) (fun x8 => some (Sum.inr (x7, x8)))))))))
set_option maxRecDepth 4000 in
theorem jbX0_leastLeft_7 {X : Scr} (d : Nat) (s : Mem) (v1 : Int32) (v2 : Int32) (v3 : Int32) (v4 : Int32) (v5 : Int32) {r : (Int32 ⊕ (Int32 × Int32))} {w : Option Value} {s' : Mem} (hh : bX0_leastLeft_7 s v1 v2 v3 v4 v5 = some r) (hk : Sum.elim (fun t : Int32 => J X MX0_leastLeft (d + 1) 69 [none, none, none, none, some (.int t), none, none, none] [] s w s') (fun a : (Int32 × Int32) => J X MX0_leastLeft (d + 1) 7 [some (.ref 1), some (.int v1), some (.int v2), some (.int v3), some (.int a.1), some (.int a.2), none, none] [] s w s') r) : J X MX0_leastLeft (d + 1) 7 [some (.ref 1), some (.int v1), some (.int v2), some (.int v3), some (.int v4), some (.int v5), none, none] [] s w s' := by
  unfold bX0_leastLeft_7 at hh
  refine J_iload (pc := 7) dX0_leastLeft_7 rfl ?_
  refine J_iconst (pc := 9) dX0_leastLeft_9 ci_3 ?_
  refine J_icmp_ge (pc := 10) 69 dX0_leastLeft_10 (by decide) (fun c10 => ?_) (fun c10 => ?_)
  · replace hh := (if_pos c10).symm.trans hh
    refine J_drop 0 (L' := [none, some (.int v1), some (.int v2), some (.int v3), some (.int v4), some (.int v5), none, none]) rfl ?_
    refine J_drop 1 (L' := [none, none, some (.int v2), some (.int v3), some (.int v4), some (.int v5), none, none]) rfl ?_
    refine J_drop 2 (L' := [none, none, none, some (.int v3), some (.int v4), some (.int v5), none, none]) rfl ?_
    refine J_drop 3 (L' := [none, none, none, none, some (.int v4), some (.int v5), none, none]) rfl ?_
    refine J_drop 5 (L' := [none, none, none, none, some (.int v4), none, none, none]) rfl ?_
    obtain rfl := Option.some.inj hh
    exact hk
  · replace hh := (if_neg c10).symm.trans hh
    refine J_aload_n (pc := 13) dX0_leastLeft_13 rfl ?_
    refine J_iload_n (pc := 14) dX0_leastLeft_14 rfl ?_
    refine J_iload (pc := 15) dX0_leastLeft_15 rfl ?_
    obtain ⟨y1, hy1, hh⟩ := bd_some hh
    refine J_callVi (pc := 17) (M' := MX0_counts) (a := 1) (rest := []) (As := [.int v1, .int v5]) (L0 := [some (.ref 1), some (.int v1), some (.int v5), none]) okX0_counts ovX0_counts mlX0_74 clX0 so1 rfl rfl (Nat.le_of_ble_eq_true rfl) dX0_leastLeft_17 rfl (Nat.le_of_ble_eq_true rfl) (jX0_counts (X := X) d s v1 v5 hy1) ?_
    refine J_if_eq (pc := 20) 63 dX0_leastLeft_20 (by decide) (fun c9 => ?_) (fun c9 => ?_)
    · replace hh := (if_pos c9).symm.trans hh
      refine J_iincL (pc := 63) (v := v5 + (1 : Int32)) (fun x2 => [some (.ref 1), some (.int v1), some (.int v2), some (.int v3), some (.int v4), some (.int x2), none, none]) dX0_leastLeft_63 rfl rfl (Nat.le_of_ble_eq_true rfl) (congrArg _ ci_1) (fun _ => rfl) hh (fun x2 hh => ?_)
      refine J_goto (pc := 66) 7 dX0_leastLeft_66 (by decide) ?_
      obtain rfl := Option.some.inj hh
      exact hk
    · replace hh := (if_neg c9).symm.trans hh
      refine J_iload_n (pc := 23) dX0_leastLeft_23 rfl ?_
      refine J_iload (pc := 24) dX0_leastLeft_24 rfl ?_
      obtain ⟨y3, hy3, hh⟩ := bd_some hh
      refine J_callSi (pc := 26) (M' := MX0_partOf) (rest := []) (As := [.int v2, .int v5]) (L0 := [some (.int v2), some (.int v5)]) okX0_partOf osX0_partOf mlX0_71 rfl rfl (Nat.le_of_ble_eq_true rfl) dX0_leastLeft_26 rfl (Nat.le_of_ble_eq_true rfl) (jX0_partOf (X := X) d s v2 v5 hy3) ?_
      refine J_istore (pc := 29) (L' := [some (.ref 1), some (.int v1), some (.int v2), some (.int v3), some (.int v4), some (.int v5), some (.int y3), none]) dX0_leastLeft_29 rfl (Nat.le_of_ble_eq_true rfl) rfl ?_
      refine J_aload_n (pc := 31) dX0_leastLeft_31 rfl ?_
      refine J_iload_n (pc := 32) dX0_leastLeft_32 rfl ?_
      refine J_iload (pc := 33) dX0_leastLeft_33 rfl ?_
      refine J_iload (pc := 35) dX0_leastLeft_35 rfl ?_
      refine J_iconst (pc := 37) dX0_leastLeft_37 ci_2 ?_
      obtain ⟨y4, hy4, hh⟩ := bd_some hh
      refine J_callVi (pc := 38) (M' := MX0_ofSection) (a := 1) (rest := []) (As := [.int v1, .int v5, .int y3, .int (2 : Int32)]) (L0 := [some (.ref 1), some (.int v1), some (.int v5), some (.int y3), some (.int (2 : Int32))]) okX0_ofSection ovX0_ofSection mlX0_51 clX0 so1 rfl rfl (Nat.le_of_ble_eq_true rfl) dX0_leastLeft_38 rfl (Nat.le_of_ble_eq_true rfl) (jX0_ofSection (X := X) d s v1 v5 y3 (2 : Int32) hy4) ?_
      refine J_aload_n (pc := 41) dX0_leastLeft_41 rfl ?_
      refine J_iload_n (pc := 42) dX0_leastLeft_42 rfl ?_
      refine J_iload (pc := 43) dX0_leastLeft_43 rfl ?_
      refine J_iload (pc := 45) dX0_leastLeft_45 rfl ?_
      refine J_iload_n (pc := 47) dX0_leastLeft_47 rfl ?_
      obtain ⟨y5, hy5, hh⟩ := bd_some hh
      refine J_callVi (pc := 48) (M' := MX0_taken) (a := 1) (rest := [.int y4]) (As := [.int v1, .int v5, .int y3, .int v3]) (L0 := [some (.ref 1), some (.int v1), some (.int v5), some (.int y3), some (.int v3), none, none, none]) okX0_taken ovX0_taken mlX0_47 clX0 so1 rfl rfl (Nat.le_of_ble_eq_true rfl) dX0_leastLeft_48 rfl (Nat.le_of_ble_eq_true rfl) (jX0_taken (X := X) d s v1 v5 y3 v3 hy5) ?_
      refine J_isub (pc := 51) dX0_leastLeft_51 ?_
      refine J_istoreL (pc := 52) (fun x6 => [some (.ref 1), some (.int v1), some (.int v2), some (.int v3), some (.int v4), some (.int v5), some (.int y3), some (.int x6)]) dX0_leastLeft_52 rfl (Nat.le_of_ble_eq_true rfl) (fun _ => rfl) hh (fun x6 hh => ?_)
      refine J_iload (pc := 54) dX0_leastLeft_54 rfl ?_
      refine J_iload (pc := 56) dX0_leastLeft_56 rfl ?_
      refine J_mmin (pc := 58) mtX0_114 (Nat.le_of_ble_eq_true rfl) dX0_leastLeft_58 ?_
      refine J_istoreL (pc := 61) (fun x7 => [some (.ref 1), some (.int v1), some (.int v2), some (.int v3), some (.int x7), some (.int v5), some (.int y3), some (.int x6)]) dX0_leastLeft_61 rfl (Nat.le_of_ble_eq_true rfl) (fun _ => rfl) hh (fun x7 hh => ?_)
      refine J_iincL (pc := 63) (v := v5 + (1 : Int32)) (fun x8 => [some (.ref 1), some (.int v1), some (.int v2), some (.int v3), some (.int x7), some (.int x8), some (.int y3), some (.int x6)]) dX0_leastLeft_63 rfl rfl (Nat.le_of_ble_eq_true rfl) (congrArg _ ci_1) (fun _ => rfl) hh (fun x8 hh => ?_)
      refine J_goto (pc := 66) 7 dX0_leastLeft_66 (by decide) ?_
      refine J_drop 6 (L' := [some (.ref 1), some (.int v1), some (.int v2), some (.int v3), some (.int x7), some (.int x8), none, some (.int x6)]) rfl ?_
      refine J_drop 7 (L' := [some (.ref 1), some (.int v1), some (.int v2), some (.int v3), some (.int x7), some (.int x8), none, none]) rfl ?_
      obtain rfl := Option.some.inj hh
      exact hk
def fX0_leastLeft (s : Mem) (p0 : Int32) (p1 : Int32) (p2 : Int32) : Option Int32 :=
  (lp (fun a => bX0_leastLeft_7 s p0 p1 p2 a.1 a.2) 600 ((9 : Int32), (0 : Int32))).bind (fun y11 => some y11)
set_option maxRecDepth 4000 in
theorem jjX0_leastLeft {X : Scr} (d : Nat) (s : Mem) (p0 : Int32) (p1 : Int32) (p2 : Int32) {r : Int32} {w : Option Value} {s' : Mem} (hh : fX0_leastLeft s p0 p1 p2 = some r) (hk : w = some (.int r) ∧ s = s') : J X MX0_leastLeft (d + 1) 0 [some (.ref 1), some (.int p0), some (.int p1), some (.int p2), none, none, none, none] [] s w s' := by
  unfold fX0_leastLeft at hh
  refine J_bipush (pc := 0) dX0_leastLeft_0 cb_9 ?_
  refine J_istore (pc := 2) (L' := [some (.ref 1), some (.int p0), some (.int p1), some (.int p2), some (.int (9 : Int32)), none, none, none]) dX0_leastLeft_2 rfl (Nat.le_of_ble_eq_true rfl) rfl ?_
  refine J_iconst (pc := 4) dX0_leastLeft_4 ci_0 ?_
  refine J_istore (pc := 5) (L' := [some (.ref 1), some (.int p0), some (.int p1), some (.int p2), some (.int (9 : Int32)), some (.int (0 : Int32)), none, none]) dX0_leastLeft_5 rfl (Nat.le_of_ble_eq_true rfl) rfl ?_
  obtain ⟨y11, hy11, hh⟩ := bd_some hh
  refine J_lp (a := ((9 : Int32), (0 : Int32))) (fun a : (Int32 × Int32) => J X MX0_leastLeft (d + 1) 7 [some (.ref 1), some (.int p0), some (.int p1), some (.int p2), some (.int a.1), some (.int a.2), none, none] [] s w s') (fun t : Int32 => J X MX0_leastLeft (d + 1) 69 [none, none, none, none, some (.int t), none, none, none] [] s w s') (fun a q h1 h2 => jbX0_leastLeft_7 d s p0 p1 p2 a.1 a.2 h1 h2) hy11 ?_
  refine J_iload (pc := 69) dX0_leastLeft_69 rfl ?_
  obtain rfl := Option.some.inj hh
  obtain ⟨rfl, rfl⟩ := hk
  exact J_ret (w := some (.int y11)) ⟨dX0_leastLeft_71, _, rfl, rfl⟩
theorem jX0_leastLeft {X : Scr} (d : Nat) (s : Mem) (p0 : Int32) (p1 : Int32) (p2 : Int32) {r : Int32} (hh : fX0_leastLeft s p0 p1 p2 = some r) : J X MX0_leastLeft (d + 1) 0 [some (.ref 1), some (.int p0), some (.int p1), some (.int p2), none, none, none, none] [] s (some (.int r)) s := jjX0_leastLeft d s p0 p1 p2 hh ⟨rfl, rfl⟩
theorem dX0_crowded_0 : decode cX0_crowded 0 = .ok (.iconst 0, 1) := by decide +kernel
theorem dX0_crowded_1 : decode cX0_crowded 1 = .ok (.istore_n 3, 1) := by decide +kernel
theorem dX0_crowded_2 : decode cX0_crowded 2 = .ok (.iconst 0, 1) := by decide +kernel
theorem dX0_crowded_3 : decode cX0_crowded 3 = .ok (.istore 4, 2) := by decide +kernel
theorem dX0_crowded_5 : decode cX0_crowded 5 = .ok (.iload 4, 2) := by decide +kernel
theorem dX0_crowded_7 : decode cX0_crowded 7 = .ok (.bipush 8, 2) := by decide +kernel
theorem dX0_crowded_9 : decode cX0_crowded 9 = .ok (.if_icmp .ge 27, 3) := by decide +kernel
theorem dX0_crowded_12 : decode cX0_crowded 12 = .ok (.aload_n 0, 1) := by decide +kernel
theorem dX0_crowded_13 : decode cX0_crowded 13 = .ok (.iload_n 2, 1) := by decide +kernel
theorem dX0_crowded_14 : decode cX0_crowded 14 = .ok (.iload 4, 2) := by decide +kernel
theorem dX0_crowded_16 : decode cX0_crowded 16 = .ok (.iload_n 1, 1) := by decide +kernel
theorem dX0_crowded_17 : decode cX0_crowded 17 = .ok (.invokevirtual 111, 3) := by decide +kernel
theorem dX0_crowded_20 : decode cX0_crowded 20 = .ok (.ifCond .gt 10, 3) := by decide +kernel
theorem dX0_crowded_23 : decode cX0_crowded 23 = .ok (.iload_n 3, 1) := by decide +kernel
theorem dX0_crowded_24 : decode cX0_crowded 24 = .ok (.iconst 1, 1) := by decide +kernel
theorem dX0_crowded_25 : decode cX0_crowded 25 = .ok (.iload 4, 2) := by decide +kernel
theorem dX0_crowded_27 : decode cX0_crowded 27 = .ok (.ishl, 1) := by decide +kernel
theorem dX0_crowded_28 : decode cX0_crowded 28 = .ok (.ior, 1) := by decide +kernel
theorem dX0_crowded_29 : decode cX0_crowded 29 = .ok (.istore_n 3, 1) := by decide +kernel
theorem dX0_crowded_30 : decode cX0_crowded 30 = .ok (.iinc 4 1, 3) := by decide +kernel
theorem dX0_crowded_33 : decode cX0_crowded 33 = .ok (.goto (-28), 3) := by decide +kernel
theorem dX0_crowded_36 : decode cX0_crowded 36 = .ok (.iload_n 3, 1) := by decide +kernel
theorem dX0_crowded_37 : decode cX0_crowded 37 = .ok (.ireturn, 1) := by decide +kernel
def bX0_crowded_5 (s : Mem) (v1 : Int32) (v2 : Int32) (v3 : Int32) (v4 : Int32) : Option (Int32 ⊕ (Int32 × Int32)) :=
  if (8 : Int32) ≤ v4 then some (Sum.inl v3) else (fX0_leastLeft s v2 v4 v1).bind (fun y1 => if (0 : Int32) < y1 then lt (v4 + (1 : Int32)) (fun x2 => some (Sum.inr (v3, x2))) else lt (v3 ||| ((1 : Int32) <<< (v4 &&& 31))) (fun x3 => lt (v4 + (1 : Int32)) (fun x4 => some (Sum.inr (x3, x4)))))
set_option maxRecDepth 4000 in
theorem jbX0_crowded_5 {X : Scr} (d : Nat) (s : Mem) (v1 : Int32) (v2 : Int32) (v3 : Int32) (v4 : Int32) {r : (Int32 ⊕ (Int32 × Int32))} {w : Option Value} {s' : Mem} (hh : bX0_crowded_5 s v1 v2 v3 v4 = some r) (hk : Sum.elim (fun t : Int32 => J X MX0_crowded (d + 2) 36 [none, none, none, some (.int t), none] [] s w s') (fun a : (Int32 × Int32) => J X MX0_crowded (d + 2) 5 [some (.ref 1), some (.int v1), some (.int v2), some (.int a.1), some (.int a.2)] [] s w s') r) : J X MX0_crowded (d + 2) 5 [some (.ref 1), some (.int v1), some (.int v2), some (.int v3), some (.int v4)] [] s w s' := by
  unfold bX0_crowded_5 at hh
  refine J_iload (pc := 5) dX0_crowded_5 rfl ?_
  refine J_bipush (pc := 7) dX0_crowded_7 cb_8 ?_
  refine J_icmp_ge (pc := 9) 36 dX0_crowded_9 (by decide) (fun c6 => ?_) (fun c6 => ?_)
  · replace hh := (if_pos c6).symm.trans hh
    refine J_drop 0 (L' := [none, some (.int v1), some (.int v2), some (.int v3), some (.int v4)]) rfl ?_
    refine J_drop 1 (L' := [none, none, some (.int v2), some (.int v3), some (.int v4)]) rfl ?_
    refine J_drop 2 (L' := [none, none, none, some (.int v3), some (.int v4)]) rfl ?_
    refine J_drop 4 (L' := [none, none, none, some (.int v3), none]) rfl ?_
    obtain rfl := Option.some.inj hh
    exact hk
  · replace hh := (if_neg c6).symm.trans hh
    refine J_aload_n (pc := 12) dX0_crowded_12 rfl ?_
    refine J_iload_n (pc := 13) dX0_crowded_13 rfl ?_
    refine J_iload (pc := 14) dX0_crowded_14 rfl ?_
    refine J_iload_n (pc := 16) dX0_crowded_16 rfl ?_
    obtain ⟨y1, hy1, hh⟩ := bd_some hh
    refine J_callVi (pc := 17) (M' := MX0_leastLeft) (a := 1) (rest := []) (As := [.int v2, .int v4, .int v1]) (L0 := [some (.ref 1), some (.int v2), some (.int v4), some (.int v1), none, none, none, none]) okX0_leastLeft ovX0_leastLeft mlX0_111 clX0 so1 rfl rfl (Nat.le_of_ble_eq_true rfl) dX0_crowded_17 rfl (Nat.le_of_ble_eq_true rfl) (jX0_leastLeft (X := X) d s v2 v4 v1 hy1) ?_
    refine J_if_gt (pc := 20) 30 dX0_crowded_20 (by decide) (fun c5 => ?_) (fun c5 => ?_)
    · replace hh := (if_pos c5).symm.trans hh
      refine J_iincL (pc := 30) (v := v4 + (1 : Int32)) (fun x2 => [some (.ref 1), some (.int v1), some (.int v2), some (.int v3), some (.int x2)]) dX0_crowded_30 rfl rfl (Nat.le_of_ble_eq_true rfl) (congrArg _ ci_1) (fun _ => rfl) hh (fun x2 hh => ?_)
      refine J_goto (pc := 33) 5 dX0_crowded_33 (by decide) ?_
      obtain rfl := Option.some.inj hh
      exact hk
    · replace hh := (if_neg c5).symm.trans hh
      refine J_iload_n (pc := 23) dX0_crowded_23 rfl ?_
      refine J_iconst (pc := 24) dX0_crowded_24 ci_1 ?_
      refine J_iload (pc := 25) dX0_crowded_25 rfl ?_
      refine J_ishl (pc := 27) dX0_crowded_27 ?_
      refine J_ior (pc := 28) dX0_crowded_28 ?_
      refine J_istoreL_n (pc := 29) (fun x3 => [some (.ref 1), some (.int v1), some (.int v2), some (.int x3), some (.int v4)]) dX0_crowded_29 rfl (Nat.le_of_ble_eq_true rfl) (fun _ => rfl) hh (fun x3 hh => ?_)
      refine J_iincL (pc := 30) (v := v4 + (1 : Int32)) (fun x4 => [some (.ref 1), some (.int v1), some (.int v2), some (.int x3), some (.int x4)]) dX0_crowded_30 rfl rfl (Nat.le_of_ble_eq_true rfl) (congrArg _ ci_1) (fun _ => rfl) hh (fun x4 hh => ?_)
      refine J_goto (pc := 33) 5 dX0_crowded_33 (by decide) ?_
      obtain rfl := Option.some.inj hh
      exact hk
def fX0_crowded (s : Mem) (p0 : Int32) (p1 : Int32) : Option Int32 :=
  (lp (fun a => bX0_crowded_5 s p0 p1 a.1 a.2) 600 ((0 : Int32), (0 : Int32))).bind (fun y7 => some y7)
set_option maxRecDepth 4000 in
theorem jjX0_crowded {X : Scr} (d : Nat) (s : Mem) (p0 : Int32) (p1 : Int32) {r : Int32} {w : Option Value} {s' : Mem} (hh : fX0_crowded s p0 p1 = some r) (hk : w = some (.int r) ∧ s = s') : J X MX0_crowded (d + 2) 0 [some (.ref 1), some (.int p0), some (.int p1), none, none] [] s w s' := by
  unfold fX0_crowded at hh
  refine J_iconst (pc := 0) dX0_crowded_0 ci_0 ?_
  refine J_istore_n (pc := 1) (L' := [some (.ref 1), some (.int p0), some (.int p1), some (.int (0 : Int32)), none]) dX0_crowded_1 rfl (Nat.le_of_ble_eq_true rfl) rfl ?_
  refine J_iconst (pc := 2) dX0_crowded_2 ci_0 ?_
  refine J_istore (pc := 3) (L' := [some (.ref 1), some (.int p0), some (.int p1), some (.int (0 : Int32)), some (.int (0 : Int32))]) dX0_crowded_3 rfl (Nat.le_of_ble_eq_true rfl) rfl ?_
  obtain ⟨y7, hy7, hh⟩ := bd_some hh
  refine J_lp (a := ((0 : Int32), (0 : Int32))) (fun a : (Int32 × Int32) => J X MX0_crowded (d + 2) 5 [some (.ref 1), some (.int p0), some (.int p1), some (.int a.1), some (.int a.2)] [] s w s') (fun t : Int32 => J X MX0_crowded (d + 2) 36 [none, none, none, some (.int t), none] [] s w s') (fun a q h1 h2 => jbX0_crowded_5 d s p0 p1 a.1 a.2 h1 h2) hy7 ?_
  refine J_iload_n (pc := 36) dX0_crowded_36 rfl ?_
  obtain rfl := Option.some.inj hh
  obtain ⟨rfl, rfl⟩ := hk
  exact J_ret (w := some (.int y7)) ⟨dX0_crowded_37, _, rfl, rfl⟩
theorem jX0_crowded {X : Scr} (d : Nat) (s : Mem) (p0 : Int32) (p1 : Int32) {r : Int32} (hh : fX0_crowded s p0 p1 = some r) : J X MX0_crowded (d + 2) 0 [some (.ref 1), some (.int p0), some (.int p1), none, none] [] s (some (.int r)) s := jjX0_crowded d s p0 p1 hh ⟨rfl, rfl⟩
theorem dX0_greatestTaken_0 : decode cX0_greatestTaken 0 = .ok (.iconst 0, 1) := by decide +kernel
theorem dX0_greatestTaken_1 : decode cX0_greatestTaken 1 = .ok (.istore 4, 2) := by decide +kernel
theorem dX0_greatestTaken_3 : decode cX0_greatestTaken 3 = .ok (.iconst 0, 1) := by decide +kernel
theorem dX0_greatestTaken_4 : decode cX0_greatestTaken 4 = .ok (.istore 5, 2) := by decide +kernel
theorem dX0_greatestTaken_6 : decode cX0_greatestTaken 6 = .ok (.iload 5, 2) := by decide +kernel
theorem dX0_greatestTaken_8 : decode cX0_greatestTaken 8 = .ok (.iconst 3, 1) := by decide +kernel
theorem dX0_greatestTaken_9 : decode cX0_greatestTaken 9 = .ok (.if_icmp .ge 40, 3) := by decide +kernel
theorem dX0_greatestTaken_12 : decode cX0_greatestTaken 12 = .ok (.aload_n 0, 1) := by decide +kernel
theorem dX0_greatestTaken_13 : decode cX0_greatestTaken 13 = .ok (.iload_n 1, 1) := by decide +kernel
theorem dX0_greatestTaken_14 : decode cX0_greatestTaken 14 = .ok (.iload 5, 2) := by decide +kernel
theorem dX0_greatestTaken_16 : decode cX0_greatestTaken 16 = .ok (.invokevirtual 74, 3) := by decide +kernel
theorem dX0_greatestTaken_19 : decode cX0_greatestTaken 19 = .ok (.ifCond .eq 24, 3) := by decide +kernel
theorem dX0_greatestTaken_22 : decode cX0_greatestTaken 22 = .ok (.iload 4, 2) := by decide +kernel
theorem dX0_greatestTaken_24 : decode cX0_greatestTaken 24 = .ok (.aload_n 0, 1) := by decide +kernel
theorem dX0_greatestTaken_25 : decode cX0_greatestTaken 25 = .ok (.iload_n 1, 1) := by decide +kernel
theorem dX0_greatestTaken_26 : decode cX0_greatestTaken 26 = .ok (.iload 5, 2) := by decide +kernel
theorem dX0_greatestTaken_28 : decode cX0_greatestTaken 28 = .ok (.iload_n 2, 1) := by decide +kernel
theorem dX0_greatestTaken_29 : decode cX0_greatestTaken 29 = .ok (.iload 5, 2) := by decide +kernel
theorem dX0_greatestTaken_31 : decode cX0_greatestTaken 31 = .ok (.invokestatic 71, 3) := by decide +kernel
theorem dX0_greatestTaken_34 : decode cX0_greatestTaken 34 = .ok (.iload_n 3, 1) := by decide +kernel
theorem dX0_greatestTaken_35 : decode cX0_greatestTaken 35 = .ok (.invokevirtual 47, 3) := by decide +kernel
theorem dX0_greatestTaken_38 : decode cX0_greatestTaken 38 = .ok (.invokestatic 117, 3) := by decide +kernel
theorem dX0_greatestTaken_41 : decode cX0_greatestTaken 41 = .ok (.istore 4, 2) := by decide +kernel
theorem dX0_greatestTaken_43 : decode cX0_greatestTaken 43 = .ok (.iinc 5 1, 3) := by decide +kernel
theorem dX0_greatestTaken_46 : decode cX0_greatestTaken 46 = .ok (.goto (-40), 3) := by decide +kernel
theorem dX0_greatestTaken_49 : decode cX0_greatestTaken 49 = .ok (.iload 4, 2) := by decide +kernel
theorem dX0_greatestTaken_51 : decode cX0_greatestTaken 51 = .ok (.ireturn, 1) := by decide +kernel
def bX0_greatestTaken_6 (s : Mem) (v1 : Int32) (v2 : Int32) (v3 : Int32) (v4 : Int32) (v5 : Int32) : Option (Int32 ⊕ (Int32 × Int32)) :=
  if (3 : Int32) ≤ v5 then some (Sum.inl v4) else (fX0_counts s v1 v5).bind (fun y1 => if y1 = (0 : Int32) then lt (v5 + (1 : Int32)) (fun x2 => some (Sum.inr (v4, x2))) else (fX0_partOf v2 v5).bind (fun y3 => (fX0_taken s v1 v5 y3 v3).bind (fun y4 => lt (mxI v4 y4) (fun x5 => lt (v5 + (1 : Int32)) (fun x6 => some (Sum.inr (x5, x6)))))))
set_option maxRecDepth 4000 in
theorem jbX0_greatestTaken_6 {X : Scr} (d : Nat) (s : Mem) (v1 : Int32) (v2 : Int32) (v3 : Int32) (v4 : Int32) (v5 : Int32) {r : (Int32 ⊕ (Int32 × Int32))} {w : Option Value} {s' : Mem} (hh : bX0_greatestTaken_6 s v1 v2 v3 v4 v5 = some r) (hk : Sum.elim (fun t : Int32 => J X MX0_greatestTaken (d + 1) 49 [none, none, none, none, some (.int t), none] [] s w s') (fun a : (Int32 × Int32) => J X MX0_greatestTaken (d + 1) 6 [some (.ref 1), some (.int v1), some (.int v2), some (.int v3), some (.int a.1), some (.int a.2)] [] s w s') r) : J X MX0_greatestTaken (d + 1) 6 [some (.ref 1), some (.int v1), some (.int v2), some (.int v3), some (.int v4), some (.int v5)] [] s w s' := by
  unfold bX0_greatestTaken_6 at hh
  refine J_iload (pc := 6) dX0_greatestTaken_6 rfl ?_
  refine J_iconst (pc := 8) dX0_greatestTaken_8 ci_3 ?_
  refine J_icmp_ge (pc := 9) 49 dX0_greatestTaken_9 (by decide) (fun c8 => ?_) (fun c8 => ?_)
  · replace hh := (if_pos c8).symm.trans hh
    refine J_drop 0 (L' := [none, some (.int v1), some (.int v2), some (.int v3), some (.int v4), some (.int v5)]) rfl ?_
    refine J_drop 1 (L' := [none, none, some (.int v2), some (.int v3), some (.int v4), some (.int v5)]) rfl ?_
    refine J_drop 2 (L' := [none, none, none, some (.int v3), some (.int v4), some (.int v5)]) rfl ?_
    refine J_drop 3 (L' := [none, none, none, none, some (.int v4), some (.int v5)]) rfl ?_
    refine J_drop 5 (L' := [none, none, none, none, some (.int v4), none]) rfl ?_
    obtain rfl := Option.some.inj hh
    exact hk
  · replace hh := (if_neg c8).symm.trans hh
    refine J_aload_n (pc := 12) dX0_greatestTaken_12 rfl ?_
    refine J_iload_n (pc := 13) dX0_greatestTaken_13 rfl ?_
    refine J_iload (pc := 14) dX0_greatestTaken_14 rfl ?_
    obtain ⟨y1, hy1, hh⟩ := bd_some hh
    refine J_callVi (pc := 16) (M' := MX0_counts) (a := 1) (rest := []) (As := [.int v1, .int v5]) (L0 := [some (.ref 1), some (.int v1), some (.int v5), none]) okX0_counts ovX0_counts mlX0_74 clX0 so1 rfl rfl (Nat.le_of_ble_eq_true rfl) dX0_greatestTaken_16 rfl (Nat.le_of_ble_eq_true rfl) (jX0_counts (X := X) d s v1 v5 hy1) ?_
    refine J_if_eq (pc := 19) 43 dX0_greatestTaken_19 (by decide) (fun c7 => ?_) (fun c7 => ?_)
    · replace hh := (if_pos c7).symm.trans hh
      refine J_iincL (pc := 43) (v := v5 + (1 : Int32)) (fun x2 => [some (.ref 1), some (.int v1), some (.int v2), some (.int v3), some (.int v4), some (.int x2)]) dX0_greatestTaken_43 rfl rfl (Nat.le_of_ble_eq_true rfl) (congrArg _ ci_1) (fun _ => rfl) hh (fun x2 hh => ?_)
      refine J_goto (pc := 46) 6 dX0_greatestTaken_46 (by decide) ?_
      obtain rfl := Option.some.inj hh
      exact hk
    · replace hh := (if_neg c7).symm.trans hh
      refine J_iload (pc := 22) dX0_greatestTaken_22 rfl ?_
      refine J_aload_n (pc := 24) dX0_greatestTaken_24 rfl ?_
      refine J_iload_n (pc := 25) dX0_greatestTaken_25 rfl ?_
      refine J_iload (pc := 26) dX0_greatestTaken_26 rfl ?_
      refine J_iload_n (pc := 28) dX0_greatestTaken_28 rfl ?_
      refine J_iload (pc := 29) dX0_greatestTaken_29 rfl ?_
      obtain ⟨y3, hy3, hh⟩ := bd_some hh
      refine J_callSi (pc := 31) (M' := MX0_partOf) (rest := [.int v5, .int v1, .ref 1, .int v4]) (As := [.int v2, .int v5]) (L0 := [some (.int v2), some (.int v5)]) okX0_partOf osX0_partOf mlX0_71 rfl rfl (Nat.le_of_ble_eq_true rfl) dX0_greatestTaken_31 rfl (Nat.le_of_ble_eq_true rfl) (jX0_partOf (X := X) d s v2 v5 hy3) ?_
      refine J_iload_n (pc := 34) dX0_greatestTaken_34 rfl ?_
      obtain ⟨y4, hy4, hh⟩ := bd_some hh
      refine J_callVi (pc := 35) (M' := MX0_taken) (a := 1) (rest := [.int v4]) (As := [.int v1, .int v5, .int y3, .int v3]) (L0 := [some (.ref 1), some (.int v1), some (.int v5), some (.int y3), some (.int v3), none, none, none]) okX0_taken ovX0_taken mlX0_47 clX0 so1 rfl rfl (Nat.le_of_ble_eq_true rfl) dX0_greatestTaken_35 rfl (Nat.le_of_ble_eq_true rfl) (jX0_taken (X := X) d s v1 v5 y3 v3 hy4) ?_
      refine J_mmax (pc := 38) mtX0_117 (Nat.le_of_ble_eq_true rfl) dX0_greatestTaken_38 ?_
      refine J_istoreL (pc := 41) (fun x5 => [some (.ref 1), some (.int v1), some (.int v2), some (.int v3), some (.int x5), some (.int v5)]) dX0_greatestTaken_41 rfl (Nat.le_of_ble_eq_true rfl) (fun _ => rfl) hh (fun x5 hh => ?_)
      refine J_iincL (pc := 43) (v := v5 + (1 : Int32)) (fun x6 => [some (.ref 1), some (.int v1), some (.int v2), some (.int v3), some (.int x5), some (.int x6)]) dX0_greatestTaken_43 rfl rfl (Nat.le_of_ble_eq_true rfl) (congrArg _ ci_1) (fun _ => rfl) hh (fun x6 hh => ?_)
      refine J_goto (pc := 46) 6 dX0_greatestTaken_46 (by decide) ?_
      obtain rfl := Option.some.inj hh
      exact hk
def fX0_greatestTaken (s : Mem) (p0 : Int32) (p1 : Int32) (p2 : Int32) : Option Int32 :=
  (lp (fun a => bX0_greatestTaken_6 s p0 p1 p2 a.1 a.2) 600 ((0 : Int32), (0 : Int32))).bind (fun y9 => some y9)
set_option maxRecDepth 4000 in
theorem jjX0_greatestTaken {X : Scr} (d : Nat) (s : Mem) (p0 : Int32) (p1 : Int32) (p2 : Int32) {r : Int32} {w : Option Value} {s' : Mem} (hh : fX0_greatestTaken s p0 p1 p2 = some r) (hk : w = some (.int r) ∧ s = s') : J X MX0_greatestTaken (d + 1) 0 [some (.ref 1), some (.int p0), some (.int p1), some (.int p2), none, none] [] s w s' := by
  unfold fX0_greatestTaken at hh
  refine J_iconst (pc := 0) dX0_greatestTaken_0 ci_0 ?_
  refine J_istore (pc := 1) (L' := [some (.ref 1), some (.int p0), some (.int p1), some (.int p2), some (.int (0 : Int32)), none]) dX0_greatestTaken_1 rfl (Nat.le_of_ble_eq_true rfl) rfl ?_
  refine J_iconst (pc := 3) dX0_greatestTaken_3 ci_0 ?_
  refine J_istore (pc := 4) (L' := [some (.ref 1), some (.int p0), some (.int p1), some (.int p2), some (.int (0 : Int32)), some (.int (0 : Int32))]) dX0_greatestTaken_4 rfl (Nat.le_of_ble_eq_true rfl) rfl ?_
  obtain ⟨y9, hy9, hh⟩ := bd_some hh
  refine J_lp (a := ((0 : Int32), (0 : Int32))) (fun a : (Int32 × Int32) => J X MX0_greatestTaken (d + 1) 6 [some (.ref 1), some (.int p0), some (.int p1), some (.int p2), some (.int a.1), some (.int a.2)] [] s w s') (fun t : Int32 => J X MX0_greatestTaken (d + 1) 49 [none, none, none, none, some (.int t), none] [] s w s') (fun a q h1 h2 => jbX0_greatestTaken_6 d s p0 p1 p2 a.1 a.2 h1 h2) hy9 ?_
  refine J_iload (pc := 49) dX0_greatestTaken_49 rfl ?_
  obtain rfl := Option.some.inj hh
  obtain ⟨rfl, rfl⟩ := hk
  exact J_ret (w := some (.int y9)) ⟨dX0_greatestTaken_51, _, rfl, rfl⟩
theorem jX0_greatestTaken {X : Scr} (d : Nat) (s : Mem) (p0 : Int32) (p1 : Int32) (p2 : Int32) {r : Int32} (hh : fX0_greatestTaken s p0 p1 p2 = some r) : J X MX0_greatestTaken (d + 1) 0 [some (.ref 1), some (.int p0), some (.int p1), some (.int p2), none, none] [] s (some (.int r)) s := jjX0_greatestTaken d s p0 p1 p2 hh ⟨rfl, rfl⟩
theorem dX0_badness_0 : decode cX0_badness 0 = .ok (.iload 4, 2) := by decide +kernel
theorem dX0_badness_2 : decode cX0_badness 2 = .ok (.tableswitch 80 1 4 #[30, 53, 61, 70], 30) := by decide +kernel
theorem dX0_badness_32 : decode cX0_badness 32 = .ok (.aload_n 0, 1) := by decide +kernel
theorem dX0_badness_33 : decode cX0_badness 33 = .ok (.iload_n 1, 1) := by decide +kernel
theorem dX0_badness_34 : decode cX0_badness 34 = .ok (.iconst 0, 1) := by decide +kernel
theorem dX0_badness_35 : decode cX0_badness 35 = .ok (.invokevirtual 61, 3) := by decide +kernel
theorem dX0_badness_38 : decode cX0_badness 38 = .ok (.aload_n 0, 1) := by decide +kernel
theorem dX0_badness_39 : decode cX0_badness 39 = .ok (.iload_n 1, 1) := by decide +kernel
theorem dX0_badness_40 : decode cX0_badness 40 = .ok (.iload_n 2, 1) := by decide +kernel
theorem dX0_badness_41 : decode cX0_badness 41 = .ok (.invokevirtual 90, 3) := by decide +kernel
theorem dX0_badness_44 : decode cX0_badness 44 = .ok (.aload_n 0, 1) := by decide +kernel
theorem dX0_badness_45 : decode cX0_badness 45 = .ok (.iload_n 2, 1) := by decide +kernel
theorem dX0_badness_46 : decode cX0_badness 46 = .ok (.iload_n 3, 1) := by decide +kernel
theorem dX0_badness_47 : decode cX0_badness 47 = .ok (.invokevirtual 54, 3) := by decide +kernel
theorem dX0_badness_50 : decode cX0_badness 50 = .ok (.ior, 1) := by decide +kernel
theorem dX0_badness_51 : decode cX0_badness 51 = .ok (.invokestatic 93, 3) := by decide +kernel
theorem dX0_badness_54 : decode cX0_badness 54 = .ok (.ireturn, 1) := by decide +kernel
theorem dX0_badness_55 : decode cX0_badness 55 = .ok (.aload_n 0, 1) := by decide +kernel
theorem dX0_badness_56 : decode cX0_badness 56 = .ok (.iload_n 2, 1) := by decide +kernel
theorem dX0_badness_57 : decode cX0_badness 57 = .ok (.iload_n 3, 1) := by decide +kernel
theorem dX0_badness_58 : decode cX0_badness 58 = .ok (.iload_n 1, 1) := by decide +kernel
theorem dX0_badness_59 : decode cX0_badness 59 = .ok (.invokevirtual 126, 3) := by decide +kernel
theorem dX0_badness_62 : decode cX0_badness 62 = .ok (.ireturn, 1) := by decide +kernel
theorem dX0_badness_63 : decode cX0_badness 63 = .ok (.aload_n 0, 1) := by decide +kernel
theorem dX0_badness_64 : decode cX0_badness 64 = .ok (.iload_n 2, 1) := by decide +kernel
theorem dX0_badness_65 : decode cX0_badness 65 = .ok (.iload_n 3, 1) := by decide +kernel
theorem dX0_badness_66 : decode cX0_badness 66 = .ok (.iload_n 1, 1) := by decide +kernel
theorem dX0_badness_67 : decode cX0_badness 67 = .ok (.invokevirtual 111, 3) := by decide +kernel
theorem dX0_badness_70 : decode cX0_badness 70 = .ok (.ineg, 1) := by decide +kernel
theorem dX0_badness_71 : decode cX0_badness 71 = .ok (.ireturn, 1) := by decide +kernel
theorem dX0_badness_72 : decode cX0_badness 72 = .ok (.aload_n 0, 1) := by decide +kernel
theorem dX0_badness_73 : decode cX0_badness 73 = .ok (.iload_n 2, 1) := by decide +kernel
theorem dX0_badness_74 : decode cX0_badness 74 = .ok (.iload_n 3, 1) := by decide +kernel
theorem dX0_badness_75 : decode cX0_badness 75 = .ok (.invokevirtual 54, 3) := by decide +kernel
theorem dX0_badness_78 : decode cX0_badness 78 = .ok (.invokestatic 103, 3) := by decide +kernel
theorem dX0_badness_81 : decode cX0_badness 81 = .ok (.ireturn, 1) := by decide +kernel
theorem dX0_badness_82 : decode cX0_badness 82 = .ok (.iconst 0, 1) := by decide +kernel
theorem dX0_badness_83 : decode cX0_badness 83 = .ok (.ireturn, 1) := by decide +kernel
def fX0_badness (s : Mem) (p0 : Int32) (p1 : Int32) (p2 : Int32) (p3 : Int32) : Option Int32 :=
  if p3 = (1 : Int32) then (fX0_ofPupil s p0 (0 : Int32)).bind (fun y2 => (fX0_busy s p0 p1).bind (fun y3 => (fX0_hoursOf s p1 p2).bind (fun y4 => (fX1_price y2 (y3 ||| y4)).bind (fun y5 => some y5)))) else if p3 = (2 : Int32) then (fX0_greatestTaken s p1 p2 p0).bind (fun y7 => some y7) else if p3 = (3 : Int32) then (fX0_leastLeft s p1 p2 p0).bind (fun y9 => some ((-y9))) else if p3 = (4 : Int32) then (fX0_hoursOf s p1 p2).bind (fun y11 => (fJ6_bitCount_0f7a4 y11).bind (fun y12 => some y12)) else some (0 : Int32)
set_option maxRecDepth 4000 in
theorem jjX0_badness {X : Scr} (d : Nat) (s : Mem) (p0 : Int32) (p1 : Int32) (p2 : Int32) (p3 : Int32) {r : Int32} {w : Option Value} {s' : Mem} (hh : fX0_badness s p0 p1 p2 p3 = some r) (hk : w = some (.int r) ∧ s = s') : J X MX0_badness (d + 2) 0 [some (.ref 1), some (.int p0), some (.int p1), some (.int p2), some (.int p3)] [] s w s' := by
  unfold fX0_badness at hh
  refine J_iload (pc := 0) dX0_badness_0 rfl ?_
  by_cases c1 : p3 = (1 : Int32)
  · replace hh := (if_pos c1).symm.trans hh
    refine J_swIn (pc := 2) 32 dX0_badness_2 (by rw [c1]; decide) (by rw [c1]; decide) (by rw [c1]; rfl) (by decide) ?_
    refine J_aload_n (pc := 32) dX0_badness_32 rfl ?_
    refine J_iload_n (pc := 33) dX0_badness_33 rfl ?_
    refine J_iconst (pc := 34) dX0_badness_34 ci_0 ?_
    obtain ⟨y2, hy2, hh⟩ := bd_some hh
    refine J_callVi (pc := 35) (M' := MX0_ofPupil) (a := 1) (rest := []) (As := [.int p0, .int (0 : Int32)]) (L0 := [some (.ref 1), some (.int p0), some (.int (0 : Int32))]) okX0_ofPupil ovX0_ofPupil mlX0_61 clX0 so1 rfl rfl (Nat.le_of_ble_eq_true rfl) dX0_badness_35 rfl (Nat.le_of_ble_eq_true rfl) (jX0_ofPupil (X := X) (d + 1) s p0 (0 : Int32) hy2) ?_
    refine J_aload_n (pc := 38) dX0_badness_38 rfl ?_
    refine J_iload_n (pc := 39) dX0_badness_39 rfl ?_
    refine J_iload_n (pc := 40) dX0_badness_40 rfl ?_
    obtain ⟨y3, hy3, hh⟩ := bd_some hh
    refine J_callVi (pc := 41) (M' := MX0_busy) (a := 1) (rest := [.int y2]) (As := [.int p0, .int p1]) (L0 := [some (.ref 1), some (.int p0), some (.int p1), none, none, none]) okX0_busy ovX0_busy mlX0_90 clX0 so1 rfl rfl (Nat.le_of_ble_eq_true rfl) dX0_badness_41 rfl (Nat.le_of_ble_eq_true rfl) (jX0_busy (X := X) d s p0 p1 hy3) ?_
    refine J_aload_n (pc := 44) dX0_badness_44 rfl ?_
    refine J_iload_n (pc := 45) dX0_badness_45 rfl ?_
    refine J_iload_n (pc := 46) dX0_badness_46 rfl ?_
    obtain ⟨y4, hy4, hh⟩ := bd_some hh
    refine J_callVi (pc := 47) (M' := MX0_hoursOf) (a := 1) (rest := [.int y3, .int y2]) (As := [.int p1, .int p2]) (L0 := [some (.ref 1), some (.int p1), some (.int p2)]) okX0_hoursOf ovX0_hoursOf mlX0_54 clX0 so1 rfl rfl (Nat.le_of_ble_eq_true rfl) dX0_badness_47 rfl (Nat.le_of_ble_eq_true rfl) (jX0_hoursOf (X := X) (d + 1) s p1 p2 hy4) ?_
    refine J_ior (pc := 50) dX0_badness_50 ?_
    obtain ⟨y5, hy5, hh⟩ := bd_some hh
    refine J_callSi (pc := 51) (M' := MX1_price) (rest := []) (As := [.int y2, .int (y3 ||| y4)]) (L0 := [some (.int y2), some (.int (y3 ||| y4)), none, none]) okX1_price osX1_price mlX0_93 rfl rfl (Nat.le_of_ble_eq_true rfl) dX0_badness_51 rfl (Nat.le_of_ble_eq_true rfl) (jX1_price (X := X) d s y2 (y3 ||| y4) hy5) ?_
    obtain rfl := Option.some.inj hh
    obtain ⟨rfl, rfl⟩ := hk
    exact J_ret (w := some (.int y5)) ⟨dX0_badness_54, _, rfl, rfl⟩
  replace hh := (if_neg c1).symm.trans hh
  by_cases c6 : p3 = (2 : Int32)
  · replace hh := (if_pos c6).symm.trans hh
    refine J_swIn (pc := 2) 55 dX0_badness_2 (by rw [c6]; decide) (by rw [c6]; decide) (by rw [c6]; rfl) (by decide) ?_
    refine J_aload_n (pc := 55) dX0_badness_55 rfl ?_
    refine J_iload_n (pc := 56) dX0_badness_56 rfl ?_
    refine J_iload_n (pc := 57) dX0_badness_57 rfl ?_
    refine J_iload_n (pc := 58) dX0_badness_58 rfl ?_
    obtain ⟨y7, hy7, hh⟩ := bd_some hh
    refine J_callVi (pc := 59) (M' := MX0_greatestTaken) (a := 1) (rest := []) (As := [.int p1, .int p2, .int p0]) (L0 := [some (.ref 1), some (.int p1), some (.int p2), some (.int p0), none, none]) okX0_greatestTaken ovX0_greatestTaken mlX0_126 clX0 so1 rfl rfl (Nat.le_of_ble_eq_true rfl) dX0_badness_59 rfl (Nat.le_of_ble_eq_true rfl) (jX0_greatestTaken (X := X) d s p1 p2 p0 hy7) ?_
    obtain rfl := Option.some.inj hh
    obtain ⟨rfl, rfl⟩ := hk
    exact J_ret (w := some (.int y7)) ⟨dX0_badness_62, _, rfl, rfl⟩
  replace hh := (if_neg c6).symm.trans hh
  by_cases c8 : p3 = (3 : Int32)
  · replace hh := (if_pos c8).symm.trans hh
    refine J_swIn (pc := 2) 63 dX0_badness_2 (by rw [c8]; decide) (by rw [c8]; decide) (by rw [c8]; rfl) (by decide) ?_
    refine J_aload_n (pc := 63) dX0_badness_63 rfl ?_
    refine J_iload_n (pc := 64) dX0_badness_64 rfl ?_
    refine J_iload_n (pc := 65) dX0_badness_65 rfl ?_
    refine J_iload_n (pc := 66) dX0_badness_66 rfl ?_
    obtain ⟨y9, hy9, hh⟩ := bd_some hh
    refine J_callVi (pc := 67) (M' := MX0_leastLeft) (a := 1) (rest := []) (As := [.int p1, .int p2, .int p0]) (L0 := [some (.ref 1), some (.int p1), some (.int p2), some (.int p0), none, none, none, none]) okX0_leastLeft ovX0_leastLeft mlX0_111 clX0 so1 rfl rfl (Nat.le_of_ble_eq_true rfl) dX0_badness_67 rfl (Nat.le_of_ble_eq_true rfl) (jX0_leastLeft (X := X) d s p1 p2 p0 hy9) ?_
    refine J_ineg (pc := 70) dX0_badness_70 ?_
    obtain rfl := Option.some.inj hh
    obtain ⟨rfl, rfl⟩ := hk
    exact J_ret (w := some (.int (-y9))) ⟨dX0_badness_71, _, rfl, rfl⟩
  replace hh := (if_neg c8).symm.trans hh
  by_cases c10 : p3 = (4 : Int32)
  · replace hh := (if_pos c10).symm.trans hh
    refine J_swIn (pc := 2) 72 dX0_badness_2 (by rw [c10]; decide) (by rw [c10]; decide) (by rw [c10]; rfl) (by decide) ?_
    refine J_aload_n (pc := 72) dX0_badness_72 rfl ?_
    refine J_iload_n (pc := 73) dX0_badness_73 rfl ?_
    refine J_iload_n (pc := 74) dX0_badness_74 rfl ?_
    obtain ⟨y11, hy11, hh⟩ := bd_some hh
    refine J_callVi (pc := 75) (M' := MX0_hoursOf) (a := 1) (rest := []) (As := [.int p1, .int p2]) (L0 := [some (.ref 1), some (.int p1), some (.int p2)]) okX0_hoursOf ovX0_hoursOf mlX0_54 clX0 so1 rfl rfl (Nat.le_of_ble_eq_true rfl) dX0_badness_75 rfl (Nat.le_of_ble_eq_true rfl) (jX0_hoursOf (X := X) (d + 1) s p1 p2 hy11) ?_
    obtain ⟨y12, hy12, hh⟩ := bd_some hh
    refine J_callSi (pc := 78) (M' := MJ6_bitCount_0f7a4) (rest := []) (As := [.int y11]) (L0 := [some (.int y11)]) okJ6_bitCount_0f7a4 osJ6_bitCount_0f7a4 mlX0_103 rfl rfl (Nat.le_of_ble_eq_true rfl) dX0_badness_78 rfl (Nat.le_of_ble_eq_true rfl) (jJ6_bitCount_0f7a4 (X := X) (d + 1) s y11 hy12) ?_
    obtain rfl := Option.some.inj hh
    obtain ⟨rfl, rfl⟩ := hk
    exact J_ret (w := some (.int y12)) ⟨dX0_badness_81, _, rfl, rfl⟩
  replace hh := (if_neg c10).symm.trans hh
  refine J_swOut (pc := 2) 82 dX0_badness_2 (by have := lv_neT c1 (a := 1) (by decide); have := lv_neT c6 (a := 2) (by decide); have := lv_neT c8 (a := 3) (by decide); have := lv_neT c10 (a := 4) (by decide); omega) (by decide) ?_
  refine J_iconst (pc := 82) dX0_badness_82 ci_0 ?_
  obtain rfl := Option.some.inj hh
  obtain ⟨rfl, rfl⟩ := hk
  exact J_ret (w := some (.int (0 : Int32))) ⟨dX0_badness_83, _, rfl, rfl⟩
theorem jX0_badness {X : Scr} (d : Nat) (s : Mem) (p0 : Int32) (p1 : Int32) (p2 : Int32) (p3 : Int32) {r : Int32} (hh : fX0_badness s p0 p1 p2 p3 = some r) : J X MX0_badness (d + 2) 0 [some (.ref 1), some (.int p0), some (.int p1), some (.int p2), some (.int p3)] [] s (some (.int r)) s := jjX0_badness d s p0 p1 p2 p3 hh ⟨rfl, rfl⟩
theorem dX0_choose_0 : decode cX0_choose 0 = .ok (.aload_n 0, 1) := by decide +kernel
theorem dX0_choose_1 : decode cX0_choose 1 = .ok (.iload_n 1, 1) := by decide +kernel
theorem dX0_choose_2 : decode cX0_choose 2 = .ok (.iload_n 2, 1) := by decide +kernel
theorem dX0_choose_3 : decode cX0_choose 3 = .ok (.invokevirtual 40, 3) := by decide +kernel
theorem dX0_choose_6 : decode cX0_choose 6 = .ok (.aload_n 0, 1) := by decide +kernel
theorem dX0_choose_7 : decode cX0_choose 7 = .ok (.iload_n 1, 1) := by decide +kernel
theorem dX0_choose_8 : decode cX0_choose 8 = .ok (.iload_n 2, 1) := by decide +kernel
theorem dX0_choose_9 : decode cX0_choose 9 = .ok (.invokevirtual 120, 3) := by decide +kernel
theorem dX0_choose_12 : decode cX0_choose 12 = .ok (.iconst (-1), 1) := by decide +kernel
theorem dX0_choose_13 : decode cX0_choose 13 = .ok (.ixor, 1) := by decide +kernel
theorem dX0_choose_14 : decode cX0_choose 14 = .ok (.iand, 1) := by decide +kernel
theorem dX0_choose_15 : decode cX0_choose 15 = .ok (.istore 4, 2) := by decide +kernel
theorem dX0_choose_17 : decode cX0_choose 17 = .ok (.iconst (-1), 1) := by decide +kernel
theorem dX0_choose_18 : decode cX0_choose 18 = .ok (.istore 5, 2) := by decide +kernel
theorem dX0_choose_20 : decode cX0_choose 20 = .ok (.iconst 0, 1) := by decide +kernel
theorem dX0_choose_21 : decode cX0_choose 21 = .ok (.istore 6, 2) := by decide +kernel
theorem dX0_choose_23 : decode cX0_choose 23 = .ok (.iconst 0, 1) := by decide +kernel
theorem dX0_choose_24 : decode cX0_choose 24 = .ok (.istore 7, 2) := by decide +kernel
theorem dX0_choose_26 : decode cX0_choose 26 = .ok (.iload 7, 2) := by decide +kernel
theorem dX0_choose_28 : decode cX0_choose 28 = .ok (.bipush 8, 2) := by decide +kernel
theorem dX0_choose_30 : decode cX0_choose 30 = .ok (.if_icmp .ge 50, 3) := by decide +kernel
theorem dX0_choose_33 : decode cX0_choose 33 = .ok (.iload 4, 2) := by decide +kernel
theorem dX0_choose_35 : decode cX0_choose 35 = .ok (.iload 7, 2) := by decide +kernel
theorem dX0_choose_37 : decode cX0_choose 37 = .ok (.ishr, 1) := by decide +kernel
theorem dX0_choose_38 : decode cX0_choose 38 = .ok (.iconst 1, 1) := by decide +kernel
theorem dX0_choose_39 : decode cX0_choose 39 = .ok (.iand, 1) := by decide +kernel
theorem dX0_choose_40 : decode cX0_choose 40 = .ok (.ifCond .eq 34, 3) := by decide +kernel
theorem dX0_choose_43 : decode cX0_choose 43 = .ok (.aload_n 0, 1) := by decide +kernel
theorem dX0_choose_44 : decode cX0_choose 44 = .ok (.iload_n 1, 1) := by decide +kernel
theorem dX0_choose_45 : decode cX0_choose 45 = .ok (.iload_n 2, 1) := by decide +kernel
theorem dX0_choose_46 : decode cX0_choose 46 = .ok (.iload 7, 2) := by decide +kernel
theorem dX0_choose_48 : decode cX0_choose 48 = .ok (.iload_n 3, 1) := by decide +kernel
theorem dX0_choose_49 : decode cX0_choose 49 = .ok (.invokevirtual 123, 3) := by decide +kernel
theorem dX0_choose_52 : decode cX0_choose 52 = .ok (.istore 8, 2) := by decide +kernel
theorem dX0_choose_54 : decode cX0_choose 54 = .ok (.iload 5, 2) := by decide +kernel
theorem dX0_choose_56 : decode cX0_choose 56 = .ok (.ifCond .lt 10, 3) := by decide +kernel
theorem dX0_choose_59 : decode cX0_choose 59 = .ok (.iload 8, 2) := by decide +kernel
theorem dX0_choose_61 : decode cX0_choose 61 = .ok (.iload 6, 2) := by decide +kernel
theorem dX0_choose_63 : decode cX0_choose 63 = .ok (.if_icmp .ge 11, 3) := by decide +kernel
theorem dX0_choose_66 : decode cX0_choose 66 = .ok (.iload 7, 2) := by decide +kernel
theorem dX0_choose_68 : decode cX0_choose 68 = .ok (.istore 5, 2) := by decide +kernel
theorem dX0_choose_70 : decode cX0_choose 70 = .ok (.iload 8, 2) := by decide +kernel
theorem dX0_choose_72 : decode cX0_choose 72 = .ok (.istore 6, 2) := by decide +kernel
theorem dX0_choose_74 : decode cX0_choose 74 = .ok (.iinc 7 1, 3) := by decide +kernel
theorem dX0_choose_77 : decode cX0_choose 77 = .ok (.goto (-51), 3) := by decide +kernel
theorem dX0_choose_80 : decode cX0_choose 80 = .ok (.iload 5, 2) := by decide +kernel
theorem dX0_choose_82 : decode cX0_choose 82 = .ok (.ireturn, 1) := by decide +kernel
def gX0_choose_66 (s : Mem) (v1 : Int32) (v2 : Int32) (v3 : Int32) (v4 : Int32) (v7 : Int32) (v8 : Int32) : Option (Int32 ⊕ (Int32 × Int32 × Int32)) :=
  lt (v7 + (1 : Int32)) (fun x6 => some (Sum.inr (v7, v8, x6)))
set_option maxRecDepth 4000 in
theorem jgX0_choose_66 {X : Scr} (d : Nat) (s : Mem) (v1 : Int32) (v2 : Int32) (v3 : Int32) (v4 : Int32) (v7 : Int32) (v8 : Int32) {r : (Int32 ⊕ (Int32 × Int32 × Int32))} {w : Option Value} {s' : Mem} (hh : gX0_choose_66 s v1 v2 v3 v4 v7 v8 = some r) (hk : Sum.elim (fun t : Int32 => J X MX0_choose (d + 3) 80 [none, none, none, none, none, some (.int t), none, none, none] [] s w s') (fun a : (Int32 × Int32 × Int32) => J X MX0_choose (d + 3) 26 [some (.ref 1), some (.int v1), some (.int v2), some (.int v3), some (.int v4), some (.int a.1), some (.int a.2.1), some (.int a.2.2), none] [] s w s') r) : J X MX0_choose (d + 3) 66 [some (.ref 1), some (.int v1), some (.int v2), some (.int v3), some (.int v4), none, none, some (.int v7), some (.int v8)] [] s w s' := by
  unfold gX0_choose_66 at hh
  refine J_iload (pc := 66) dX0_choose_66 rfl ?_
  refine J_istore (pc := 68) (L' := [some (.ref 1), some (.int v1), some (.int v2), some (.int v3), some (.int v4), some (.int v7), none, some (.int v7), some (.int v8)]) dX0_choose_68 rfl (Nat.le_of_ble_eq_true rfl) rfl ?_
  refine J_iload (pc := 70) dX0_choose_70 rfl ?_
  refine J_istore (pc := 72) (L' := [some (.ref 1), some (.int v1), some (.int v2), some (.int v3), some (.int v4), some (.int v7), some (.int v8), some (.int v7), some (.int v8)]) dX0_choose_72 rfl (Nat.le_of_ble_eq_true rfl) rfl ?_
  refine J_iincL (pc := 74) (v := v7 + (1 : Int32)) (fun x6 => [some (.ref 1), some (.int v1), some (.int v2), some (.int v3), some (.int v4), some (.int v7), some (.int v8), some (.int x6), some (.int v8)]) dX0_choose_74 rfl rfl (Nat.le_of_ble_eq_true rfl) (congrArg _ ci_1) (fun _ => rfl) hh (fun x6 hh => ?_)
  refine J_goto (pc := 77) 26 dX0_choose_77 (by decide) ?_
  refine J_drop 8 (L' := [some (.ref 1), some (.int v1), some (.int v2), some (.int v3), some (.int v4), some (.int v7), some (.int v8), some (.int x6), none]) rfl ?_
  obtain rfl := Option.some.inj hh
  exact hk
def bX0_choose_26 (s : Mem) (v1 : Int32) (v2 : Int32) (v3 : Int32) (v4 : Int32) (v5 : Int32) (v6 : Int32) (v7 : Int32) : Option (Int32 ⊕ (Int32 × Int32 × Int32)) :=
  if (8 : Int32) ≤ v7 then some (Sum.inl v5) else if ((v4 >>> (v7 &&& 31)) &&& (1 : Int32)) = (0 : Int32) then lt (v7 + (1 : Int32)) (fun x4 => some (Sum.inr (v5, v6, x4))) else (fX0_badness s v1 v2 v7 v3).bind (fun y5 => if v5 < (0 : Int32) then gX0_choose_66 s v1 v2 v3 v4 v7 y5 else if v6 ≤ y5 then lt (v7 + (1 : Int32)) (fun x7 => some (Sum.inr (v5, v6, x7))) else gX0_choose_66 s v1 v2 v3 v4 v7 y5)
set_option maxRecDepth 4000 in
theorem jbX0_choose_26 {X : Scr} (d : Nat) (s : Mem) (v1 : Int32) (v2 : Int32) (v3 : Int32) (v4 : Int32) (v5 : Int32) (v6 : Int32) (v7 : Int32) {r : (Int32 ⊕ (Int32 × Int32 × Int32))} {w : Option Value} {s' : Mem} (hh : bX0_choose_26 s v1 v2 v3 v4 v5 v6 v7 = some r) (hk : Sum.elim (fun t : Int32 => J X MX0_choose (d + 3) 80 [none, none, none, none, none, some (.int t), none, none, none] [] s w s') (fun a : (Int32 × Int32 × Int32) => J X MX0_choose (d + 3) 26 [some (.ref 1), some (.int v1), some (.int v2), some (.int v3), some (.int v4), some (.int a.1), some (.int a.2.1), some (.int a.2.2), none] [] s w s') r) : J X MX0_choose (d + 3) 26 [some (.ref 1), some (.int v1), some (.int v2), some (.int v3), some (.int v4), some (.int v5), some (.int v6), some (.int v7), none] [] s w s' := by
  unfold bX0_choose_26 at hh
  refine J_iload (pc := 26) dX0_choose_26 rfl ?_
  refine J_bipush (pc := 28) dX0_choose_28 cb_8 ?_
  refine J_icmp_ge (pc := 30) 80 dX0_choose_30 (by decide) (fun c11 => ?_) (fun c11 => ?_)
  · replace hh := (if_pos c11).symm.trans hh
    refine J_drop 0 (L' := [none, some (.int v1), some (.int v2), some (.int v3), some (.int v4), some (.int v5), some (.int v6), some (.int v7), none]) rfl ?_
    refine J_drop 1 (L' := [none, none, some (.int v2), some (.int v3), some (.int v4), some (.int v5), some (.int v6), some (.int v7), none]) rfl ?_
    refine J_drop 2 (L' := [none, none, none, some (.int v3), some (.int v4), some (.int v5), some (.int v6), some (.int v7), none]) rfl ?_
    refine J_drop 3 (L' := [none, none, none, none, some (.int v4), some (.int v5), some (.int v6), some (.int v7), none]) rfl ?_
    refine J_drop 4 (L' := [none, none, none, none, none, some (.int v5), some (.int v6), some (.int v7), none]) rfl ?_
    refine J_drop 6 (L' := [none, none, none, none, none, some (.int v5), none, some (.int v7), none]) rfl ?_
    refine J_drop 7 (L' := [none, none, none, none, none, some (.int v5), none, none, none]) rfl ?_
    obtain rfl := Option.some.inj hh
    exact hk
  · replace hh := (if_neg c11).symm.trans hh
    refine J_iload (pc := 33) dX0_choose_33 rfl ?_
    refine J_iload (pc := 35) dX0_choose_35 rfl ?_
    refine J_ishr (pc := 37) dX0_choose_37 ?_
    refine J_iconst (pc := 38) dX0_choose_38 ci_1 ?_
    refine J_iand (pc := 39) dX0_choose_39 ?_
    refine J_if_eq (pc := 40) 74 dX0_choose_40 (by decide) (fun c10 => ?_) (fun c10 => ?_)
    · replace hh := (if_pos c10).symm.trans hh
      refine J_iincL (pc := 74) (v := v7 + (1 : Int32)) (fun x4 => [some (.ref 1), some (.int v1), some (.int v2), some (.int v3), some (.int v4), some (.int v5), some (.int v6), some (.int x4), none]) dX0_choose_74 rfl rfl (Nat.le_of_ble_eq_true rfl) (congrArg _ ci_1) (fun _ => rfl) hh (fun x4 hh => ?_)
      refine J_goto (pc := 77) 26 dX0_choose_77 (by decide) ?_
      obtain rfl := Option.some.inj hh
      exact hk
    · replace hh := (if_neg c10).symm.trans hh
      refine J_aload_n (pc := 43) dX0_choose_43 rfl ?_
      refine J_iload_n (pc := 44) dX0_choose_44 rfl ?_
      refine J_iload_n (pc := 45) dX0_choose_45 rfl ?_
      refine J_iload (pc := 46) dX0_choose_46 rfl ?_
      refine J_iload_n (pc := 48) dX0_choose_48 rfl ?_
      obtain ⟨y5, hy5, hh⟩ := bd_some hh
      refine J_callVi (pc := 49) (M' := MX0_badness) (a := 1) (rest := []) (As := [.int v1, .int v2, .int v7, .int v3]) (L0 := [some (.ref 1), some (.int v1), some (.int v2), some (.int v7), some (.int v3)]) okX0_badness ovX0_badness mlX0_123 clX0 so1 rfl rfl (Nat.le_of_ble_eq_true rfl) dX0_choose_49 rfl (Nat.le_of_ble_eq_true rfl) (jX0_badness (X := X) d s v1 v2 v7 v3 hy5) ?_
      refine J_istore (pc := 52) (L' := [some (.ref 1), some (.int v1), some (.int v2), some (.int v3), some (.int v4), some (.int v5), some (.int v6), some (.int v7), some (.int y5)]) dX0_choose_52 rfl (Nat.le_of_ble_eq_true rfl) rfl ?_
      refine J_iload (pc := 54) dX0_choose_54 rfl ?_
      refine J_if_lt (pc := 56) 66 dX0_choose_56 (by decide) (fun c9 => ?_) (fun c9 => ?_)
      · replace hh := (if_pos c9).symm.trans hh
        refine J_drop 5 (L' := [some (.ref 1), some (.int v1), some (.int v2), some (.int v3), some (.int v4), none, some (.int v6), some (.int v7), some (.int y5)]) rfl ?_
        refine J_drop 6 (L' := [some (.ref 1), some (.int v1), some (.int v2), some (.int v3), some (.int v4), none, none, some (.int v7), some (.int y5)]) rfl ?_
        exact jgX0_choose_66 d s v1 v2 v3 v4 v7 y5 hh hk
      · replace hh := (if_neg c9).symm.trans hh
        refine J_iload (pc := 59) dX0_choose_59 rfl ?_
        refine J_iload (pc := 61) dX0_choose_61 rfl ?_
        refine J_icmp_ge (pc := 63) 74 dX0_choose_63 (by decide) (fun c8 => ?_) (fun c8 => ?_)
        · replace hh := (if_pos c8).symm.trans hh
          refine J_iincL (pc := 74) (v := v7 + (1 : Int32)) (fun x7 => [some (.ref 1), some (.int v1), some (.int v2), some (.int v3), some (.int v4), some (.int v5), some (.int v6), some (.int x7), some (.int y5)]) dX0_choose_74 rfl rfl (Nat.le_of_ble_eq_true rfl) (congrArg _ ci_1) (fun _ => rfl) hh (fun x7 hh => ?_)
          refine J_goto (pc := 77) 26 dX0_choose_77 (by decide) ?_
          refine J_drop 8 (L' := [some (.ref 1), some (.int v1), some (.int v2), some (.int v3), some (.int v4), some (.int v5), some (.int v6), some (.int x7), none]) rfl ?_
          obtain rfl := Option.some.inj hh
          exact hk
        · replace hh := (if_neg c8).symm.trans hh
          refine J_drop 5 (L' := [some (.ref 1), some (.int v1), some (.int v2), some (.int v3), some (.int v4), none, some (.int v6), some (.int v7), some (.int y5)]) rfl ?_
          refine J_drop 6 (L' := [some (.ref 1), some (.int v1), some (.int v2), some (.int v3), some (.int v4), none, none, some (.int v7), some (.int y5)]) rfl ?_
          exact jgX0_choose_66 d s v1 v2 v3 v4 v7 y5 hh hk
def fX0_choose (s : Mem) (p0 : Int32) (p1 : Int32) (p2 : Int32) : Option Int32 :=
  (fX0_freeSet s p0 p1).bind (fun y1 => (fX0_crowded s p0 p1).bind (fun y2 => lt (y1 &&& (y2 ^^^ (-1 : Int32))) (fun x3 => (lp (fun a => bX0_choose_26 s p0 p1 p2 x3 a.1 a.2.1 a.2.2) 600 ((-1 : Int32), (0 : Int32), (0 : Int32))).bind (fun y12 => some y12))))
set_option maxRecDepth 4000 in
theorem jjX0_choose {X : Scr} (d : Nat) (s : Mem) (p0 : Int32) (p1 : Int32) (p2 : Int32) {r : Int32} {w : Option Value} {s' : Mem} (hh : fX0_choose s p0 p1 p2 = some r) (hk : w = some (.int r) ∧ s = s') : J X MX0_choose (d + 3) 0 [some (.ref 1), some (.int p0), some (.int p1), some (.int p2), none, none, none, none, none] [] s w s' := by
  unfold fX0_choose at hh
  refine J_aload_n (pc := 0) dX0_choose_0 rfl ?_
  refine J_iload_n (pc := 1) dX0_choose_1 rfl ?_
  refine J_iload_n (pc := 2) dX0_choose_2 rfl ?_
  obtain ⟨y1, hy1, hh⟩ := bd_some hh
  refine J_callVi (pc := 3) (M' := MX0_freeSet) (a := 1) (rest := []) (As := [.int p0, .int p1]) (L0 := [some (.ref 1), some (.int p0), some (.int p1), none, none, none, none]) okX0_freeSet ovX0_freeSet mlX0_40 clX0 so1 rfl rfl (Nat.le_of_ble_eq_true rfl) dX0_choose_3 rfl (Nat.le_of_ble_eq_true rfl) (jX0_freeSet (X := X) d s p0 p1 hy1) ?_
  refine J_aload_n (pc := 6) dX0_choose_6 rfl ?_
  refine J_iload_n (pc := 7) dX0_choose_7 rfl ?_
  refine J_iload_n (pc := 8) dX0_choose_8 rfl ?_
  obtain ⟨y2, hy2, hh⟩ := bd_some hh
  refine J_callVi (pc := 9) (M' := MX0_crowded) (a := 1) (rest := [.int y1]) (As := [.int p0, .int p1]) (L0 := [some (.ref 1), some (.int p0), some (.int p1), none, none]) okX0_crowded ovX0_crowded mlX0_120 clX0 so1 rfl rfl (Nat.le_of_ble_eq_true rfl) dX0_choose_9 rfl (Nat.le_of_ble_eq_true rfl) (jX0_crowded (X := X) d s p0 p1 hy2) ?_
  refine J_iconst (pc := 12) dX0_choose_12 ci_m1 ?_
  refine J_ixor (pc := 13) dX0_choose_13 ?_
  refine J_iand (pc := 14) dX0_choose_14 ?_
  refine J_istoreL (pc := 15) (fun x3 => [some (.ref 1), some (.int p0), some (.int p1), some (.int p2), some (.int x3), none, none, none, none]) dX0_choose_15 rfl (Nat.le_of_ble_eq_true rfl) (fun _ => rfl) hh (fun x3 hh => ?_)
  refine J_iconst (pc := 17) dX0_choose_17 ci_m1 ?_
  refine J_istore (pc := 18) (L' := [some (.ref 1), some (.int p0), some (.int p1), some (.int p2), some (.int x3), some (.int (-1 : Int32)), none, none, none]) dX0_choose_18 rfl (Nat.le_of_ble_eq_true rfl) rfl ?_
  refine J_iconst (pc := 20) dX0_choose_20 ci_0 ?_
  refine J_istore (pc := 21) (L' := [some (.ref 1), some (.int p0), some (.int p1), some (.int p2), some (.int x3), some (.int (-1 : Int32)), some (.int (0 : Int32)), none, none]) dX0_choose_21 rfl (Nat.le_of_ble_eq_true rfl) rfl ?_
  refine J_iconst (pc := 23) dX0_choose_23 ci_0 ?_
  refine J_istore (pc := 24) (L' := [some (.ref 1), some (.int p0), some (.int p1), some (.int p2), some (.int x3), some (.int (-1 : Int32)), some (.int (0 : Int32)), some (.int (0 : Int32)), none]) dX0_choose_24 rfl (Nat.le_of_ble_eq_true rfl) rfl ?_
  obtain ⟨y12, hy12, hh⟩ := bd_some hh
  refine J_lp (a := ((-1 : Int32), (0 : Int32), (0 : Int32))) (fun a : (Int32 × Int32 × Int32) => J X MX0_choose (d + 3) 26 [some (.ref 1), some (.int p0), some (.int p1), some (.int p2), some (.int x3), some (.int a.1), some (.int a.2.1), some (.int a.2.2), none] [] s w s') (fun t : Int32 => J X MX0_choose (d + 3) 80 [none, none, none, none, none, some (.int t), none, none, none] [] s w s') (fun a q h1 h2 => jbX0_choose_26 d s p0 p1 p2 x3 a.1 a.2.1 a.2.2 h1 h2) hy12 ?_
  refine J_iload (pc := 80) dX0_choose_80 rfl ?_
  obtain rfl := Option.some.inj hh
  obtain ⟨rfl, rfl⟩ := hk
  exact J_ret (w := some (.int y12)) ⟨dX0_choose_82, _, rfl, rfl⟩
theorem jX0_choose {X : Scr} (d : Nat) (s : Mem) (p0 : Int32) (p1 : Int32) (p2 : Int32) {r : Int32} (hh : fX0_choose s p0 p1 p2 = some r) : J X MX0_choose (d + 3) 0 [some (.ref 1), some (.int p0), some (.int p1), some (.int p2), none, none, none, none, none] [] s (some (.int r)) s := jjX0_choose d s p0 p1 p2 hh ⟨rfl, rfl⟩
