theorem dX7_would_0 : decode cX7_would 0 = .ok (.aload_n 0, 1) := by decide +kernel
theorem dX7_would_1 : decode cX7_would 1 = .ok (.iload_n 1, 1) := by decide +kernel
theorem dX7_would_2 : decode cX7_would 2 = .ok (.iload_n 2, 1) := by decide +kernel
theorem dX7_would_3 : decode cX7_would 3 = .ok (.iload_n 3, 1) := by decide +kernel
theorem dX7_would_4 : decode cX7_would 4 = .ok (.invokevirtual 237, 3) := by decide +kernel
theorem dX7_would_7 : decode cX7_would 7 = .ok (.istore 4, 2) := by decide +kernel
theorem dX7_would_9 : decode cX7_would 9 = .ok (.iload 4, 2) := by decide +kernel
theorem dX7_would_11 : decode cX7_would 11 = .ok (.ifCond .lt 12, 3) := by decide +kernel
theorem dX7_would_14 : decode cX7_would 14 = .ok (.aload_n 0, 1) := by decide +kernel
theorem dX7_would_15 : decode cX7_would 15 = .ok (.iload 4, 2) := by decide +kernel
theorem dX7_would_17 : decode cX7_would 17 = .ok (.invokevirtual 158, 3) := by decide +kernel
theorem dX7_would_20 : decode cX7_would 20 = .ok (.goto 10, 3) := by decide +kernel
theorem dX7_would_23 : decode cX7_would 23 = .ok (.aload_n 0, 1) := by decide +kernel
theorem dX7_would_24 : decode cX7_would 24 = .ok (.iload_n 1, 1) := by decide +kernel
theorem dX7_would_25 : decode cX7_would 25 = .ok (.iload_n 2, 1) := by decide +kernel
theorem dX7_would_26 : decode cX7_would 26 = .ok (.iload_n 3, 1) := by decide +kernel
theorem dX7_would_27 : decode cX7_would 27 = .ok (.invokevirtual 234, 3) := by decide +kernel
theorem dX7_would_30 : decode cX7_would 30 = .ok (.ireturn, 1) := by decide +kernel
def fX7_would (s : Mem) (p0 : Int32) (p1 : Int32) (p2 : Int32) : Option (Int32 × Mem) :=
  (fX7_whyNoPick s p0 p1 p2).bind (fun y1 => if y1 < (0 : Int32) then (fX7_picked s p0 p1 p2).bind (fun y2 => some ((y2, s))) else (fX7_finds s y1).bind (fun y3 => some ((y3.1, y3.2))))
set_option maxRecDepth 4000 in
theorem jjX7_would {X : Scr} (d : Nat) (s : Mem) (p0 : Int32) (p1 : Int32) (p2 : Int32) {r : (Int32 × Mem)} {w : Option Value} {s' : Mem} (hh : fX7_would s p0 p1 p2 = some r) (hk : w = some (.int r.1) ∧ r.2 = s') : J X MX7_would (d + 10) 0 [some (.ref 19), some (.int p0), some (.int p1), some (.int p2), none] [] s w s' := by
  unfold fX7_would at hh
  refine J_aload_n (pc := 0) dX7_would_0 rfl ?_
  refine J_iload_n (pc := 1) dX7_would_1 rfl ?_
  refine J_iload_n (pc := 2) dX7_would_2 rfl ?_
  refine J_iload_n (pc := 3) dX7_would_3 rfl ?_
  obtain ⟨y1, hy1, hh⟩ := bd_some hh
  refine J_callVi (pc := 4) (M' := MX7_whyNoPick) (a := 19) (rest := []) (As := [.int p0, .int p1, .int p2]) (L0 := [some (.ref 19), some (.int p0), some (.int p1), some (.int p2), none]) okX7_whyNoPick ovX7_whyNoPick mlX7_237 clX7 so19 rfl rfl (Nat.le_of_ble_eq_true rfl) dX7_would_4 rfl (Nat.le_of_ble_eq_true rfl) (jX7_whyNoPick (X := X) d s p0 p1 p2 hy1) ?_
  refine J_istore (pc := 7) (L' := [some (.ref 19), some (.int p0), some (.int p1), some (.int p2), some (.int y1)]) dX7_would_7 rfl (Nat.le_of_ble_eq_true rfl) rfl ?_
  refine J_iload (pc := 9) dX7_would_9 rfl ?_
  refine J_if_lt (pc := 11) 23 dX7_would_11 (by decide) (fun c4 => ?_) (fun c4 => ?_)
  · replace hh := (if_pos c4).symm.trans hh
    refine J_aload_n (pc := 23) dX7_would_23 rfl ?_
    refine J_iload_n (pc := 24) dX7_would_24 rfl ?_
    refine J_iload_n (pc := 25) dX7_would_25 rfl ?_
    refine J_iload_n (pc := 26) dX7_would_26 rfl ?_
    obtain ⟨y2, hy2, hh⟩ := bd_some hh
    refine J_callVi (pc := 27) (M' := MX7_picked) (a := 19) (rest := []) (As := [.int p0, .int p1, .int p2]) (L0 := [some (.ref 19), some (.int p0), some (.int p1), some (.int p2), none, none]) okX7_picked ovX7_picked mlX7_234 clX7 so19 rfl rfl (Nat.le_of_ble_eq_true rfl) dX7_would_27 rfl (Nat.le_of_ble_eq_true rfl) (jX7_picked (X := X) (d + 1) s p0 p1 p2 hy2) ?_
    obtain rfl := Option.some.inj hh
    obtain ⟨rfl, rfl⟩ := hk
    exact J_ret (w := some (.int y2)) ⟨dX7_would_30, _, rfl, rfl⟩
  · replace hh := (if_neg c4).symm.trans hh
    refine J_aload_n (pc := 14) dX7_would_14 rfl ?_
    refine J_iload (pc := 15) dX7_would_15 rfl ?_
    obtain ⟨y3, hy3, hh⟩ := bd_some hh
    refine J_callVi (pc := 17) (M' := MX7_finds) (a := 19) (rest := []) (As := [.int y1]) (L0 := [some (.ref 19), some (.int y1)]) okX7_finds ovX7_finds mlX7_158 clX7 so19 rfl rfl (Nat.le_of_ble_eq_true rfl) dX7_would_17 rfl (Nat.le_of_ble_eq_true rfl) (jX7_finds (X := X) (d + 9) s y1 hy3) ?_
    refine J_goto (pc := 20) 30 dX7_would_20 (by decide) ?_
    obtain rfl := Option.some.inj hh
    obtain ⟨rfl, rfl⟩ := hk
    exact J_ret (w := some (.int y3.1)) ⟨dX7_would_30, _, rfl, rfl⟩
theorem jX7_would {X : Scr} (d : Nat) (s : Mem) (p0 : Int32) (p1 : Int32) (p2 : Int32) {r : (Int32 × Mem)} (hh : fX7_would s p0 p1 p2 = some r) : J X MX7_would (d + 10) 0 [some (.ref 19), some (.int p0), some (.int p1), some (.int p2), none] [] s (some (.int r.1)) r.2 := jjX7_would d s p0 p1 p2 hh ⟨rfl, rfl⟩
theorem dX7_isPicked_0 : decode cX7_isPicked 0 = .ok (.aload_n 0, 1) := by decide +kernel
theorem dX7_isPicked_1 : decode cX7_isPicked 1 = .ok (.iload_n 1, 1) := by decide +kernel
theorem dX7_isPicked_2 : decode cX7_isPicked 2 = .ok (.iload_n 2, 1) := by decide +kernel
theorem dX7_isPicked_3 : decode cX7_isPicked 3 = .ok (.iload_n 3, 1) := by decide +kernel
theorem dX7_isPicked_4 : decode cX7_isPicked 4 = .ok (.invokevirtual 237, 3) := by decide +kernel
theorem dX7_isPicked_7 : decode cX7_isPicked 7 = .ok (.ifCond .lt 5, 3) := by decide +kernel
theorem dX7_isPicked_10 : decode cX7_isPicked 10 = .ok (.iconst 0, 1) := by decide +kernel
theorem dX7_isPicked_11 : decode cX7_isPicked 11 = .ok (.ireturn, 1) := by decide +kernel
theorem dX7_isPicked_12 : decode cX7_isPicked 12 = .ok (.aload_n 0, 1) := by decide +kernel
theorem dX7_isPicked_13 : decode cX7_isPicked 13 = .ok (.iload_n 1, 1) := by decide +kernel
theorem dX7_isPicked_14 : decode cX7_isPicked 14 = .ok (.iload_n 2, 1) := by decide +kernel
theorem dX7_isPicked_15 : decode cX7_isPicked 15 = .ok (.aload_n 0, 1) := by decide +kernel
theorem dX7_isPicked_16 : decode cX7_isPicked 16 = .ok (.iload_n 1, 1) := by decide +kernel
theorem dX7_isPicked_17 : decode cX7_isPicked 17 = .ok (.iload_n 2, 1) := by decide +kernel
theorem dX7_isPicked_18 : decode cX7_isPicked 18 = .ok (.iload_n 3, 1) := by decide +kernel
theorem dX7_isPicked_19 : decode cX7_isPicked 19 = .ok (.invokevirtual 234, 3) := by decide +kernel
theorem dX7_isPicked_22 : decode cX7_isPicked 22 = .ok (.invokevirtual 174, 3) := by decide +kernel
theorem dX7_isPicked_25 : decode cX7_isPicked 25 = .ok (.iconst 1, 1) := by decide +kernel
theorem dX7_isPicked_26 : decode cX7_isPicked 26 = .ok (.ireturn, 1) := by decide +kernel
def fX7_isPicked (s : Mem) (p0 : Int32) (p1 : Int32) (p2 : Int32) : Option (Int32 × Mem) :=
  (fX7_whyNoPick s p0 p1 p2).bind (fun y1 => if y1 < (0 : Int32) then (fX7_picked s p0 p1 p2).bind (fun y2 => (fX7_puts s p0 p1 y2).bind (fun y3 => some (((1 : Int32), y3)))) else some (((0 : Int32), s)))
set_option maxRecDepth 4000 in
theorem jjX7_isPicked {X : Scr} (d : Nat) (s : Mem) (p0 : Int32) (p1 : Int32) (p2 : Int32) {r : (Int32 × Mem)} {w : Option Value} {s' : Mem} (hh : fX7_isPicked s p0 p1 p2 = some r) (hk : w = some (.int r.1) ∧ r.2 = s') : J X MX7_isPicked (d + 10) 0 [some (.ref 19), some (.int p0), some (.int p1), some (.int p2)] [] s w s' := by
  unfold fX7_isPicked at hh
  refine J_aload_n (pc := 0) dX7_isPicked_0 rfl ?_
  refine J_iload_n (pc := 1) dX7_isPicked_1 rfl ?_
  refine J_iload_n (pc := 2) dX7_isPicked_2 rfl ?_
  refine J_iload_n (pc := 3) dX7_isPicked_3 rfl ?_
  obtain ⟨y1, hy1, hh⟩ := bd_some hh
  refine J_callVi (pc := 4) (M' := MX7_whyNoPick) (a := 19) (rest := []) (As := [.int p0, .int p1, .int p2]) (L0 := [some (.ref 19), some (.int p0), some (.int p1), some (.int p2), none]) okX7_whyNoPick ovX7_whyNoPick mlX7_237 clX7 so19 rfl rfl (Nat.le_of_ble_eq_true rfl) dX7_isPicked_4 rfl (Nat.le_of_ble_eq_true rfl) (jX7_whyNoPick (X := X) d s p0 p1 p2 hy1) ?_
  refine J_if_lt (pc := 7) 12 dX7_isPicked_7 (by decide) (fun c4 => ?_) (fun c4 => ?_)
  · replace hh := (if_pos c4).symm.trans hh
    refine J_aload_n (pc := 12) dX7_isPicked_12 rfl ?_
    refine J_iload_n (pc := 13) dX7_isPicked_13 rfl ?_
    refine J_iload_n (pc := 14) dX7_isPicked_14 rfl ?_
    refine J_aload_n (pc := 15) dX7_isPicked_15 rfl ?_
    refine J_iload_n (pc := 16) dX7_isPicked_16 rfl ?_
    refine J_iload_n (pc := 17) dX7_isPicked_17 rfl ?_
    refine J_iload_n (pc := 18) dX7_isPicked_18 rfl ?_
    obtain ⟨y2, hy2, hh⟩ := bd_some hh
    refine J_callVi (pc := 19) (M' := MX7_picked) (a := 19) (rest := [.int p1, .int p0, .ref 19]) (As := [.int p0, .int p1, .int p2]) (L0 := [some (.ref 19), some (.int p0), some (.int p1), some (.int p2), none, none]) okX7_picked ovX7_picked mlX7_234 clX7 so19 rfl rfl (Nat.le_of_ble_eq_true rfl) dX7_isPicked_19 rfl (Nat.le_of_ble_eq_true rfl) (jX7_picked (X := X) (d + 1) s p0 p1 p2 hy2) ?_
    obtain ⟨y3, hy3, hh⟩ := bd_some hh
    refine J_callV0 (pc := 22) (M' := MX7_puts) (a := 19) (rest := []) (As := [.int p0, .int p1, .int y2]) (L0 := [some (.ref 19), some (.int p0), some (.int p1), some (.int y2)]) okX7_puts ovX7_puts mlX7_174 clX7 so19 rfl rfl (Nat.le_of_ble_eq_true rfl) dX7_isPicked_22 rfl (Nat.le_of_ble_eq_true rfl) (jX7_puts (X := X) (d + 9) s p0 p1 y2 hy3) ?_
    refine J_iconst (pc := 25) dX7_isPicked_25 ci_1 ?_
    obtain rfl := Option.some.inj hh
    obtain ⟨rfl, rfl⟩ := hk
    exact J_ret (w := some (.int (1 : Int32))) ⟨dX7_isPicked_26, _, rfl, rfl⟩
  · replace hh := (if_neg c4).symm.trans hh
    refine J_iconst (pc := 10) dX7_isPicked_10 ci_0 ?_
    obtain rfl := Option.some.inj hh
    obtain ⟨rfl, rfl⟩ := hk
    exact J_ret (w := some (.int (0 : Int32))) ⟨dX7_isPicked_11, _, rfl, rfl⟩
theorem jX7_isPicked {X : Scr} (d : Nat) (s : Mem) (p0 : Int32) (p1 : Int32) (p2 : Int32) {r : (Int32 × Mem)} (hh : fX7_isPicked s p0 p1 p2 = some r) : J X MX7_isPicked (d + 10) 0 [some (.ref 19), some (.int p0), some (.int p1), some (.int p2)] [] s (some (.int r.1)) r.2 := jjX7_isPicked d s p0 p1 p2 hh ⟨rfl, rfl⟩
theorem dX7_fill_0 : decode cX7_fill 0 = .ok (.iload_n 1, 1) := by decide +kernel
theorem dX7_fill_1 : decode cX7_fill 1 = .ok (.i2l, 1) := by decide +kernel
theorem dX7_fill_2 : decode cX7_fill 2 = .ok (.lconst 0, 1) := by decide +kernel
theorem dX7_fill_3 : decode cX7_fill 3 = .ok (.ldc2_w 232, 3) := by decide +kernel
theorem dX7_fill_6 : decode cX7_fill 6 = .ok (.invokestatic 63, 3) := by decide +kernel
theorem dX7_fill_9 : decode cX7_fill 9 = .ok (.ifCond .ne 9, 3) := by decide +kernel
theorem dX7_fill_12 : decode cX7_fill 12 = .ok (.aload_n 0, 1) := by decide +kernel
theorem dX7_fill_13 : decode cX7_fill 13 = .ok (.iconst 0, 1) := by decide +kernel
theorem dX7_fill_14 : decode cX7_fill 14 = .ok (.invokevirtual 158, 3) := by decide +kernel
theorem dX7_fill_17 : decode cX7_fill 17 = .ok (.ireturn, 1) := by decide +kernel
theorem dX7_fill_18 : decode cX7_fill 18 = .ok (.aload_n 0, 1) := by decide +kernel
theorem dX7_fill_19 : decode cX7_fill 19 = .ok (.invokevirtual 161, 3) := by decide +kernel
theorem dX7_fill_22 : decode cX7_fill 22 = .ok (.iconst 0, 1) := by decide +kernel
theorem dX7_fill_23 : decode cX7_fill 23 = .ok (.istore_n 2, 1) := by decide +kernel
theorem dX7_fill_24 : decode cX7_fill 24 = .ok (.iconst 0, 1) := by decide +kernel
theorem dX7_fill_25 : decode cX7_fill 25 = .ok (.istore_n 3, 1) := by decide +kernel
theorem dX7_fill_26 : decode cX7_fill 26 = .ok (.iload_n 3, 1) := by decide +kernel
theorem dX7_fill_27 : decode cX7_fill 27 = .ok (.aload_n 0, 1) := by decide +kernel
theorem dX7_fill_28 : decode cX7_fill 28 = .ok (.getfield 9, 3) := by decide +kernel
theorem dX7_fill_31 : decode cX7_fill 31 = .ok (.bipush 96, 2) := by decide +kernel
theorem dX7_fill_33 : decode cX7_fill 33 = .ok (.iaload, 1) := by decide +kernel
theorem dX7_fill_34 : decode cX7_fill 34 = .ok (.if_icmp .ge 53, 3) := by decide +kernel
theorem dX7_fill_37 : decode cX7_fill 37 = .ok (.iconst 0, 1) := by decide +kernel
theorem dX7_fill_38 : decode cX7_fill 38 = .ok (.istore 4, 2) := by decide +kernel
theorem dX7_fill_40 : decode cX7_fill 40 = .ok (.iload 4, 2) := by decide +kernel
theorem dX7_fill_42 : decode cX7_fill 42 = .ok (.iconst 4, 1) := by decide +kernel
theorem dX7_fill_43 : decode cX7_fill 43 = .ok (.if_icmp .ge 38, 3) := by decide +kernel
theorem dX7_fill_46 : decode cX7_fill 46 = .ok (.iload_n 2, 1) := by decide +kernel
theorem dX7_fill_47 : decode cX7_fill 47 = .ok (.aload_n 0, 1) := by decide +kernel
theorem dX7_fill_48 : decode cX7_fill 48 = .ok (.iload_n 3, 1) := by decide +kernel
theorem dX7_fill_49 : decode cX7_fill 49 = .ok (.iload 4, 2) := by decide +kernel
theorem dX7_fill_51 : decode cX7_fill 51 = .ok (.invokevirtual 105, 3) := by decide +kernel
theorem dX7_fill_54 : decode cX7_fill 54 = .ok (.ifCond .ge 18, 3) := by decide +kernel
theorem dX7_fill_57 : decode cX7_fill 57 = .ok (.aload_n 0, 1) := by decide +kernel
theorem dX7_fill_58 : decode cX7_fill 58 = .ok (.iload_n 3, 1) := by decide +kernel
theorem dX7_fill_59 : decode cX7_fill 59 = .ok (.iload 4, 2) := by decide +kernel
theorem dX7_fill_61 : decode cX7_fill 61 = .ok (.iload_n 1, 1) := by decide +kernel
theorem dX7_fill_62 : decode cX7_fill 62 = .ok (.invokevirtual 240, 3) := by decide +kernel
theorem dX7_fill_65 : decode cX7_fill 65 = .ok (.ifCond .eq 7, 3) := by decide +kernel
theorem dX7_fill_68 : decode cX7_fill 68 = .ok (.iconst 1, 1) := by decide +kernel
theorem dX7_fill_69 : decode cX7_fill 69 = .ok (.goto 4, 3) := by decide +kernel
theorem dX7_fill_72 : decode cX7_fill 72 = .ok (.iconst 0, 1) := by decide +kernel
theorem dX7_fill_73 : decode cX7_fill 73 = .ok (.iadd, 1) := by decide +kernel
theorem dX7_fill_74 : decode cX7_fill 74 = .ok (.istore_n 2, 1) := by decide +kernel
theorem dX7_fill_75 : decode cX7_fill 75 = .ok (.iinc 4 1, 3) := by decide +kernel
theorem dX7_fill_78 : decode cX7_fill 78 = .ok (.goto (-38), 3) := by decide +kernel
theorem dX7_fill_81 : decode cX7_fill 81 = .ok (.iinc 3 1, 3) := by decide +kernel
theorem dX7_fill_84 : decode cX7_fill 84 = .ok (.goto (-58), 3) := by decide +kernel
theorem dX7_fill_87 : decode cX7_fill 87 = .ok (.aload_n 0, 1) := by decide +kernel
theorem dX7_fill_88 : decode cX7_fill 88 = .ok (.invokevirtual 168, 3) := by decide +kernel
theorem dX7_fill_91 : decode cX7_fill 91 = .ok (.iload_n 2, 1) := by decide +kernel
theorem dX7_fill_92 : decode cX7_fill 92 = .ok (.ireturn, 1) := by decide +kernel
def gX7_fill_72 (s : Mem) (v1 : Int32) (v3 : Int32) (v4 : Int32) (k0 : Int32) : Option ((Int32 × Mem) ⊕ (Int32 × Int32 × Mem)) :=
  lt (k0 + (0 : Int32)) (fun x5 => lt (v4 + (1 : Int32)) (fun x6 => some (Sum.inr (x5, x6, s))))
set_option maxRecDepth 4000 in
theorem jgX7_fill_72 {X : Scr} (d : Nat) (s : Mem) (v1 : Int32) (v3 : Int32) (v4 : Int32) (k0 : Int32) {r : ((Int32 × Mem) ⊕ (Int32 × Int32 × Mem))} {w : Option Value} {s' : Mem} (hh : gX7_fill_72 s v1 v3 v4 k0 = some r) (hk : Sum.elim (fun t : (Int32 × Mem) => J X MX7_fill (d + 11) 81 [some (.ref 19), some (.int v1), some (.int t.1), some (.int v3), none] [] t.2 w s') (fun a : (Int32 × Int32 × Mem) => J X MX7_fill (d + 11) 40 [some (.ref 19), some (.int v1), some (.int a.1), some (.int v3), some (.int a.2.1)] [] a.2.2 w s') r) : J X MX7_fill (d + 11) 72 [some (.ref 19), some (.int v1), none, some (.int v3), some (.int v4)] [.int k0] s w s' := by
  unfold gX7_fill_72 at hh
  refine J_iconst (pc := 72) dX7_fill_72 ci_0 ?_
  refine J_iadd (pc := 73) dX7_fill_73 ?_
  refine J_istoreL_n (pc := 74) (fun x5 => [some (.ref 19), some (.int v1), some (.int x5), some (.int v3), some (.int v4)]) dX7_fill_74 rfl (Nat.le_of_ble_eq_true rfl) (fun _ => rfl) hh (fun x5 hh => ?_)
  refine J_iincL (pc := 75) (v := v4 + (1 : Int32)) (fun x6 => [some (.ref 19), some (.int v1), some (.int x5), some (.int v3), some (.int x6)]) dX7_fill_75 rfl rfl (Nat.le_of_ble_eq_true rfl) (congrArg _ ci_1) (fun _ => rfl) hh (fun x6 hh => ?_)
  refine J_goto (pc := 78) 40 dX7_fill_78 (by decide) ?_
  obtain rfl := Option.some.inj hh
  exact hk
def bX7_fill_40 (s : Mem) (v1 : Int32) (v3 : Int32) (v2 : Int32) (v4 : Int32) : Option ((Int32 × Mem) ⊕ (Int32 × Int32 × Mem)) :=
  if (4 : Int32) ≤ v4 then some (Sum.inl (v2, s)) else (fX7_triple s v3 v4).bind (fun y4 => if (0 : Int32) ≤ y4 then gX7_fill_72 s v1 v3 v4 v2 else (fX7_isPicked s v3 v4 v1).bind (fun y7 => if y7.1 = (0 : Int32) then gX7_fill_72 y7.2 v1 v3 v4 v2 else lt (v2 + (1 : Int32)) (fun x8 => lt (v4 + (1 : Int32)) (fun x9 => some (Sum.inr (x8, x9, y7.2))))))
set_option maxRecDepth 4000 in
theorem jbX7_fill_40 {X : Scr} (d : Nat) (s : Mem) (v1 : Int32) (v3 : Int32) (v2 : Int32) (v4 : Int32) {r : ((Int32 × Mem) ⊕ (Int32 × Int32 × Mem))} {w : Option Value} {s' : Mem} (hh : bX7_fill_40 s v1 v3 v2 v4 = some r) (hk : Sum.elim (fun t : (Int32 × Mem) => J X MX7_fill (d + 11) 81 [some (.ref 19), some (.int v1), some (.int t.1), some (.int v3), none] [] t.2 w s') (fun a : (Int32 × Int32 × Mem) => J X MX7_fill (d + 11) 40 [some (.ref 19), some (.int v1), some (.int a.1), some (.int v3), some (.int a.2.1)] [] a.2.2 w s') r) : J X MX7_fill (d + 11) 40 [some (.ref 19), some (.int v1), some (.int v2), some (.int v3), some (.int v4)] [] s w s' := by
  unfold bX7_fill_40 at hh
  refine J_iload (pc := 40) dX7_fill_40 rfl ?_
  refine J_iconst (pc := 42) dX7_fill_42 ci_4 ?_
  refine J_icmp_ge (pc := 43) 81 dX7_fill_43 (by decide) (fun c12 => ?_) (fun c12 => ?_)
  · replace hh := (if_pos c12).symm.trans hh
    refine J_drop 4 (L' := [some (.ref 19), some (.int v1), some (.int v2), some (.int v3), none]) rfl ?_
    obtain rfl := Option.some.inj hh
    exact hk
  · replace hh := (if_neg c12).symm.trans hh
    refine J_iload_n (pc := 46) dX7_fill_46 rfl ?_
    refine J_aload_n (pc := 47) dX7_fill_47 rfl ?_
    refine J_iload_n (pc := 48) dX7_fill_48 rfl ?_
    refine J_iload (pc := 49) dX7_fill_49 rfl ?_
    obtain ⟨y4, hy4, hh⟩ := bd_some hh
    refine J_callVi (pc := 51) (M' := MX7_triple) (a := 19) (rest := [.int v2]) (As := [.int v3, .int v4]) (L0 := [some (.ref 19), some (.int v3), some (.int v4)]) okX7_triple ovX7_triple mlX7_105 clX7 so19 rfl rfl (Nat.le_of_ble_eq_true rfl) dX7_fill_51 rfl (Nat.le_of_ble_eq_true rfl) (jX7_triple (X := X) (d + 10) s v3 v4 hy4) ?_
    refine J_if_ge (pc := 54) 72 dX7_fill_54 (by decide) (fun c11 => ?_) (fun c11 => ?_)
    · replace hh := (if_pos c11).symm.trans hh
      refine J_drop 2 (L' := [some (.ref 19), some (.int v1), none, some (.int v3), some (.int v4)]) rfl ?_
      exact jgX7_fill_72 d s v1 v3 v4 v2 hh hk
    · replace hh := (if_neg c11).symm.trans hh
      refine J_aload_n (pc := 57) dX7_fill_57 rfl ?_
      refine J_iload_n (pc := 58) dX7_fill_58 rfl ?_
      refine J_iload (pc := 59) dX7_fill_59 rfl ?_
      refine J_iload_n (pc := 61) dX7_fill_61 rfl ?_
      obtain ⟨y7, hy7, hh⟩ := bd_some hh
      refine J_callVi (pc := 62) (M' := MX7_isPicked) (a := 19) (rest := [.int v2]) (As := [.int v3, .int v4, .int v1]) (L0 := [some (.ref 19), some (.int v3), some (.int v4), some (.int v1)]) okX7_isPicked ovX7_isPicked mlX7_240 clX7 so19 rfl rfl (Nat.le_of_ble_eq_true rfl) dX7_fill_62 rfl (Nat.le_of_ble_eq_true rfl) (jX7_isPicked (X := X) d s v3 v4 v1 hy7) ?_
      refine J_if_eq (pc := 65) 72 dX7_fill_65 (by decide) (fun c10 => ?_) (fun c10 => ?_)
      · replace hh := (if_pos c10).symm.trans hh
        refine J_drop 2 (L' := [some (.ref 19), some (.int v1), none, some (.int v3), some (.int v4)]) rfl ?_
        exact jgX7_fill_72 d y7.2 v1 v3 v4 v2 hh hk
      · replace hh := (if_neg c10).symm.trans hh
        refine J_iconst (pc := 68) dX7_fill_68 ci_1 ?_
        refine J_goto (pc := 69) 73 dX7_fill_69 (by decide) ?_
        refine J_iadd (pc := 73) dX7_fill_73 ?_
        refine J_istoreL_n (pc := 74) (fun x8 => [some (.ref 19), some (.int v1), some (.int x8), some (.int v3), some (.int v4)]) dX7_fill_74 rfl (Nat.le_of_ble_eq_true rfl) (fun _ => rfl) hh (fun x8 hh => ?_)
        refine J_iincL (pc := 75) (v := v4 + (1 : Int32)) (fun x9 => [some (.ref 19), some (.int v1), some (.int x8), some (.int v3), some (.int x9)]) dX7_fill_75 rfl rfl (Nat.le_of_ble_eq_true rfl) (congrArg _ ci_1) (fun _ => rfl) hh (fun x9 hh => ?_)
        refine J_goto (pc := 78) 40 dX7_fill_78 (by decide) ?_
        obtain rfl := Option.some.inj hh
        exact hk
def bX7_fill_26 (s : Mem) (v1 : Int32) (v2 : Int32) (v3 : Int32) : Option ((Int32 × Mem) ⊕ (Int32 × Int32 × Mem)) :=
  gd (96 : Int32) 139 (if (s.1 20 (96 : Int32).toNatClampNeg) ≤ v3 then some (Sum.inl (v2, s)) else (lp (fun a => bX7_fill_40 a.2.2 v1 v3 a.1 a.2.1) 600 (v2, (0 : Int32), s)).bind (fun y13 => lt (v3 + (1 : Int32)) (fun x14 => some (Sum.inr (y13.1, x14, y13.2)))))
set_option maxRecDepth 4000 in
theorem jbX7_fill_26 {X : Scr} (d : Nat) (s : Mem) (v1 : Int32) (v2 : Int32) (v3 : Int32) {r : ((Int32 × Mem) ⊕ (Int32 × Int32 × Mem))} {w : Option Value} {s' : Mem} (hh : bX7_fill_26 s v1 v2 v3 = some r) (hk : Sum.elim (fun t : (Int32 × Mem) => J X MX7_fill (d + 11) 87 [some (.ref 19), none, some (.int t.1), none, none] [] t.2 w s') (fun a : (Int32 × Int32 × Mem) => J X MX7_fill (d + 11) 26 [some (.ref 19), some (.int v1), some (.int a.1), some (.int a.2.1), none] [] a.2.2 w s') r) : J X MX7_fill (d + 11) 26 [some (.ref 19), some (.int v1), some (.int v2), some (.int v3), none] [] s w s' := by
  unfold bX7_fill_26 at hh
  refine J_iload_n (pc := 26) dX7_fill_26 rfl ?_
  refine J_aload_n (pc := 27) dX7_fill_27 rfl ?_
  refine J_getR (pc := 28) (k := 0) flX7_9 so19 fk19_0 dX7_fill_28 ?_
  refine J_bipush (pc := 31) dX7_fill_31 cb_96 ?_
  obtain ⟨h3, hh⟩ := gd_some hh
  refine J_iald (pc := 33) dX7_fill_33 sa20 h3 ?_
  refine J_icmp_ge (pc := 34) 87 dX7_fill_34 (by decide) (fun c15 => ?_) (fun c15 => ?_)
  · replace hh := (if_pos c15).symm.trans hh
    refine J_drop 1 (L' := [some (.ref 19), none, some (.int v2), some (.int v3), none]) rfl ?_
    refine J_drop 3 (L' := [some (.ref 19), none, some (.int v2), none, none]) rfl ?_
    obtain rfl := Option.some.inj hh
    exact hk
  · replace hh := (if_neg c15).symm.trans hh
    refine J_iconst (pc := 37) dX7_fill_37 ci_0 ?_
    refine J_istore (pc := 38) (L' := [some (.ref 19), some (.int v1), some (.int v2), some (.int v3), some (.int (0 : Int32))]) dX7_fill_38 rfl (Nat.le_of_ble_eq_true rfl) rfl ?_
    obtain ⟨y13, hy13, hh⟩ := bd_some hh
    refine J_lp (a := (v2, (0 : Int32), s)) (fun a : (Int32 × Int32 × Mem) => J X MX7_fill (d + 11) 40 [some (.ref 19), some (.int v1), some (.int a.1), some (.int v3), some (.int a.2.1)] [] a.2.2 w s') (fun t : (Int32 × Mem) => J X MX7_fill (d + 11) 81 [some (.ref 19), some (.int v1), some (.int t.1), some (.int v3), none] [] t.2 w s') (fun a q h1 h2 => jbX7_fill_40 d a.2.2 v1 v3 a.1 a.2.1 h1 h2) hy13 ?_
    refine J_iincL (pc := 81) (v := v3 + (1 : Int32)) (fun x14 => [some (.ref 19), some (.int v1), some (.int y13.1), some (.int x14), none]) dX7_fill_81 rfl rfl (Nat.le_of_ble_eq_true rfl) (congrArg _ ci_1) (fun _ => rfl) hh (fun x14 hh => ?_)
    refine J_goto (pc := 84) 26 dX7_fill_84 (by decide) ?_
    obtain rfl := Option.some.inj hh
    exact hk
def fX7_fill (s : Mem) (p0 : Int32) : Option (Int32 × Mem) :=
  (fX7_in (p0.toInt64) (0 : Int64) (4 : Int64)).bind (fun y1 => if y1 = (0 : Int32) then (fX7_finds s (0 : Int32)).bind (fun y18 => some ((y18.1, y18.2))) else (fX7_laysAside s).bind (fun y2 => (lp (fun a => bX7_fill_26 a.2.2 p0 a.1 a.2.1) 600 ((0 : Int32), (0 : Int32), y2)).bind (fun y16 => (fX7_changes y16.2).bind (fun y17 => some ((y16.1, y17))))))
set_option maxRecDepth 4000 in
theorem jjX7_fill {X : Scr} (d : Nat) (s : Mem) (p0 : Int32) {r : (Int32 × Mem)} {w : Option Value} {s' : Mem} (hh : fX7_fill s p0 = some r) (hk : w = some (.int r.1) ∧ r.2 = s') : J X MX7_fill (d + 11) 0 [some (.ref 19), some (.int p0), none, none, none] [] s w s' := by
  unfold fX7_fill at hh
  refine J_iload_n (pc := 0) dX7_fill_0 rfl ?_
  refine J_i2l (pc := 1) dX7_fill_1 ?_
  refine J_lconst (pc := 2) (v := 0) dX7_fill_2 rfl ?_
  refine J_ldc2 (pc := 3) klX7_232 dX7_fill_3 ?_
  obtain ⟨y1, hy1, hh⟩ := bd_some hh
  refine J_callSi (pc := 6) (M' := MX7_in) (rest := []) (As := [.long (p0.toInt64), .long (0 : Int64), .long (4 : Int64)]) (L0 := [some (.long (p0.toInt64)), none, some (.long (0 : Int64)), none, some (.long (4 : Int64)), none]) okX7_in osX7_in mlX7_63 rfl rfl (Nat.le_of_ble_eq_true rfl) dX7_fill_6 rfl (Nat.le_of_ble_eq_true rfl) (jX7_in (X := X) (d + 10) s (p0.toInt64) (0 : Int64) (4 : Int64) hy1) ?_
  refine J_if_ne (pc := 9) 18 dX7_fill_9 (by decide) (fun c19 => ?_) (fun c19 => ?_)
  · replace hh := (if_neg c19).symm.trans hh
    refine J_aload_n (pc := 18) dX7_fill_18 rfl ?_
    obtain ⟨y2, hy2, hh⟩ := bd_some hh
    refine J_callV0 (pc := 19) (M' := MX7_laysAside) (a := 19) (rest := []) (As := []) (L0 := [some (.ref 19), none]) okX7_laysAside ovX7_laysAside mlX7_161 clX7 so19 rfl rfl (Nat.le_of_ble_eq_true rfl) dX7_fill_19 rfl (Nat.le_of_ble_eq_true rfl) (jX7_laysAside (X := X) (d + 10) s hy2) ?_
    refine J_iconst (pc := 22) dX7_fill_22 ci_0 ?_
    refine J_istore_n (pc := 23) (L' := [some (.ref 19), some (.int p0), some (.int (0 : Int32)), none, none]) dX7_fill_23 rfl (Nat.le_of_ble_eq_true rfl) rfl ?_
    refine J_iconst (pc := 24) dX7_fill_24 ci_0 ?_
    refine J_istore_n (pc := 25) (L' := [some (.ref 19), some (.int p0), some (.int (0 : Int32)), some (.int (0 : Int32)), none]) dX7_fill_25 rfl (Nat.le_of_ble_eq_true rfl) rfl ?_
    obtain ⟨y16, hy16, hh⟩ := bd_some hh
    refine J_lp (a := ((0 : Int32), (0 : Int32), y2)) (fun a : (Int32 × Int32 × Mem) => J X MX7_fill (d + 11) 26 [some (.ref 19), some (.int p0), some (.int a.1), some (.int a.2.1), none] [] a.2.2 w s') (fun t : (Int32 × Mem) => J X MX7_fill (d + 11) 87 [some (.ref 19), none, some (.int t.1), none, none] [] t.2 w s') (fun a q h1 h2 => jbX7_fill_26 d a.2.2 p0 a.1 a.2.1 h1 h2) hy16 ?_
    refine J_aload_n (pc := 87) dX7_fill_87 rfl ?_
    obtain ⟨y17, hy17, hh⟩ := bd_some hh
    refine J_callV0 (pc := 88) (M' := MX7_changes) (a := 19) (rest := []) (As := []) (L0 := [some (.ref 19), none, none]) okX7_changes ovX7_changes mlX7_168 clX7 so19 rfl rfl (Nat.le_of_ble_eq_true rfl) dX7_fill_88 rfl (Nat.le_of_ble_eq_true rfl) (jX7_changes (X := X) (d + 10) y16.2 hy17) ?_
    refine J_iload_n (pc := 91) dX7_fill_91 rfl ?_
    obtain rfl := Option.some.inj hh
    obtain ⟨rfl, rfl⟩ := hk
    exact J_ret (w := some (.int y16.1)) ⟨dX7_fill_92, _, rfl, rfl⟩
  · replace hh := (if_pos c19).symm.trans hh
    refine J_aload_n (pc := 12) dX7_fill_12 rfl ?_
    refine J_iconst (pc := 13) dX7_fill_13 ci_0 ?_
    obtain ⟨y18, hy18, hh⟩ := bd_some hh
    refine J_callVi (pc := 14) (M' := MX7_finds) (a := 19) (rest := []) (As := [.int (0 : Int32)]) (L0 := [some (.ref 19), some (.int (0 : Int32))]) okX7_finds ovX7_finds mlX7_158 clX7 so19 rfl rfl (Nat.le_of_ble_eq_true rfl) dX7_fill_14 rfl (Nat.le_of_ble_eq_true rfl) (jX7_finds (X := X) (d + 10) s (0 : Int32) hy18) ?_
    obtain rfl := Option.some.inj hh
    obtain ⟨rfl, rfl⟩ := hk
    exact J_ret (w := some (.int y18.1)) ⟨dX7_fill_17, _, rfl, rfl⟩
theorem jX7_fill {X : Scr} (d : Nat) (s : Mem) (p0 : Int32) {r : (Int32 × Mem)} (hh : fX7_fill s p0 = some r) : J X MX7_fill (d + 11) 0 [some (.ref 19), some (.int p0), none, none, none] [] s (some (.int r.1)) r.2 := jjX7_fill d s p0 hh ⟨rfl, rfl⟩
theorem dX7_trade_0 : decode cX7_trade 0 = .ok (.aload_n 0, 1) := by decide +kernel
theorem dX7_trade_1 : decode cX7_trade 1 = .ok (.iload_n 1, 1) := by decide +kernel
theorem dX7_trade_2 : decode cX7_trade 2 = .ok (.invokevirtual 196, 3) := by decide +kernel
theorem dX7_trade_5 : decode cX7_trade 5 = .ok (.ifCond .eq 23, 3) := by decide +kernel
theorem dX7_trade_8 : decode cX7_trade 8 = .ok (.aload_n 0, 1) := by decide +kernel
theorem dX7_trade_9 : decode cX7_trade 9 = .ok (.iload_n 2, 1) := by decide +kernel
theorem dX7_trade_10 : decode cX7_trade 10 = .ok (.invokevirtual 196, 3) := by decide +kernel
theorem dX7_trade_13 : decode cX7_trade 13 = .ok (.ifCond .eq 15, 3) := by decide +kernel
theorem dX7_trade_16 : decode cX7_trade 16 = .ok (.iload_n 1, 1) := by decide +kernel
theorem dX7_trade_17 : decode cX7_trade 17 = .ok (.iload_n 2, 1) := by decide +kernel
theorem dX7_trade_18 : decode cX7_trade 18 = .ok (.if_icmp .eq 10, 3) := by decide +kernel
theorem dX7_trade_21 : decode cX7_trade 21 = .ok (.iload_n 3, 1) := by decide +kernel
theorem dX7_trade_22 : decode cX7_trade 22 = .ok (.invokestatic 139, 3) := by decide +kernel
theorem dX7_trade_25 : decode cX7_trade 25 = .ok (.ifCond .ne 9, 3) := by decide +kernel
theorem dX7_trade_28 : decode cX7_trade 28 = .ok (.aload_n 0, 1) := by decide +kernel
theorem dX7_trade_29 : decode cX7_trade 29 = .ok (.iconst 0, 1) := by decide +kernel
theorem dX7_trade_30 : decode cX7_trade 30 = .ok (.invokevirtual 158, 3) := by decide +kernel
theorem dX7_trade_33 : decode cX7_trade 33 = .ok (.ireturn, 1) := by decide +kernel
theorem dX7_trade_34 : decode cX7_trade 34 = .ok (.aload_n 0, 1) := by decide +kernel
theorem dX7_trade_35 : decode cX7_trade 35 = .ok (.iload_n 1, 1) := by decide +kernel
theorem dX7_trade_36 : decode cX7_trade 36 = .ok (.iload_n 3, 1) := by decide +kernel
theorem dX7_trade_37 : decode cX7_trade 37 = .ok (.invokevirtual 105, 3) := by decide +kernel
theorem dX7_trade_40 : decode cX7_trade 40 = .ok (.istore 4, 2) := by decide +kernel
theorem dX7_trade_42 : decode cX7_trade 42 = .ok (.aload_n 0, 1) := by decide +kernel
theorem dX7_trade_43 : decode cX7_trade 43 = .ok (.iload_n 2, 1) := by decide +kernel
theorem dX7_trade_44 : decode cX7_trade 44 = .ok (.iload_n 3, 1) := by decide +kernel
theorem dX7_trade_45 : decode cX7_trade 45 = .ok (.invokevirtual 105, 3) := by decide +kernel
theorem dX7_trade_48 : decode cX7_trade 48 = .ok (.istore 5, 2) := by decide +kernel
theorem dX7_trade_50 : decode cX7_trade 50 = .ok (.iload 4, 2) := by decide +kernel
theorem dX7_trade_52 : decode cX7_trade 52 = .ok (.ifCond .lt 8, 3) := by decide +kernel
theorem dX7_trade_55 : decode cX7_trade 55 = .ok (.iload 5, 2) := by decide +kernel
theorem dX7_trade_57 : decode cX7_trade 57 = .ok (.ifCond .ge 9, 3) := by decide +kernel
theorem dX7_trade_60 : decode cX7_trade 60 = .ok (.aload_n 0, 1) := by decide +kernel
theorem dX7_trade_61 : decode cX7_trade 61 = .ok (.iconst 3, 1) := by decide +kernel
theorem dX7_trade_62 : decode cX7_trade 62 = .ok (.invokevirtual 158, 3) := by decide +kernel
theorem dX7_trade_65 : decode cX7_trade 65 = .ok (.ireturn, 1) := by decide +kernel
theorem dX7_trade_66 : decode cX7_trade 66 = .ok (.aload_n 0, 1) := by decide +kernel
theorem dX7_trade_67 : decode cX7_trade 67 = .ok (.iload_n 1, 1) := by decide +kernel
theorem dX7_trade_68 : decode cX7_trade 68 = .ok (.iload_n 3, 1) := by decide +kernel
theorem dX7_trade_69 : decode cX7_trade 69 = .ok (.iload 5, 2) := by decide +kernel
theorem dX7_trade_71 : decode cX7_trade 71 = .ok (.invokevirtual 133, 3) := by decide +kernel
theorem dX7_trade_74 : decode cX7_trade 74 = .ok (.ifCond .ne 14, 3) := by decide +kernel
theorem dX7_trade_77 : decode cX7_trade 77 = .ok (.aload_n 0, 1) := by decide +kernel
theorem dX7_trade_78 : decode cX7_trade 78 = .ok (.iload_n 2, 1) := by decide +kernel
theorem dX7_trade_79 : decode cX7_trade 79 = .ok (.iload_n 3, 1) := by decide +kernel
theorem dX7_trade_80 : decode cX7_trade 80 = .ok (.iload 4, 2) := by decide +kernel
theorem dX7_trade_82 : decode cX7_trade 82 = .ok (.invokevirtual 133, 3) := by decide +kernel
theorem dX7_trade_85 : decode cX7_trade 85 = .ok (.ifCond .eq 9, 3) := by decide +kernel
theorem dX7_trade_88 : decode cX7_trade 88 = .ok (.aload_n 0, 1) := by decide +kernel
theorem dX7_trade_89 : decode cX7_trade 89 = .ok (.iconst 4, 1) := by decide +kernel
theorem dX7_trade_90 : decode cX7_trade 90 = .ok (.invokevirtual 158, 3) := by decide +kernel
theorem dX7_trade_93 : decode cX7_trade 93 = .ok (.ireturn, 1) := by decide +kernel
theorem dX7_trade_94 : decode cX7_trade 94 = .ok (.aload_n 0, 1) := by decide +kernel
theorem dX7_trade_95 : decode cX7_trade 95 = .ok (.invokevirtual 161, 3) := by decide +kernel
theorem dX7_trade_98 : decode cX7_trade 98 = .ok (.aload_n 0, 1) := by decide +kernel
theorem dX7_trade_99 : decode cX7_trade 99 = .ok (.iload_n 1, 1) := by decide +kernel
theorem dX7_trade_100 : decode cX7_trade 100 = .ok (.iload_n 3, 1) := by decide +kernel
theorem dX7_trade_101 : decode cX7_trade 101 = .ok (.iload 5, 2) := by decide +kernel
theorem dX7_trade_103 : decode cX7_trade 103 = .ok (.invokevirtual 174, 3) := by decide +kernel
theorem dX7_trade_106 : decode cX7_trade 106 = .ok (.aload_n 0, 1) := by decide +kernel
theorem dX7_trade_107 : decode cX7_trade 107 = .ok (.iload_n 2, 1) := by decide +kernel
theorem dX7_trade_108 : decode cX7_trade 108 = .ok (.iload_n 3, 1) := by decide +kernel
theorem dX7_trade_109 : decode cX7_trade 109 = .ok (.iload 4, 2) := by decide +kernel
theorem dX7_trade_111 : decode cX7_trade 111 = .ok (.invokevirtual 174, 3) := by decide +kernel
theorem dX7_trade_114 : decode cX7_trade 114 = .ok (.aload_n 0, 1) := by decide +kernel
theorem dX7_trade_115 : decode cX7_trade 115 = .ok (.invokevirtual 168, 3) := by decide +kernel
theorem dX7_trade_118 : decode cX7_trade 118 = .ok (.iconst 1, 1) := by decide +kernel
theorem dX7_trade_119 : decode cX7_trade 119 = .ok (.ireturn, 1) := by decide +kernel
def gX7_trade_28 (s : Mem)  : Option (Int32 × Mem) :=
  (fX7_finds s (0 : Int32)).bind (fun y2 => some ((y2.1, y2.2)))
set_option maxRecDepth 4000 in
theorem jgX7_trade_28 {X : Scr} (d : Nat) (s : Mem)  {r : (Int32 × Mem)} {w : Option Value} {s' : Mem} (hh : gX7_trade_28 s = some r) (hk : w = some (.int r.1) ∧ r.2 = s') : J X MX7_trade (d + 7) 28 [some (.ref 19), none, none, none, none, none] [] s w s' := by
  unfold gX7_trade_28 at hh
  refine J_aload_n (pc := 28) dX7_trade_28 rfl ?_
  refine J_iconst (pc := 29) dX7_trade_29 ci_0 ?_
  obtain ⟨y2, hy2, hh⟩ := bd_some hh
  refine J_callVi (pc := 30) (M' := MX7_finds) (a := 19) (rest := []) (As := [.int (0 : Int32)]) (L0 := [some (.ref 19), some (.int (0 : Int32))]) okX7_finds ovX7_finds mlX7_158 clX7 so19 rfl rfl (Nat.le_of_ble_eq_true rfl) dX7_trade_30 rfl (Nat.le_of_ble_eq_true rfl) (jX7_finds (X := X) (d + 6) s (0 : Int32) hy2) ?_
  obtain rfl := Option.some.inj hh
  obtain ⟨rfl, rfl⟩ := hk
  exact J_ret (w := some (.int y2.1)) ⟨dX7_trade_33, _, rfl, rfl⟩
def gX7_trade_60 (s : Mem)  : Option (Int32 × Mem) :=
  (fX7_finds s (3 : Int32)).bind (fun y7 => some ((y7.1, y7.2)))
set_option maxRecDepth 4000 in
theorem jgX7_trade_60 {X : Scr} (d : Nat) (s : Mem)  {r : (Int32 × Mem)} {w : Option Value} {s' : Mem} (hh : gX7_trade_60 s = some r) (hk : w = some (.int r.1) ∧ r.2 = s') : J X MX7_trade (d + 7) 60 [some (.ref 19), none, none, none, none, none] [] s w s' := by
  unfold gX7_trade_60 at hh
  refine J_aload_n (pc := 60) dX7_trade_60 rfl ?_
  refine J_iconst (pc := 61) dX7_trade_61 ci_3 ?_
  obtain ⟨y7, hy7, hh⟩ := bd_some hh
  refine J_callVi (pc := 62) (M' := MX7_finds) (a := 19) (rest := []) (As := [.int (3 : Int32)]) (L0 := [some (.ref 19), some (.int (3 : Int32))]) okX7_finds ovX7_finds mlX7_158 clX7 so19 rfl rfl (Nat.le_of_ble_eq_true rfl) dX7_trade_62 rfl (Nat.le_of_ble_eq_true rfl) (jX7_finds (X := X) (d + 6) s (3 : Int32) hy7) ?_
  obtain rfl := Option.some.inj hh
  obtain ⟨rfl, rfl⟩ := hk
  exact J_ret (w := some (.int y7.1)) ⟨dX7_trade_65, _, rfl, rfl⟩
def gX7_trade_88 (s : Mem)  : Option (Int32 × Mem) :=
  (fX7_finds s (4 : Int32)).bind (fun y9 => some ((y9.1, y9.2)))
set_option maxRecDepth 4000 in
theorem jgX7_trade_88 {X : Scr} (d : Nat) (s : Mem)  {r : (Int32 × Mem)} {w : Option Value} {s' : Mem} (hh : gX7_trade_88 s = some r) (hk : w = some (.int r.1) ∧ r.2 = s') : J X MX7_trade (d + 7) 88 [some (.ref 19), none, none, none, none, none] [] s w s' := by
  unfold gX7_trade_88 at hh
  refine J_aload_n (pc := 88) dX7_trade_88 rfl ?_
  refine J_iconst (pc := 89) dX7_trade_89 ci_4 ?_
  obtain ⟨y9, hy9, hh⟩ := bd_some hh
  refine J_callVi (pc := 90) (M' := MX7_finds) (a := 19) (rest := []) (As := [.int (4 : Int32)]) (L0 := [some (.ref 19), some (.int (4 : Int32))]) okX7_finds ovX7_finds mlX7_158 clX7 so19 rfl rfl (Nat.le_of_ble_eq_true rfl) dX7_trade_90 rfl (Nat.le_of_ble_eq_true rfl) (jX7_finds (X := X) (d + 6) s (4 : Int32) hy9) ?_
  obtain rfl := Option.some.inj hh
  obtain ⟨rfl, rfl⟩ := hk
  exact J_ret (w := some (.int y9.1)) ⟨dX7_trade_93, _, rfl, rfl⟩
def fX7_trade (s : Mem) (p0 : Int32) (p1 : Int32) (p2 : Int32) : Option (Int32 × Mem) :=
  (fX7_isPupil s p0).bind (fun y1 => if y1 = (0 : Int32) then gX7_trade_28 s else (fX7_isPupil s p1).bind (fun y3 => if y3 = (0 : Int32) then gX7_trade_28 s else if p0 = p1 then gX7_trade_28 s else (fX7_isCourse p2).bind (fun y4 => if y4 = (0 : Int32) then gX7_trade_28 s else (fX7_triple s p0 p2).bind (fun y5 => (fX7_triple s p1 p2).bind (fun y6 => if y5 < (0 : Int32) then gX7_trade_60 s else if (0 : Int32) ≤ y6 then (fX7_clashes s p0 p2 y6).bind (fun y8 => if y8 = (0 : Int32) then (fX7_clashes s p1 p2 y5).bind (fun y10 => if y10 = (0 : Int32) then (fX7_laysAside s).bind (fun y11 => (fX7_puts y11 p0 p2 y6).bind (fun y12 => (fX7_puts y12 p1 p2 y5).bind (fun y13 => (fX7_changes y13).bind (fun y14 => some (((1 : Int32), y14)))))) else gX7_trade_88 s) else gX7_trade_88 s) else gX7_trade_60 s)))))
set_option maxRecDepth 4000 in
theorem jjX7_trade {X : Scr} (d : Nat) (s : Mem) (p0 : Int32) (p1 : Int32) (p2 : Int32) {r : (Int32 × Mem)} {w : Option Value} {s' : Mem} (hh : fX7_trade s p0 p1 p2 = some r) (hk : w = some (.int r.1) ∧ r.2 = s') : J X MX7_trade (d + 7) 0 [some (.ref 19), some (.int p0), some (.int p1), some (.int p2), none, none] [] s w s' := by
  unfold fX7_trade at hh
  refine J_aload_n (pc := 0) dX7_trade_0 rfl ?_
  refine J_iload_n (pc := 1) dX7_trade_1 rfl ?_
  obtain ⟨y1, hy1, hh⟩ := bd_some hh
  refine J_callVi (pc := 2) (M' := MX7_isPupil) (a := 19) (rest := []) (As := [.int p0]) (L0 := [some (.ref 19), some (.int p0)]) okX7_isPupil ovX7_isPupil mlX7_196 clX7 so19 rfl rfl (Nat.le_of_ble_eq_true rfl) dX7_trade_2 rfl (Nat.le_of_ble_eq_true rfl) (jX7_isPupil (X := X) (d + 5) s p0 hy1) ?_
  refine J_if_eq (pc := 5) 28 dX7_trade_5 (by decide) (fun c22 => ?_) (fun c22 => ?_)
  · replace hh := (if_pos c22).symm.trans hh
    refine J_drop 1 (L' := [some (.ref 19), none, some (.int p1), some (.int p2), none, none]) rfl ?_
    refine J_drop 2 (L' := [some (.ref 19), none, none, some (.int p2), none, none]) rfl ?_
    refine J_drop 3 (L' := [some (.ref 19), none, none, none, none, none]) rfl ?_
    exact jgX7_trade_28 d s hh hk
  · replace hh := (if_neg c22).symm.trans hh
    refine J_aload_n (pc := 8) dX7_trade_8 rfl ?_
    refine J_iload_n (pc := 9) dX7_trade_9 rfl ?_
    obtain ⟨y3, hy3, hh⟩ := bd_some hh
    refine J_callVi (pc := 10) (M' := MX7_isPupil) (a := 19) (rest := []) (As := [.int p1]) (L0 := [some (.ref 19), some (.int p1)]) okX7_isPupil ovX7_isPupil mlX7_196 clX7 so19 rfl rfl (Nat.le_of_ble_eq_true rfl) dX7_trade_10 rfl (Nat.le_of_ble_eq_true rfl) (jX7_isPupil (X := X) (d + 5) s p1 hy3) ?_
    refine J_if_eq (pc := 13) 28 dX7_trade_13 (by decide) (fun c21 => ?_) (fun c21 => ?_)
    · replace hh := (if_pos c21).symm.trans hh
      refine J_drop 1 (L' := [some (.ref 19), none, some (.int p1), some (.int p2), none, none]) rfl ?_
      refine J_drop 2 (L' := [some (.ref 19), none, none, some (.int p2), none, none]) rfl ?_
      refine J_drop 3 (L' := [some (.ref 19), none, none, none, none, none]) rfl ?_
      exact jgX7_trade_28 d s hh hk
    · replace hh := (if_neg c21).symm.trans hh
      refine J_iload_n (pc := 16) dX7_trade_16 rfl ?_
      refine J_iload_n (pc := 17) dX7_trade_17 rfl ?_
      refine J_icmp_eq (pc := 18) 28 dX7_trade_18 (by decide) (fun c20 => ?_) (fun c20 => ?_)
      · replace hh := (if_pos c20).symm.trans hh
        refine J_drop 1 (L' := [some (.ref 19), none, some (.int p1), some (.int p2), none, none]) rfl ?_
        refine J_drop 2 (L' := [some (.ref 19), none, none, some (.int p2), none, none]) rfl ?_
        refine J_drop 3 (L' := [some (.ref 19), none, none, none, none, none]) rfl ?_
        exact jgX7_trade_28 d s hh hk
      · replace hh := (if_neg c20).symm.trans hh
        refine J_iload_n (pc := 21) dX7_trade_21 rfl ?_
        obtain ⟨y4, hy4, hh⟩ := bd_some hh
        refine J_callSi (pc := 22) (M' := MX7_isCourse) (rest := []) (As := [.int p2]) (L0 := [some (.int p2)]) okX7_isCourse osX7_isCourse mlX7_139 rfl rfl (Nat.le_of_ble_eq_true rfl) dX7_trade_22 rfl (Nat.le_of_ble_eq_true rfl) (jX7_isCourse (X := X) (d + 5) s p2 hy4) ?_
        refine J_if_ne (pc := 25) 34 dX7_trade_25 (by decide) (fun c19 => ?_) (fun c19 => ?_)
        · replace hh := (if_neg c19).symm.trans hh
          refine J_aload_n (pc := 34) dX7_trade_34 rfl ?_
          refine J_iload_n (pc := 35) dX7_trade_35 rfl ?_
          refine J_iload_n (pc := 36) dX7_trade_36 rfl ?_
          obtain ⟨y5, hy5, hh⟩ := bd_some hh
          refine J_callVi (pc := 37) (M' := MX7_triple) (a := 19) (rest := []) (As := [.int p0, .int p2]) (L0 := [some (.ref 19), some (.int p0), some (.int p2)]) okX7_triple ovX7_triple mlX7_105 clX7 so19 rfl rfl (Nat.le_of_ble_eq_true rfl) dX7_trade_37 rfl (Nat.le_of_ble_eq_true rfl) (jX7_triple (X := X) (d + 6) s p0 p2 hy5) ?_
          refine J_istore (pc := 40) (L' := [some (.ref 19), some (.int p0), some (.int p1), some (.int p2), some (.int y5), none]) dX7_trade_40 rfl (Nat.le_of_ble_eq_true rfl) rfl ?_
          refine J_aload_n (pc := 42) dX7_trade_42 rfl ?_
          refine J_iload_n (pc := 43) dX7_trade_43 rfl ?_
          refine J_iload_n (pc := 44) dX7_trade_44 rfl ?_
          obtain ⟨y6, hy6, hh⟩ := bd_some hh
          refine J_callVi (pc := 45) (M' := MX7_triple) (a := 19) (rest := []) (As := [.int p1, .int p2]) (L0 := [some (.ref 19), some (.int p1), some (.int p2)]) okX7_triple ovX7_triple mlX7_105 clX7 so19 rfl rfl (Nat.le_of_ble_eq_true rfl) dX7_trade_45 rfl (Nat.le_of_ble_eq_true rfl) (jX7_triple (X := X) (d + 6) s p1 p2 hy6) ?_
          refine J_istore (pc := 48) (L' := [some (.ref 19), some (.int p0), some (.int p1), some (.int p2), some (.int y5), some (.int y6)]) dX7_trade_48 rfl (Nat.le_of_ble_eq_true rfl) rfl ?_
          refine J_iload (pc := 50) dX7_trade_50 rfl ?_
          refine J_if_lt (pc := 52) 60 dX7_trade_52 (by decide) (fun c18 => ?_) (fun c18 => ?_)
          · replace hh := (if_pos c18).symm.trans hh
            refine J_drop 1 (L' := [some (.ref 19), none, some (.int p1), some (.int p2), some (.int y5), some (.int y6)]) rfl ?_
            refine J_drop 2 (L' := [some (.ref 19), none, none, some (.int p2), some (.int y5), some (.int y6)]) rfl ?_
            refine J_drop 3 (L' := [some (.ref 19), none, none, none, some (.int y5), some (.int y6)]) rfl ?_
            refine J_drop 4 (L' := [some (.ref 19), none, none, none, none, some (.int y6)]) rfl ?_
            refine J_drop 5 (L' := [some (.ref 19), none, none, none, none, none]) rfl ?_
            exact jgX7_trade_60 d s hh hk
          · replace hh := (if_neg c18).symm.trans hh
            refine J_iload (pc := 55) dX7_trade_55 rfl ?_
            refine J_if_ge (pc := 57) 66 dX7_trade_57 (by decide) (fun c17 => ?_) (fun c17 => ?_)
            · replace hh := (if_pos c17).symm.trans hh
              refine J_aload_n (pc := 66) dX7_trade_66 rfl ?_
              refine J_iload_n (pc := 67) dX7_trade_67 rfl ?_
              refine J_iload_n (pc := 68) dX7_trade_68 rfl ?_
              refine J_iload (pc := 69) dX7_trade_69 rfl ?_
              obtain ⟨y8, hy8, hh⟩ := bd_some hh
              refine J_callVi (pc := 71) (M' := MX7_clashes) (a := 19) (rest := []) (As := [.int p0, .int p2, .int y6]) (L0 := [some (.ref 19), some (.int p0), some (.int p2), some (.int y6)]) okX7_clashes ovX7_clashes mlX7_133 clX7 so19 rfl rfl (Nat.le_of_ble_eq_true rfl) dX7_trade_71 rfl (Nat.le_of_ble_eq_true rfl) (jX7_clashes (X := X) d s p0 p2 y6 hy8) ?_
              refine J_if_ne (pc := 74) 88 dX7_trade_74 (by decide) (fun c16 => ?_) (fun c16 => ?_)
              · replace hh := (if_neg c16).symm.trans hh
                refine J_drop 1 (L' := [some (.ref 19), none, some (.int p1), some (.int p2), some (.int y5), some (.int y6)]) rfl ?_
                refine J_drop 2 (L' := [some (.ref 19), none, none, some (.int p2), some (.int y5), some (.int y6)]) rfl ?_
                refine J_drop 3 (L' := [some (.ref 19), none, none, none, some (.int y5), some (.int y6)]) rfl ?_
                refine J_drop 4 (L' := [some (.ref 19), none, none, none, none, some (.int y6)]) rfl ?_
                refine J_drop 5 (L' := [some (.ref 19), none, none, none, none, none]) rfl ?_
                exact jgX7_trade_88 d s hh hk
              · replace hh := (if_pos c16).symm.trans hh
                refine J_aload_n (pc := 77) dX7_trade_77 rfl ?_
                refine J_iload_n (pc := 78) dX7_trade_78 rfl ?_
                refine J_iload_n (pc := 79) dX7_trade_79 rfl ?_
                refine J_iload (pc := 80) dX7_trade_80 rfl ?_
                obtain ⟨y10, hy10, hh⟩ := bd_some hh
                refine J_callVi (pc := 82) (M' := MX7_clashes) (a := 19) (rest := []) (As := [.int p1, .int p2, .int y5]) (L0 := [some (.ref 19), some (.int p1), some (.int p2), some (.int y5)]) okX7_clashes ovX7_clashes mlX7_133 clX7 so19 rfl rfl (Nat.le_of_ble_eq_true rfl) dX7_trade_82 rfl (Nat.le_of_ble_eq_true rfl) (jX7_clashes (X := X) d s p1 p2 y5 hy10) ?_
                refine J_if_eq (pc := 85) 94 dX7_trade_85 (by decide) (fun c15 => ?_) (fun c15 => ?_)
                · replace hh := (if_pos c15).symm.trans hh
                  refine J_aload_n (pc := 94) dX7_trade_94 rfl ?_
                  obtain ⟨y11, hy11, hh⟩ := bd_some hh
                  refine J_callV0 (pc := 95) (M' := MX7_laysAside) (a := 19) (rest := []) (As := []) (L0 := [some (.ref 19), none]) okX7_laysAside ovX7_laysAside mlX7_161 clX7 so19 rfl rfl (Nat.le_of_ble_eq_true rfl) dX7_trade_95 rfl (Nat.le_of_ble_eq_true rfl) (jX7_laysAside (X := X) (d + 6) s hy11) ?_
                  refine J_aload_n (pc := 98) dX7_trade_98 rfl ?_
                  refine J_iload_n (pc := 99) dX7_trade_99 rfl ?_
                  refine J_iload_n (pc := 100) dX7_trade_100 rfl ?_
                  refine J_iload (pc := 101) dX7_trade_101 rfl ?_
                  obtain ⟨y12, hy12, hh⟩ := bd_some hh
                  refine J_callV0 (pc := 103) (M' := MX7_puts) (a := 19) (rest := []) (As := [.int p0, .int p2, .int y6]) (L0 := [some (.ref 19), some (.int p0), some (.int p2), some (.int y6)]) okX7_puts ovX7_puts mlX7_174 clX7 so19 rfl rfl (Nat.le_of_ble_eq_true rfl) dX7_trade_103 rfl (Nat.le_of_ble_eq_true rfl) (jX7_puts (X := X) (d + 6) y11 p0 p2 y6 hy12) ?_
                  refine J_aload_n (pc := 106) dX7_trade_106 rfl ?_
                  refine J_iload_n (pc := 107) dX7_trade_107 rfl ?_
                  refine J_iload_n (pc := 108) dX7_trade_108 rfl ?_
                  refine J_iload (pc := 109) dX7_trade_109 rfl ?_
                  obtain ⟨y13, hy13, hh⟩ := bd_some hh
                  refine J_callV0 (pc := 111) (M' := MX7_puts) (a := 19) (rest := []) (As := [.int p1, .int p2, .int y5]) (L0 := [some (.ref 19), some (.int p1), some (.int p2), some (.int y5)]) okX7_puts ovX7_puts mlX7_174 clX7 so19 rfl rfl (Nat.le_of_ble_eq_true rfl) dX7_trade_111 rfl (Nat.le_of_ble_eq_true rfl) (jX7_puts (X := X) (d + 6) y12 p1 p2 y5 hy13) ?_
                  refine J_aload_n (pc := 114) dX7_trade_114 rfl ?_
                  obtain ⟨y14, hy14, hh⟩ := bd_some hh
                  refine J_callV0 (pc := 115) (M' := MX7_changes) (a := 19) (rest := []) (As := []) (L0 := [some (.ref 19), none, none]) okX7_changes ovX7_changes mlX7_168 clX7 so19 rfl rfl (Nat.le_of_ble_eq_true rfl) dX7_trade_115 rfl (Nat.le_of_ble_eq_true rfl) (jX7_changes (X := X) (d + 6) y13 hy14) ?_
                  refine J_iconst (pc := 118) dX7_trade_118 ci_1 ?_
                  obtain rfl := Option.some.inj hh
                  obtain ⟨rfl, rfl⟩ := hk
                  exact J_ret (w := some (.int (1 : Int32))) ⟨dX7_trade_119, _, rfl, rfl⟩
                · replace hh := (if_neg c15).symm.trans hh
                  refine J_drop 1 (L' := [some (.ref 19), none, some (.int p1), some (.int p2), some (.int y5), some (.int y6)]) rfl ?_
                  refine J_drop 2 (L' := [some (.ref 19), none, none, some (.int p2), some (.int y5), some (.int y6)]) rfl ?_
                  refine J_drop 3 (L' := [some (.ref 19), none, none, none, some (.int y5), some (.int y6)]) rfl ?_
                  refine J_drop 4 (L' := [some (.ref 19), none, none, none, none, some (.int y6)]) rfl ?_
                  refine J_drop 5 (L' := [some (.ref 19), none, none, none, none, none]) rfl ?_
                  exact jgX7_trade_88 d s hh hk
            · replace hh := (if_neg c17).symm.trans hh
              refine J_drop 1 (L' := [some (.ref 19), none, some (.int p1), some (.int p2), some (.int y5), some (.int y6)]) rfl ?_
              refine J_drop 2 (L' := [some (.ref 19), none, none, some (.int p2), some (.int y5), some (.int y6)]) rfl ?_
              refine J_drop 3 (L' := [some (.ref 19), none, none, none, some (.int y5), some (.int y6)]) rfl ?_
              refine J_drop 4 (L' := [some (.ref 19), none, none, none, none, some (.int y6)]) rfl ?_
              refine J_drop 5 (L' := [some (.ref 19), none, none, none, none, none]) rfl ?_
              exact jgX7_trade_60 d s hh hk
        · replace hh := (if_pos c19).symm.trans hh
          refine J_drop 1 (L' := [some (.ref 19), none, some (.int p1), some (.int p2), none, none]) rfl ?_
          refine J_drop 2 (L' := [some (.ref 19), none, none, some (.int p2), none, none]) rfl ?_
          refine J_drop 3 (L' := [some (.ref 19), none, none, none, none, none]) rfl ?_
          exact jgX7_trade_28 d s hh hk
theorem jX7_trade {X : Scr} (d : Nat) (s : Mem) (p0 : Int32) (p1 : Int32) (p2 : Int32) {r : (Int32 × Mem)} (hh : fX7_trade s p0 p1 p2 = some r) : J X MX7_trade (d + 7) 0 [some (.ref 19), some (.int p0), some (.int p1), some (.int p2), none, none] [] s (some (.int r.1)) r.2 := jjX7_trade d s p0 p1 p2 hh ⟨rfl, rfl⟩
theorem dX7_sits_0 : decode cX7_sits 0 = .ok (.iconst 0, 1) := by decide +kernel
theorem dX7_sits_1 : decode cX7_sits 1 = .ok (.istore 4, 2) := by decide +kernel
theorem dX7_sits_3 : decode cX7_sits 3 = .ok (.iload 4, 2) := by decide +kernel
theorem dX7_sits_5 : decode cX7_sits 5 = .ok (.iconst 3, 1) := by decide +kernel
theorem dX7_sits_6 : decode cX7_sits 6 = .ok (.if_icmp .ge 40, 3) := by decide +kernel
theorem dX7_sits_9 : decode cX7_sits 9 = .ok (.aload_n 0, 1) := by decide +kernel
theorem dX7_sits_10 : decode cX7_sits 10 = .ok (.iload_n 1, 1) := by decide +kernel
theorem dX7_sits_11 : decode cX7_sits 11 = .ok (.iload_n 2, 1) := by decide +kernel
theorem dX7_sits_12 : decode cX7_sits 12 = .ok (.iload 4, 2) := by decide +kernel
theorem dX7_sits_14 : decode cX7_sits 14 = .ok (.invokevirtual 89, 3) := by decide +kernel
theorem dX7_sits_17 : decode cX7_sits 17 = .ok (.ifCond .eq 23, 3) := by decide +kernel
theorem dX7_sits_20 : decode cX7_sits 20 = .ok (.aload_n 0, 1) := by decide +kernel
theorem dX7_sits_21 : decode cX7_sits 21 = .ok (.getfield 34, 3) := by decide +kernel
theorem dX7_sits_24 : decode cX7_sits 24 = .ok (.iconst 2, 1) := by decide +kernel
theorem dX7_sits_25 : decode cX7_sits 25 = .ok (.iload 4, 2) := by decide +kernel
theorem dX7_sits_27 : decode cX7_sits 27 = .ok (.imul, 1) := by decide +kernel
theorem dX7_sits_28 : decode cX7_sits 28 = .ok (.iload_n 2, 1) := by decide +kernel
theorem dX7_sits_29 : decode cX7_sits 29 = .ok (.iload 4, 2) := by decide +kernel
theorem dX7_sits_31 : decode cX7_sits 31 = .ok (.invokestatic 81, 3) := by decide +kernel
theorem dX7_sits_34 : decode cX7_sits 34 = .ok (.iadd, 1) := by decide +kernel
theorem dX7_sits_35 : decode cX7_sits 35 = .ok (.dup2, 1) := by decide +kernel
theorem dX7_sits_36 : decode cX7_sits 36 = .ok (.iaload, 1) := by decide +kernel
theorem dX7_sits_37 : decode cX7_sits 37 = .ok (.iload_n 3, 1) := by decide +kernel
theorem dX7_sits_38 : decode cX7_sits 38 = .ok (.iadd, 1) := by decide +kernel
theorem dX7_sits_39 : decode cX7_sits 39 = .ok (.iastore, 1) := by decide +kernel
theorem dX7_sits_40 : decode cX7_sits 40 = .ok (.iinc 4 1, 3) := by decide +kernel
theorem dX7_sits_43 : decode cX7_sits 43 = .ok (.goto (-40), 3) := by decide +kernel
theorem dX7_sits_46 : decode cX7_sits 46 = .ok (.return_, 1) := by decide +kernel
def bX7_sits_3 (s : Mem) (v1 : Int32) (v2 : Int32) (v3 : Int32) (v4 : Int32) : Option (Mem ⊕ (Int32 × Mem)) :=
  if (3 : Int32) ≤ v4 then some (Sum.inl s) else (fX7_counts s v1 v2 v4).bind (fun y1 => if y1 = (0 : Int32) then lt (v4 + (1 : Int32)) (fun x2 => some (Sum.inr (x2, s))) else (fX7_part v2 v4).bind (fun y3 => gd (((2 : Int32) * v4) + y3) 6 (gd (((2 : Int32) * v4) + y3) 6 (lt (up2 s 26 (((2 : Int32) * v4) + y3).toNatClampNeg ((s.1 26 (((2 : Int32) * v4) + y3).toNatClampNeg) + v3)) (fun s6 => lt (v4 + (1 : Int32)) (fun x7 => some (Sum.inr (x7, s6))))))))
set_option maxRecDepth 4000 in
theorem jbX7_sits_3 {X : Scr} (d : Nat) (s : Mem) (v1 : Int32) (v2 : Int32) (v3 : Int32) (v4 : Int32) {r : (Mem ⊕ (Int32 × Mem))} {w : Option Value} {s' : Mem} (hh : bX7_sits_3 s v1 v2 v3 v4 = some r) (hk : Sum.elim (fun t : Mem => J X MX7_sits (d + 3) 46 [none, none, none, none, none] [] t w s') (fun a : (Int32 × Mem) => J X MX7_sits (d + 3) 3 [some (.ref 19), some (.int v1), some (.int v2), some (.int v3), some (.int a.1)] [] a.2 w s') r) : J X MX7_sits (d + 3) 3 [some (.ref 19), some (.int v1), some (.int v2), some (.int v3), some (.int v4)] [] s w s' := by
  unfold bX7_sits_3 at hh
  refine J_iload (pc := 3) dX7_sits_3 rfl ?_
  refine J_iconst (pc := 5) dX7_sits_5 ci_3 ?_
  refine J_icmp_ge (pc := 6) 46 dX7_sits_6 (by decide) (fun c9 => ?_) (fun c9 => ?_)
  · replace hh := (if_pos c9).symm.trans hh
    refine J_drop 0 (L' := [none, some (.int v1), some (.int v2), some (.int v3), some (.int v4)]) rfl ?_
    refine J_drop 1 (L' := [none, none, some (.int v2), some (.int v3), some (.int v4)]) rfl ?_
    refine J_drop 2 (L' := [none, none, none, some (.int v3), some (.int v4)]) rfl ?_
    refine J_drop 3 (L' := [none, none, none, none, some (.int v4)]) rfl ?_
    refine J_drop 4 (L' := [none, none, none, none, none]) rfl ?_
    obtain rfl := Option.some.inj hh
    exact hk
  · replace hh := (if_neg c9).symm.trans hh
    refine J_aload_n (pc := 9) dX7_sits_9 rfl ?_
    refine J_iload_n (pc := 10) dX7_sits_10 rfl ?_
    refine J_iload_n (pc := 11) dX7_sits_11 rfl ?_
    refine J_iload (pc := 12) dX7_sits_12 rfl ?_
    obtain ⟨y1, hy1, hh⟩ := bd_some hh
    refine J_callVi (pc := 14) (M' := MX7_counts) (a := 19) (rest := []) (As := [.int v1, .int v2, .int v4]) (L0 := [some (.ref 19), some (.int v1), some (.int v2), some (.int v4)]) okX7_counts ovX7_counts mlX7_89 clX7 so19 rfl rfl (Nat.le_of_ble_eq_true rfl) dX7_sits_14 rfl (Nat.le_of_ble_eq_true rfl) (jX7_counts (X := X) d s v1 v2 v4 hy1) ?_
    refine J_if_eq (pc := 17) 40 dX7_sits_17 (by decide) (fun c8 => ?_) (fun c8 => ?_)
    · replace hh := (if_pos c8).symm.trans hh
      refine J_iincL (pc := 40) (v := v4 + (1 : Int32)) (fun x2 => [some (.ref 19), some (.int v1), some (.int v2), some (.int v3), some (.int x2)]) dX7_sits_40 rfl rfl (Nat.le_of_ble_eq_true rfl) (congrArg _ ci_1) (fun _ => rfl) hh (fun x2 hh => ?_)
      refine J_goto (pc := 43) 3 dX7_sits_43 (by decide) ?_
      obtain rfl := Option.some.inj hh
      exact hk
    · replace hh := (if_neg c8).symm.trans hh
      refine J_aload_n (pc := 20) dX7_sits_20 rfl ?_
      refine J_getR (pc := 21) (k := 9) flX7_34 so19 fk19_9 dX7_sits_21 ?_
      refine J_iconst (pc := 24) dX7_sits_24 ci_2 ?_
      refine J_iload (pc := 25) dX7_sits_25 rfl ?_
      refine J_imul (pc := 27) dX7_sits_27 ?_
      refine J_iload_n (pc := 28) dX7_sits_28 rfl ?_
      refine J_iload (pc := 29) dX7_sits_29 rfl ?_
      obtain ⟨y3, hy3, hh⟩ := bd_some hh
      refine J_callSi (pc := 31) (M' := MX7_part) (rest := [.int ((2 : Int32) * v4), .ref 26]) (As := [.int v2, .int v4]) (L0 := [some (.int v2), some (.int v4)]) okX7_part osX7_part mlX7_81 rfl rfl (Nat.le_of_ble_eq_true rfl) dX7_sits_31 rfl (Nat.le_of_ble_eq_true rfl) (jX7_part (X := X) (d + 2) s v2 v4 hy3) ?_
      refine J_iadd (pc := 34) dX7_sits_34 ?_
      refine J_dup2 (pc := 35) dX7_sits_35 rfl rfl ?_
      obtain ⟨h4, hh⟩ := gd_some hh
      refine J_iald (pc := 36) dX7_sits_36 sa26 h4 ?_
      refine J_iload_n (pc := 37) dX7_sits_37 rfl ?_
      refine J_iadd (pc := 38) dX7_sits_38 ?_
      obtain ⟨h5, hh⟩ := gd_some hh
      refine J_iastL (pc := 39) dX7_sits_39 sa26 h5 hh (fun s6 hh => ?_)
      refine J_iincL (pc := 40) (v := v4 + (1 : Int32)) (fun x7 => [some (.ref 19), some (.int v1), some (.int v2), some (.int v3), some (.int x7)]) dX7_sits_40 rfl rfl (Nat.le_of_ble_eq_true rfl) (congrArg _ ci_1) (fun _ => rfl) hh (fun x7 hh => ?_)
      refine J_goto (pc := 43) 3 dX7_sits_43 (by decide) ?_
      obtain rfl := Option.some.inj hh
      exact hk
def fX7_sits (s : Mem) (p0 : Int32) (p1 : Int32) (p2 : Int32) : Option Mem :=
  (lp (fun a => bX7_sits_3 a.2 p0 p1 p2 a.1) 600 ((0 : Int32), s)).bind (fun y10 => some y10)
set_option maxRecDepth 4000 in
theorem jjX7_sits {X : Scr} (d : Nat) (s : Mem) (p0 : Int32) (p1 : Int32) (p2 : Int32) {r : Mem} {w : Option Value} {s' : Mem} (hh : fX7_sits s p0 p1 p2 = some r) (hk : w = none ∧ r = s') : J X MX7_sits (d + 3) 0 [some (.ref 19), some (.int p0), some (.int p1), some (.int p2), none] [] s w s' := by
  unfold fX7_sits at hh
  refine J_iconst (pc := 0) dX7_sits_0 ci_0 ?_
  refine J_istore (pc := 1) (L' := [some (.ref 19), some (.int p0), some (.int p1), some (.int p2), some (.int (0 : Int32))]) dX7_sits_1 rfl (Nat.le_of_ble_eq_true rfl) rfl ?_
  obtain ⟨y10, hy10, hh⟩ := bd_some hh
  refine J_lp (a := ((0 : Int32), s)) (fun a : (Int32 × Mem) => J X MX7_sits (d + 3) 3 [some (.ref 19), some (.int p0), some (.int p1), some (.int p2), some (.int a.1)] [] a.2 w s') (fun t : Mem => J X MX7_sits (d + 3) 46 [none, none, none, none, none] [] t w s') (fun a q h1 h2 => jbX7_sits_3 d a.2 p0 p1 p2 a.1 h1 h2) hy10 ?_
  obtain rfl := Option.some.inj hh
  obtain ⟨rfl, rfl⟩ := hk
  exact J_ret (w := none) ⟨dX7_sits_46, rfl⟩
theorem jX7_sits {X : Scr} (d : Nat) (s : Mem) (p0 : Int32) (p1 : Int32) (p2 : Int32) {r : Mem} (hh : fX7_sits s p0 p1 p2 = some r) : J X MX7_sits (d + 3) 0 [some (.ref 19), some (.int p0), some (.int p1), some (.int p2), none] [] s (none) r := jjX7_sits d s p0 p1 p2 hh ⟨rfl, rfl⟩
theorem dX7_isFree_0 : decode cX7_isFree 0 = .ok (.iconst 0, 1) := by decide +kernel
theorem dX7_isFree_1 : decode cX7_isFree 1 = .ok (.istore_n 3, 1) := by decide +kernel
theorem dX7_isFree_2 : decode cX7_isFree 2 = .ok (.iload_n 3, 1) := by decide +kernel
theorem dX7_isFree_3 : decode cX7_isFree 3 = .ok (.iconst 3, 1) := by decide +kernel
theorem dX7_isFree_4 : decode cX7_isFree 4 = .ok (.if_icmp .ge 39, 3) := by decide +kernel
theorem dX7_isFree_7 : decode cX7_isFree 7 = .ok (.aload_n 0, 1) := by decide +kernel
theorem dX7_isFree_8 : decode cX7_isFree 8 = .ok (.iload_n 1, 1) := by decide +kernel
theorem dX7_isFree_9 : decode cX7_isFree 9 = .ok (.iload_n 2, 1) := by decide +kernel
theorem dX7_isFree_10 : decode cX7_isFree 10 = .ok (.iload_n 3, 1) := by decide +kernel
theorem dX7_isFree_11 : decode cX7_isFree 11 = .ok (.invokevirtual 89, 3) := by decide +kernel
theorem dX7_isFree_14 : decode cX7_isFree 14 = .ok (.ifCond .eq 23, 3) := by decide +kernel
theorem dX7_isFree_17 : decode cX7_isFree 17 = .ok (.aload_n 0, 1) := by decide +kernel
theorem dX7_isFree_18 : decode cX7_isFree 18 = .ok (.getfield 34, 3) := by decide +kernel
theorem dX7_isFree_21 : decode cX7_isFree 21 = .ok (.iconst 2, 1) := by decide +kernel
theorem dX7_isFree_22 : decode cX7_isFree 22 = .ok (.iload_n 3, 1) := by decide +kernel
theorem dX7_isFree_23 : decode cX7_isFree 23 = .ok (.imul, 1) := by decide +kernel
theorem dX7_isFree_24 : decode cX7_isFree 24 = .ok (.iload_n 2, 1) := by decide +kernel
theorem dX7_isFree_25 : decode cX7_isFree 25 = .ok (.iload_n 3, 1) := by decide +kernel
theorem dX7_isFree_26 : decode cX7_isFree 26 = .ok (.invokestatic 81, 3) := by decide +kernel
theorem dX7_isFree_29 : decode cX7_isFree 29 = .ok (.iadd, 1) := by decide +kernel
theorem dX7_isFree_30 : decode cX7_isFree 30 = .ok (.iaload, 1) := by decide +kernel
theorem dX7_isFree_31 : decode cX7_isFree 31 = .ok (.iconst 1, 1) := by decide +kernel
theorem dX7_isFree_32 : decode cX7_isFree 32 = .ok (.if_icmp .ge 5, 3) := by decide +kernel
theorem dX7_isFree_35 : decode cX7_isFree 35 = .ok (.iconst 0, 1) := by decide +kernel
theorem dX7_isFree_36 : decode cX7_isFree 36 = .ok (.ireturn, 1) := by decide +kernel
theorem dX7_isFree_37 : decode cX7_isFree 37 = .ok (.iinc 3 1, 3) := by decide +kernel
theorem dX7_isFree_40 : decode cX7_isFree 40 = .ok (.goto (-38), 3) := by decide +kernel
theorem dX7_isFree_43 : decode cX7_isFree 43 = .ok (.iconst 1, 1) := by decide +kernel
theorem dX7_isFree_44 : decode cX7_isFree 44 = .ok (.ireturn, 1) := by decide +kernel
def bX7_isFree_2 (s : Mem) (v1 : Int32) (v2 : Int32) (v3 : Int32) : Option ((Int32 ⊕ Unit) ⊕ Int32) :=
  if (3 : Int32) ≤ v3 then some (Sum.inl (Sum.inr ())) else (fX7_counts s v1 v2 v3).bind (fun y1 => if y1 = (0 : Int32) then lt (v3 + (1 : Int32)) (fun x2 => some (Sum.inr x2)) else (fX7_part v2 v3).bind (fun y3 => gd (((2 : Int32) * v3) + y3) 6 (if (1 : Int32) ≤ (s.1 26 (((2 : Int32) * v3) + y3).toNatClampNeg) then lt (v3 + (1 : Int32)) (fun x5 => some (Sum.inr x5)) else some (Sum.inl (Sum.inl (0 : Int32))))))
set_option maxRecDepth 4000 in
theorem jbX7_isFree_2 {X : Scr} (d : Nat) (s : Mem) (v1 : Int32) (v2 : Int32) (v3 : Int32) {r : ((Int32 ⊕ Unit) ⊕ Int32)} {w : Option Value} {s' : Mem} (hh : bX7_isFree_2 s v1 v2 v3 = some r) (hk : Sum.elim (Sum.elim (fun q : Int32 => w = some (.int q) ∧ s = s') (fun t : Unit => J X MX7_isFree (d + 3) 43 [none, none, none, none] [] s w s')) (fun a : Int32 => J X MX7_isFree (d + 3) 2 [some (.ref 19), some (.int v1), some (.int v2), some (.int a)] [] s w s') r) : J X MX7_isFree (d + 3) 2 [some (.ref 19), some (.int v1), some (.int v2), some (.int v3)] [] s w s' := by
  unfold bX7_isFree_2 at hh
  refine J_iload_n (pc := 2) dX7_isFree_2 rfl ?_
  refine J_iconst (pc := 3) dX7_isFree_3 ci_3 ?_
  refine J_icmp_ge (pc := 4) 43 dX7_isFree_4 (by decide) (fun c8 => ?_) (fun c8 => ?_)
  · replace hh := (if_pos c8).symm.trans hh
    refine J_drop 0 (L' := [none, some (.int v1), some (.int v2), some (.int v3)]) rfl ?_
    refine J_drop 1 (L' := [none, none, some (.int v2), some (.int v3)]) rfl ?_
    refine J_drop 2 (L' := [none, none, none, some (.int v3)]) rfl ?_
    refine J_drop 3 (L' := [none, none, none, none]) rfl ?_
    obtain rfl := Option.some.inj hh
    exact hk
  · replace hh := (if_neg c8).symm.trans hh
    refine J_aload_n (pc := 7) dX7_isFree_7 rfl ?_
    refine J_iload_n (pc := 8) dX7_isFree_8 rfl ?_
    refine J_iload_n (pc := 9) dX7_isFree_9 rfl ?_
    refine J_iload_n (pc := 10) dX7_isFree_10 rfl ?_
    obtain ⟨y1, hy1, hh⟩ := bd_some hh
    refine J_callVi (pc := 11) (M' := MX7_counts) (a := 19) (rest := []) (As := [.int v1, .int v2, .int v3]) (L0 := [some (.ref 19), some (.int v1), some (.int v2), some (.int v3)]) okX7_counts ovX7_counts mlX7_89 clX7 so19 rfl rfl (Nat.le_of_ble_eq_true rfl) dX7_isFree_11 rfl (Nat.le_of_ble_eq_true rfl) (jX7_counts (X := X) d s v1 v2 v3 hy1) ?_
    refine J_if_eq (pc := 14) 37 dX7_isFree_14 (by decide) (fun c7 => ?_) (fun c7 => ?_)
    · replace hh := (if_pos c7).symm.trans hh
      refine J_iincL (pc := 37) (v := v3 + (1 : Int32)) (fun x2 => [some (.ref 19), some (.int v1), some (.int v2), some (.int x2)]) dX7_isFree_37 rfl rfl (Nat.le_of_ble_eq_true rfl) (congrArg _ ci_1) (fun _ => rfl) hh (fun x2 hh => ?_)
      refine J_goto (pc := 40) 2 dX7_isFree_40 (by decide) ?_
      obtain rfl := Option.some.inj hh
      exact hk
    · replace hh := (if_neg c7).symm.trans hh
      refine J_aload_n (pc := 17) dX7_isFree_17 rfl ?_
      refine J_getR (pc := 18) (k := 9) flX7_34 so19 fk19_9 dX7_isFree_18 ?_
      refine J_iconst (pc := 21) dX7_isFree_21 ci_2 ?_
      refine J_iload_n (pc := 22) dX7_isFree_22 rfl ?_
      refine J_imul (pc := 23) dX7_isFree_23 ?_
      refine J_iload_n (pc := 24) dX7_isFree_24 rfl ?_
      refine J_iload_n (pc := 25) dX7_isFree_25 rfl ?_
      obtain ⟨y3, hy3, hh⟩ := bd_some hh
      refine J_callSi (pc := 26) (M' := MX7_part) (rest := [.int ((2 : Int32) * v3), .ref 26]) (As := [.int v2, .int v3]) (L0 := [some (.int v2), some (.int v3)]) okX7_part osX7_part mlX7_81 rfl rfl (Nat.le_of_ble_eq_true rfl) dX7_isFree_26 rfl (Nat.le_of_ble_eq_true rfl) (jX7_part (X := X) (d + 2) s v2 v3 hy3) ?_
      refine J_iadd (pc := 29) dX7_isFree_29 ?_
      obtain ⟨h4, hh⟩ := gd_some hh
      refine J_iald (pc := 30) dX7_isFree_30 sa26 h4 ?_
      refine J_iconst (pc := 31) dX7_isFree_31 ci_1 ?_
      refine J_icmp_ge (pc := 32) 37 dX7_isFree_32 (by decide) (fun c6 => ?_) (fun c6 => ?_)
      · replace hh := (if_pos c6).symm.trans hh
        refine J_iincL (pc := 37) (v := v3 + (1 : Int32)) (fun x5 => [some (.ref 19), some (.int v1), some (.int v2), some (.int x5)]) dX7_isFree_37 rfl rfl (Nat.le_of_ble_eq_true rfl) (congrArg _ ci_1) (fun _ => rfl) hh (fun x5 hh => ?_)
        refine J_goto (pc := 40) 2 dX7_isFree_40 (by decide) ?_
        obtain rfl := Option.some.inj hh
        exact hk
      · replace hh := (if_neg c6).symm.trans hh
        refine J_iconst (pc := 35) dX7_isFree_35 ci_0 ?_
        obtain rfl := Option.some.inj hh
        obtain ⟨rfl, rfl⟩ := hk
        exact J_ret (w := some (.int (0 : Int32))) ⟨dX7_isFree_36, _, rfl, rfl⟩
def fX7_isFree (s : Mem) (p0 : Int32) (p1 : Int32) : Option Int32 :=
  (lp (fun a => bX7_isFree_2 s p0 p1 a) 600 (0 : Int32)).bind (fun y9 => Sum.elim (fun q11 => some q11) (fun t10 => some (1 : Int32)) y9)
set_option maxRecDepth 4000 in
theorem jjX7_isFree {X : Scr} (d : Nat) (s : Mem) (p0 : Int32) (p1 : Int32) {r : Int32} {w : Option Value} {s' : Mem} (hh : fX7_isFree s p0 p1 = some r) (hk : w = some (.int r) ∧ s = s') : J X MX7_isFree (d + 3) 0 [some (.ref 19), some (.int p0), some (.int p1), none] [] s w s' := by
  unfold fX7_isFree at hh
  refine J_iconst (pc := 0) dX7_isFree_0 ci_0 ?_
  refine J_istore_n (pc := 1) (L' := [some (.ref 19), some (.int p0), some (.int p1), some (.int (0 : Int32))]) dX7_isFree_1 rfl (Nat.le_of_ble_eq_true rfl) rfl ?_
  obtain ⟨y9, hy9, hh⟩ := bd_some hh
  refine J_lp (a := (0 : Int32)) (fun a : Int32 => J X MX7_isFree (d + 3) 2 [some (.ref 19), some (.int p0), some (.int p1), some (.int a)] [] s w s') (Sum.elim (fun q : Int32 => w = some (.int q) ∧ s = s') (fun t : Unit => J X MX7_isFree (d + 3) 43 [none, none, none, none] [] s w s')) (fun a q h1 h2 => jbX7_isFree_2 d s p0 p1 a h1 h2) hy9 ?_
  cases y9 with
  | inl q11 =>
    obtain rfl := Option.some.inj hh
    exact hk
  | inr t10 =>
    skip
    replace hh : (some (1 : Int32)) = some r := hh
    refine J_iconst (pc := 43) dX7_isFree_43 ci_1 ?_
    obtain rfl := Option.some.inj hh
    obtain ⟨rfl, rfl⟩ := hk
    exact J_ret (w := some (.int (1 : Int32))) ⟨dX7_isFree_44, _, rfl, rfl⟩
theorem jX7_isFree {X : Scr} (d : Nat) (s : Mem) (p0 : Int32) (p1 : Int32) {r : Int32} (hh : fX7_isFree s p0 p1 = some r) : J X MX7_isFree (d + 3) 0 [some (.ref 19), some (.int p0), some (.int p1), none] [] s (some (.int r)) s := jjX7_isFree d s p0 p1 hh ⟨rfl, rfl⟩
theorem dX7_unevenNow_0 : decode cX7_unevenNow 0 = .ok (.iconst 0, 1) := by decide +kernel
theorem dX7_unevenNow_1 : decode cX7_unevenNow 1 = .ok (.istore_n 2, 1) := by decide +kernel
theorem dX7_unevenNow_2 : decode cX7_unevenNow 2 = .ok (.iconst 0, 1) := by decide +kernel
theorem dX7_unevenNow_3 : decode cX7_unevenNow 3 = .ok (.istore_n 3, 1) := by decide +kernel
theorem dX7_unevenNow_4 : decode cX7_unevenNow 4 = .ok (.iload_n 3, 1) := by decide +kernel
theorem dX7_unevenNow_5 : decode cX7_unevenNow 5 = .ok (.iconst 3, 1) := by decide +kernel
theorem dX7_unevenNow_6 : decode cX7_unevenNow 6 = .ok (.if_icmp .ge 93, 3) := by decide +kernel
theorem dX7_unevenNow_9 : decode cX7_unevenNow 9 = .ok (.aload_n 0, 1) := by decide +kernel
theorem dX7_unevenNow_10 : decode cX7_unevenNow 10 = .ok (.iload_n 1, 1) := by decide +kernel
theorem dX7_unevenNow_11 : decode cX7_unevenNow 11 = .ok (.iload_n 3, 1) := by decide +kernel
theorem dX7_unevenNow_12 : decode cX7_unevenNow 12 = .ok (.iconst 0, 1) := by decide +kernel
theorem dX7_unevenNow_13 : decode cX7_unevenNow 13 = .ok (.invokevirtual 77, 3) := by decide +kernel
theorem dX7_unevenNow_16 : decode cX7_unevenNow 16 = .ok (.ifCond .eq 77, 3) := by decide +kernel
theorem dX7_unevenNow_19 : decode cX7_unevenNow 19 = .ok (.aload_n 0, 1) := by decide +kernel
theorem dX7_unevenNow_20 : decode cX7_unevenNow 20 = .ok (.iload_n 1, 1) := by decide +kernel
theorem dX7_unevenNow_21 : decode cX7_unevenNow 21 = .ok (.iload_n 3, 1) := by decide +kernel
theorem dX7_unevenNow_22 : decode cX7_unevenNow 22 = .ok (.iconst 1, 1) := by decide +kernel
theorem dX7_unevenNow_23 : decode cX7_unevenNow 23 = .ok (.invokevirtual 77, 3) := by decide +kernel
theorem dX7_unevenNow_26 : decode cX7_unevenNow 26 = .ok (.ifCond .ne 6, 3) := by decide +kernel
theorem dX7_unevenNow_29 : decode cX7_unevenNow 29 = .ok (.goto 64, 3) := by decide +kernel
theorem dX7_unevenNow_32 : decode cX7_unevenNow 32 = .ok (.aload_n 0, 1) := by decide +kernel
theorem dX7_unevenNow_33 : decode cX7_unevenNow 33 = .ok (.getfield 9, 3) := by decide +kernel
theorem dX7_unevenNow_36 : decode cX7_unevenNow 36 = .ok (.iload_n 1, 1) := by decide +kernel
theorem dX7_unevenNow_37 : decode cX7_unevenNow 37 = .ok (.iload_n 3, 1) := by decide +kernel
theorem dX7_unevenNow_38 : decode cX7_unevenNow 38 = .ok (.iconst 0, 1) := by decide +kernel
theorem dX7_unevenNow_39 : decode cX7_unevenNow 39 = .ok (.invokestatic 73, 3) := by decide +kernel
theorem dX7_unevenNow_42 : decode cX7_unevenNow 42 = .ok (.iconst 2, 1) := by decide +kernel
theorem dX7_unevenNow_43 : decode cX7_unevenNow 43 = .ok (.iadd, 1) := by decide +kernel
theorem dX7_unevenNow_44 : decode cX7_unevenNow 44 = .ok (.iaload, 1) := by decide +kernel
theorem dX7_unevenNow_45 : decode cX7_unevenNow 45 = .ok (.aload_n 0, 1) := by decide +kernel
theorem dX7_unevenNow_46 : decode cX7_unevenNow 46 = .ok (.getfield 34, 3) := by decide +kernel
theorem dX7_unevenNow_49 : decode cX7_unevenNow 49 = .ok (.iconst 2, 1) := by decide +kernel
theorem dX7_unevenNow_50 : decode cX7_unevenNow 50 = .ok (.iload_n 3, 1) := by decide +kernel
theorem dX7_unevenNow_51 : decode cX7_unevenNow 51 = .ok (.imul, 1) := by decide +kernel
theorem dX7_unevenNow_52 : decode cX7_unevenNow 52 = .ok (.iaload, 1) := by decide +kernel
theorem dX7_unevenNow_53 : decode cX7_unevenNow 53 = .ok (.isub, 1) := by decide +kernel
theorem dX7_unevenNow_54 : decode cX7_unevenNow 54 = .ok (.istore 4, 2) := by decide +kernel
theorem dX7_unevenNow_56 : decode cX7_unevenNow 56 = .ok (.aload_n 0, 1) := by decide +kernel
theorem dX7_unevenNow_57 : decode cX7_unevenNow 57 = .ok (.getfield 9, 3) := by decide +kernel
theorem dX7_unevenNow_60 : decode cX7_unevenNow 60 = .ok (.iload_n 1, 1) := by decide +kernel
theorem dX7_unevenNow_61 : decode cX7_unevenNow 61 = .ok (.iload_n 3, 1) := by decide +kernel
theorem dX7_unevenNow_62 : decode cX7_unevenNow 62 = .ok (.iconst 1, 1) := by decide +kernel
theorem dX7_unevenNow_63 : decode cX7_unevenNow 63 = .ok (.invokestatic 73, 3) := by decide +kernel
theorem dX7_unevenNow_66 : decode cX7_unevenNow 66 = .ok (.iconst 2, 1) := by decide +kernel
theorem dX7_unevenNow_67 : decode cX7_unevenNow 67 = .ok (.iadd, 1) := by decide +kernel
theorem dX7_unevenNow_68 : decode cX7_unevenNow 68 = .ok (.iaload, 1) := by decide +kernel
theorem dX7_unevenNow_69 : decode cX7_unevenNow 69 = .ok (.aload_n 0, 1) := by decide +kernel
theorem dX7_unevenNow_70 : decode cX7_unevenNow 70 = .ok (.getfield 34, 3) := by decide +kernel
theorem dX7_unevenNow_73 : decode cX7_unevenNow 73 = .ok (.iconst 2, 1) := by decide +kernel
theorem dX7_unevenNow_74 : decode cX7_unevenNow 74 = .ok (.iload_n 3, 1) := by decide +kernel
theorem dX7_unevenNow_75 : decode cX7_unevenNow 75 = .ok (.imul, 1) := by decide +kernel
theorem dX7_unevenNow_76 : decode cX7_unevenNow 76 = .ok (.iconst 1, 1) := by decide +kernel
theorem dX7_unevenNow_77 : decode cX7_unevenNow 77 = .ok (.iadd, 1) := by decide +kernel
theorem dX7_unevenNow_78 : decode cX7_unevenNow 78 = .ok (.iaload, 1) := by decide +kernel
theorem dX7_unevenNow_79 : decode cX7_unevenNow 79 = .ok (.isub, 1) := by decide +kernel
theorem dX7_unevenNow_80 : decode cX7_unevenNow 80 = .ok (.istore 5, 2) := by decide +kernel
theorem dX7_unevenNow_82 : decode cX7_unevenNow 82 = .ok (.iload_n 2, 1) := by decide +kernel
theorem dX7_unevenNow_83 : decode cX7_unevenNow 83 = .ok (.iload 4, 2) := by decide +kernel
theorem dX7_unevenNow_85 : decode cX7_unevenNow 85 = .ok (.iload 5, 2) := by decide +kernel
theorem dX7_unevenNow_87 : decode cX7_unevenNow 87 = .ok (.isub, 1) := by decide +kernel
theorem dX7_unevenNow_88 : decode cX7_unevenNow 88 = .ok (.invokestatic 180, 3) := by decide +kernel
theorem dX7_unevenNow_91 : decode cX7_unevenNow 91 = .ok (.iadd, 1) := by decide +kernel
theorem dX7_unevenNow_92 : decode cX7_unevenNow 92 = .ok (.istore_n 2, 1) := by decide +kernel
theorem dX7_unevenNow_93 : decode cX7_unevenNow 93 = .ok (.iinc 3 1, 3) := by decide +kernel
theorem dX7_unevenNow_96 : decode cX7_unevenNow 96 = .ok (.goto (-92), 3) := by decide +kernel
theorem dX7_unevenNow_99 : decode cX7_unevenNow 99 = .ok (.iload_n 2, 1) := by decide +kernel
theorem dX7_unevenNow_100 : decode cX7_unevenNow 100 = .ok (.ireturn, 1) := by decide +kernel
def bX7_unevenNow_4 (s : Mem) (v1 : Int32) (v2 : Int32) (v3 : Int32) : Option (Int32 ⊕ (Int32 × Int32)) :=
  if (3 : Int32) ≤ v3 then some (Sum.inl v2) else (fX7_isOpen s v1 v3 (0 : Int32)).bind (fun y1 => if y1 = (0 : Int32) then lt (v3 + (1 : Int32)) (fun x2 => some (Sum.inr (v2, x2))) else (fX7_isOpen s v1 v3 (1 : Int32)).bind (fun y3 => if y3 = (0 : Int32) then lt (v3 + (1 : Int32)) (fun x14 => some (Sum.inr (v2, x14))) else (fX7_at v1 v3 (0 : Int32)).bind (fun y4 => gd (y4 + (2 : Int32)) 139 (gd ((2 : Int32) * v3) 6 (lt ((s.1 20 (y4 + (2 : Int32)).toNatClampNeg) - (s.1 26 ((2 : Int32) * v3).toNatClampNeg)) (fun x7 => (fX7_at v1 v3 (1 : Int32)).bind (fun y8 => gd (y8 + (2 : Int32)) 139 (gd (((2 : Int32) * v3) + (1 : Int32)) 6 (lt ((s.1 20 (y8 + (2 : Int32)).toNatClampNeg) - (s.1 26 (((2 : Int32) * v3) + (1 : Int32)).toNatClampNeg)) (fun x11 => lt (v2 + (abI (x7 - x11))) (fun x12 => lt (v3 + (1 : Int32)) (fun x13 => some (Sum.inr (x12, x13))))))))))))))
set_option maxRecDepth 4000 in
theorem jbX7_unevenNow_4 {X : Scr} (d : Nat) (s : Mem) (v1 : Int32) (v2 : Int32) (v3 : Int32) {r : (Int32 ⊕ (Int32 × Int32))} {w : Option Value} {s' : Mem} (hh : bX7_unevenNow_4 s v1 v2 v3 = some r) (hk : Sum.elim (fun t : Int32 => J X MX7_unevenNow (d + 2) 99 [none, none, some (.int t), none, none, none] [] s w s') (fun a : (Int32 × Int32) => J X MX7_unevenNow (d + 2) 4 [some (.ref 19), some (.int v1), some (.int a.1), some (.int a.2), none, none] [] s w s') r) : J X MX7_unevenNow (d + 2) 4 [some (.ref 19), some (.int v1), some (.int v2), some (.int v3), none, none] [] s w s' := by
  unfold bX7_unevenNow_4 at hh
  refine J_iload_n (pc := 4) dX7_unevenNow_4 rfl ?_
  refine J_iconst (pc := 5) dX7_unevenNow_5 ci_3 ?_
  refine J_icmp_ge (pc := 6) 99 dX7_unevenNow_6 (by decide) (fun c17 => ?_) (fun c17 => ?_)
  · replace hh := (if_pos c17).symm.trans hh
    refine J_drop 0 (L' := [none, some (.int v1), some (.int v2), some (.int v3), none, none]) rfl ?_
    refine J_drop 1 (L' := [none, none, some (.int v2), some (.int v3), none, none]) rfl ?_
    refine J_drop 3 (L' := [none, none, some (.int v2), none, none, none]) rfl ?_
    obtain rfl := Option.some.inj hh
    exact hk
  · replace hh := (if_neg c17).symm.trans hh
    refine J_aload_n (pc := 9) dX7_unevenNow_9 rfl ?_
    refine J_iload_n (pc := 10) dX7_unevenNow_10 rfl ?_
    refine J_iload_n (pc := 11) dX7_unevenNow_11 rfl ?_
    refine J_iconst (pc := 12) dX7_unevenNow_12 ci_0 ?_
    obtain ⟨y1, hy1, hh⟩ := bd_some hh
    refine J_callVi (pc := 13) (M' := MX7_isOpen) (a := 19) (rest := []) (As := [.int v1, .int v3, .int (0 : Int32)]) (L0 := [some (.ref 19), some (.int v1), some (.int v3), some (.int (0 : Int32))]) okX7_isOpen ovX7_isOpen mlX7_77 clX7 so19 rfl rfl (Nat.le_of_ble_eq_true rfl) dX7_unevenNow_13 rfl (Nat.le_of_ble_eq_true rfl) (jX7_isOpen (X := X) d s v1 v3 (0 : Int32) hy1) ?_
    refine J_if_eq (pc := 16) 93 dX7_unevenNow_16 (by decide) (fun c16 => ?_) (fun c16 => ?_)
    · replace hh := (if_pos c16).symm.trans hh
      refine J_iincL (pc := 93) (v := v3 + (1 : Int32)) (fun x2 => [some (.ref 19), some (.int v1), some (.int v2), some (.int x2), none, none]) dX7_unevenNow_93 rfl rfl (Nat.le_of_ble_eq_true rfl) (congrArg _ ci_1) (fun _ => rfl) hh (fun x2 hh => ?_)
      refine J_goto (pc := 96) 4 dX7_unevenNow_96 (by decide) ?_
      obtain rfl := Option.some.inj hh
      exact hk
    · replace hh := (if_neg c16).symm.trans hh
      refine J_aload_n (pc := 19) dX7_unevenNow_19 rfl ?_
      refine J_iload_n (pc := 20) dX7_unevenNow_20 rfl ?_
      refine J_iload_n (pc := 21) dX7_unevenNow_21 rfl ?_
      refine J_iconst (pc := 22) dX7_unevenNow_22 ci_1 ?_
      obtain ⟨y3, hy3, hh⟩ := bd_some hh
      refine J_callVi (pc := 23) (M' := MX7_isOpen) (a := 19) (rest := []) (As := [.int v1, .int v3, .int (1 : Int32)]) (L0 := [some (.ref 19), some (.int v1), some (.int v3), some (.int (1 : Int32))]) okX7_isOpen ovX7_isOpen mlX7_77 clX7 so19 rfl rfl (Nat.le_of_ble_eq_true rfl) dX7_unevenNow_23 rfl (Nat.le_of_ble_eq_true rfl) (jX7_isOpen (X := X) d s v1 v3 (1 : Int32) hy3) ?_
      refine J_if_ne (pc := 26) 32 dX7_unevenNow_26 (by decide) (fun c15 => ?_) (fun c15 => ?_)
      · replace hh := (if_neg c15).symm.trans hh
        refine J_aload_n (pc := 32) dX7_unevenNow_32 rfl ?_
        refine J_getR (pc := 33) (k := 0) flX7_9 so19 fk19_0 dX7_unevenNow_33 ?_
        refine J_iload_n (pc := 36) dX7_unevenNow_36 rfl ?_
        refine J_iload_n (pc := 37) dX7_unevenNow_37 rfl ?_
        refine J_iconst (pc := 38) dX7_unevenNow_38 ci_0 ?_
        obtain ⟨y4, hy4, hh⟩ := bd_some hh
        refine J_callSi (pc := 39) (M' := MX7_at) (rest := [.ref 20]) (As := [.int v1, .int v3, .int (0 : Int32)]) (L0 := [some (.int v1), some (.int v3), some (.int (0 : Int32))]) okX7_at osX7_at mlX7_73 rfl rfl (Nat.le_of_ble_eq_true rfl) dX7_unevenNow_39 rfl (Nat.le_of_ble_eq_true rfl) (jX7_at (X := X) (d + 1) s v1 v3 (0 : Int32) hy4) ?_
        refine J_iconst (pc := 42) dX7_unevenNow_42 ci_2 ?_
        refine J_iadd (pc := 43) dX7_unevenNow_43 ?_
        obtain ⟨h5, hh⟩ := gd_some hh
        refine J_iald (pc := 44) dX7_unevenNow_44 sa20 h5 ?_
        refine J_aload_n (pc := 45) dX7_unevenNow_45 rfl ?_
        refine J_getR (pc := 46) (k := 9) flX7_34 so19 fk19_9 dX7_unevenNow_46 ?_
        refine J_iconst (pc := 49) dX7_unevenNow_49 ci_2 ?_
        refine J_iload_n (pc := 50) dX7_unevenNow_50 rfl ?_
        refine J_imul (pc := 51) dX7_unevenNow_51 ?_
        obtain ⟨h6, hh⟩ := gd_some hh
        refine J_iald (pc := 52) dX7_unevenNow_52 sa26 h6 ?_
        refine J_isub (pc := 53) dX7_unevenNow_53 ?_
        refine J_istoreL (pc := 54) (fun x7 => [some (.ref 19), some (.int v1), some (.int v2), some (.int v3), some (.int x7), none]) dX7_unevenNow_54 rfl (Nat.le_of_ble_eq_true rfl) (fun _ => rfl) hh (fun x7 hh => ?_)
        refine J_aload_n (pc := 56) dX7_unevenNow_56 rfl ?_
        refine J_getR (pc := 57) (k := 0) flX7_9 so19 fk19_0 dX7_unevenNow_57 ?_
        refine J_iload_n (pc := 60) dX7_unevenNow_60 rfl ?_
        refine J_iload_n (pc := 61) dX7_unevenNow_61 rfl ?_
        refine J_iconst (pc := 62) dX7_unevenNow_62 ci_1 ?_
        obtain ⟨y8, hy8, hh⟩ := bd_some hh
        refine J_callSi (pc := 63) (M' := MX7_at) (rest := [.ref 20]) (As := [.int v1, .int v3, .int (1 : Int32)]) (L0 := [some (.int v1), some (.int v3), some (.int (1 : Int32))]) okX7_at osX7_at mlX7_73 rfl rfl (Nat.le_of_ble_eq_true rfl) dX7_unevenNow_63 rfl (Nat.le_of_ble_eq_true rfl) (jX7_at (X := X) (d + 1) s v1 v3 (1 : Int32) hy8) ?_
        refine J_iconst (pc := 66) dX7_unevenNow_66 ci_2 ?_
        refine J_iadd (pc := 67) dX7_unevenNow_67 ?_
        obtain ⟨h9, hh⟩ := gd_some hh
        refine J_iald (pc := 68) dX7_unevenNow_68 sa20 h9 ?_
        refine J_aload_n (pc := 69) dX7_unevenNow_69 rfl ?_
        refine J_getR (pc := 70) (k := 9) flX7_34 so19 fk19_9 dX7_unevenNow_70 ?_
        refine J_iconst (pc := 73) dX7_unevenNow_73 ci_2 ?_
        refine J_iload_n (pc := 74) dX7_unevenNow_74 rfl ?_
        refine J_imul (pc := 75) dX7_unevenNow_75 ?_
        refine J_iconst (pc := 76) dX7_unevenNow_76 ci_1 ?_
        refine J_iadd (pc := 77) dX7_unevenNow_77 ?_
        obtain ⟨h10, hh⟩ := gd_some hh
        refine J_iald (pc := 78) dX7_unevenNow_78 sa26 h10 ?_
        refine J_isub (pc := 79) dX7_unevenNow_79 ?_
        refine J_istoreL (pc := 80) (fun x11 => [some (.ref 19), some (.int v1), some (.int v2), some (.int v3), some (.int x7), some (.int x11)]) dX7_unevenNow_80 rfl (Nat.le_of_ble_eq_true rfl) (fun _ => rfl) hh (fun x11 hh => ?_)
        refine J_iload_n (pc := 82) dX7_unevenNow_82 rfl ?_
        refine J_iload (pc := 83) dX7_unevenNow_83 rfl ?_
        refine J_iload (pc := 85) dX7_unevenNow_85 rfl ?_
        refine J_isub (pc := 87) dX7_unevenNow_87 ?_
        refine J_mabs (pc := 88) mtX7_180 (Nat.le_of_ble_eq_true rfl) dX7_unevenNow_88 ?_
        refine J_iadd (pc := 91) dX7_unevenNow_91 ?_
        refine J_istoreL_n (pc := 92) (fun x12 => [some (.ref 19), some (.int v1), some (.int x12), some (.int v3), some (.int x7), some (.int x11)]) dX7_unevenNow_92 rfl (Nat.le_of_ble_eq_true rfl) (fun _ => rfl) hh (fun x12 hh => ?_)
        refine J_iincL (pc := 93) (v := v3 + (1 : Int32)) (fun x13 => [some (.ref 19), some (.int v1), some (.int x12), some (.int x13), some (.int x7), some (.int x11)]) dX7_unevenNow_93 rfl rfl (Nat.le_of_ble_eq_true rfl) (congrArg _ ci_1) (fun _ => rfl) hh (fun x13 hh => ?_)
        refine J_goto (pc := 96) 4 dX7_unevenNow_96 (by decide) ?_
        refine J_drop 4 (L' := [some (.ref 19), some (.int v1), some (.int x12), some (.int x13), none, some (.int x11)]) rfl ?_
        refine J_drop 5 (L' := [some (.ref 19), some (.int v1), some (.int x12), some (.int x13), none, none]) rfl ?_
        obtain rfl := Option.some.inj hh
        exact hk
      · replace hh := (if_pos c15).symm.trans hh
        refine J_goto (pc := 29) 93 dX7_unevenNow_29 (by decide) ?_
        refine J_iincL (pc := 93) (v := v3 + (1 : Int32)) (fun x14 => [some (.ref 19), some (.int v1), some (.int v2), some (.int x14), none, none]) dX7_unevenNow_93 rfl rfl (Nat.le_of_ble_eq_true rfl) (congrArg _ ci_1) (fun _ => rfl) hh (fun x14 hh => ?_)
        refine J_goto (pc := 96) 4 dX7_unevenNow_96 (by decide) ?_
        obtain rfl := Option.some.inj hh
        exact hk
def fX7_unevenNow (s : Mem) (p0 : Int32) : Option Int32 :=
  (lp (fun a => bX7_unevenNow_4 s p0 a.1 a.2) 600 ((0 : Int32), (0 : Int32))).bind (fun y18 => some y18)
set_option maxRecDepth 4000 in
theorem jjX7_unevenNow {X : Scr} (d : Nat) (s : Mem) (p0 : Int32) {r : Int32} {w : Option Value} {s' : Mem} (hh : fX7_unevenNow s p0 = some r) (hk : w = some (.int r) ∧ s = s') : J X MX7_unevenNow (d + 2) 0 [some (.ref 19), some (.int p0), none, none, none, none] [] s w s' := by
  unfold fX7_unevenNow at hh
  refine J_iconst (pc := 0) dX7_unevenNow_0 ci_0 ?_
  refine J_istore_n (pc := 1) (L' := [some (.ref 19), some (.int p0), some (.int (0 : Int32)), none, none, none]) dX7_unevenNow_1 rfl (Nat.le_of_ble_eq_true rfl) rfl ?_
  refine J_iconst (pc := 2) dX7_unevenNow_2 ci_0 ?_
  refine J_istore_n (pc := 3) (L' := [some (.ref 19), some (.int p0), some (.int (0 : Int32)), some (.int (0 : Int32)), none, none]) dX7_unevenNow_3 rfl (Nat.le_of_ble_eq_true rfl) rfl ?_
  obtain ⟨y18, hy18, hh⟩ := bd_some hh
  refine J_lp (a := ((0 : Int32), (0 : Int32))) (fun a : (Int32 × Int32) => J X MX7_unevenNow (d + 2) 4 [some (.ref 19), some (.int p0), some (.int a.1), some (.int a.2), none, none] [] s w s') (fun t : Int32 => J X MX7_unevenNow (d + 2) 99 [none, none, some (.int t), none, none, none] [] s w s') (fun a q h1 h2 => jbX7_unevenNow_4 d s p0 a.1 a.2 h1 h2) hy18 ?_
  refine J_iload_n (pc := 99) dX7_unevenNow_99 rfl ?_
  obtain rfl := Option.some.inj hh
  obtain ⟨rfl, rfl⟩ := hk
  exact J_ret (w := some (.int y18)) ⟨dX7_unevenNow_100, _, rfl, rfl⟩
theorem jX7_unevenNow {X : Scr} (d : Nat) (s : Mem) (p0 : Int32) {r : Int32} (hh : fX7_unevenNow s p0 = some r) : J X MX7_unevenNow (d + 2) 0 [some (.ref 19), some (.int p0), none, none, none, none] [] s (some (.int r)) s := jjX7_unevenNow d s p0 hh ⟨rfl, rfl⟩
theorem dX7_looks_0 : decode cX7_looks 0 = .ok (.aload_n 0, 1) := by decide +kernel
theorem dX7_looks_1 : decode cX7_looks 1 = .ok (.dup, 1) := by decide +kernel
theorem dX7_looks_2 : decode cX7_looks 2 = .ok (.getfield 243, 3) := by decide +kernel
theorem dX7_looks_5 : decode cX7_looks 5 = .ok (.lconst 1, 1) := by decide +kernel
theorem dX7_looks_6 : decode cX7_looks 6 = .ok (.ladd, 1) := by decide +kernel
theorem dX7_looks_7 : decode cX7_looks 7 = .ok (.putfield 243, 3) := by decide +kernel
theorem dX7_looks_10 : decode cX7_looks 10 = .ok (.iconst 0, 1) := by decide +kernel
theorem dX7_looks_11 : decode cX7_looks 11 = .ok (.istore_n 2, 1) := by decide +kernel
theorem dX7_looks_12 : decode cX7_looks 12 = .ok (.iconst 0, 1) := by decide +kernel
theorem dX7_looks_13 : decode cX7_looks 13 = .ok (.istore_n 3, 1) := by decide +kernel
theorem dX7_looks_14 : decode cX7_looks 14 = .ok (.iconst 0, 1) := by decide +kernel
theorem dX7_looks_15 : decode cX7_looks 15 = .ok (.istore 4, 2) := by decide +kernel
theorem dX7_looks_17 : decode cX7_looks 17 = .ok (.iload 4, 2) := by decide +kernel
theorem dX7_looks_19 : decode cX7_looks 19 = .ok (.aload_n 0, 1) := by decide +kernel
theorem dX7_looks_20 : decode cX7_looks 20 = .ok (.getfield 9, 3) := by decide +kernel
theorem dX7_looks_23 : decode cX7_looks 23 = .ok (.bipush 96, 2) := by decide +kernel
theorem dX7_looks_25 : decode cX7_looks 25 = .ok (.iaload, 1) := by decide +kernel
theorem dX7_looks_26 : decode cX7_looks 26 = .ok (.if_icmp .ge 95, 3) := by decide +kernel
theorem dX7_looks_29 : decode cX7_looks 29 = .ok (.aload_n 0, 1) := by decide +kernel
theorem dX7_looks_30 : decode cX7_looks 30 = .ok (.iload 4, 2) := by decide +kernel
theorem dX7_looks_32 : decode cX7_looks 32 = .ok (.iload_n 1, 1) := by decide +kernel
theorem dX7_looks_33 : decode cX7_looks 33 = .ok (.invokevirtual 105, 3) := by decide +kernel
theorem dX7_looks_36 : decode cX7_looks 36 = .ok (.istore 5, 2) := by decide +kernel
theorem dX7_looks_38 : decode cX7_looks 38 = .ok (.iload_n 2, 1) := by decide +kernel
theorem dX7_looks_39 : decode cX7_looks 39 = .ok (.aload_n 0, 1) := by decide +kernel
theorem dX7_looks_40 : decode cX7_looks 40 = .ok (.getfield 28, 3) := by decide +kernel
theorem dX7_looks_43 : decode cX7_looks 43 = .ok (.iload 4, 2) := by decide +kernel
theorem dX7_looks_45 : decode cX7_looks 45 = .ok (.iaload, 1) := by decide +kernel
theorem dX7_looks_46 : decode cX7_looks 46 = .ok (.ifCond .le 7, 3) := by decide +kernel
theorem dX7_looks_49 : decode cX7_looks 49 = .ok (.iconst 1, 1) := by decide +kernel
theorem dX7_looks_50 : decode cX7_looks 50 = .ok (.goto 4, 3) := by decide +kernel
theorem dX7_looks_53 : decode cX7_looks 53 = .ok (.iconst 0, 1) := by decide +kernel
theorem dX7_looks_54 : decode cX7_looks 54 = .ok (.iadd, 1) := by decide +kernel
theorem dX7_looks_55 : decode cX7_looks 55 = .ok (.istore_n 2, 1) := by decide +kernel
theorem dX7_looks_56 : decode cX7_looks 56 = .ok (.iload_n 3, 1) := by decide +kernel
theorem dX7_looks_57 : decode cX7_looks 57 = .ok (.iload 5, 2) := by decide +kernel
theorem dX7_looks_59 : decode cX7_looks 59 = .ok (.ifCond .lt 21, 3) := by decide +kernel
theorem dX7_looks_62 : decode cX7_looks 62 = .ok (.aload_n 0, 1) := by decide +kernel
theorem dX7_looks_63 : decode cX7_looks 63 = .ok (.getfield 28, 3) := by decide +kernel
theorem dX7_looks_66 : decode cX7_looks 66 = .ok (.iload 4, 2) := by decide +kernel
theorem dX7_looks_68 : decode cX7_looks 68 = .ok (.iaload, 1) := by decide +kernel
theorem dX7_looks_69 : decode cX7_looks 69 = .ok (.iload 5, 2) := by decide +kernel
theorem dX7_looks_71 : decode cX7_looks 71 = .ok (.iconst 1, 1) := by decide +kernel
theorem dX7_looks_72 : decode cX7_looks 72 = .ok (.iadd, 1) := by decide +kernel
theorem dX7_looks_73 : decode cX7_looks 73 = .ok (.if_icmp .eq 7, 3) := by decide +kernel
theorem dX7_looks_76 : decode cX7_looks 76 = .ok (.iconst 1, 1) := by decide +kernel
theorem dX7_looks_77 : decode cX7_looks 77 = .ok (.goto 4, 3) := by decide +kernel
theorem dX7_looks_80 : decode cX7_looks 80 = .ok (.iconst 0, 1) := by decide +kernel
theorem dX7_looks_81 : decode cX7_looks 81 = .ok (.iadd, 1) := by decide +kernel
theorem dX7_looks_82 : decode cX7_looks 82 = .ok (.istore_n 3, 1) := by decide +kernel
theorem dX7_looks_83 : decode cX7_looks 83 = .ok (.aload_n 0, 1) := by decide +kernel
theorem dX7_looks_84 : decode cX7_looks 84 = .ok (.getfield 247, 3) := by decide +kernel
theorem dX7_looks_87 : decode cX7_looks 87 = .ok (.ifCond .lt 28, 3) := by decide +kernel
theorem dX7_looks_90 : decode cX7_looks 90 = .ok (.aload_n 0, 1) := by decide +kernel
theorem dX7_looks_91 : decode cX7_looks 91 = .ok (.getfield 28, 3) := by decide +kernel
theorem dX7_looks_94 : decode cX7_looks 94 = .ok (.iload 4, 2) := by decide +kernel
theorem dX7_looks_96 : decode cX7_looks 96 = .ok (.iaload, 1) := by decide +kernel
theorem dX7_looks_97 : decode cX7_looks 97 = .ok (.ifCond .ne 18, 3) := by decide +kernel
theorem dX7_looks_100 : decode cX7_looks 100 = .ok (.iload 4, 2) := by decide +kernel
theorem dX7_looks_102 : decode cX7_looks 102 = .ok (.aload_n 0, 1) := by decide +kernel
theorem dX7_looks_103 : decode cX7_looks 103 = .ok (.getfield 247, 3) := by decide +kernel
theorem dX7_looks_106 : decode cX7_looks 106 = .ok (.if_icmp .eq 8, 3) := by decide +kernel
theorem dX7_looks_109 : decode cX7_looks 109 = .ok (.iload 5, 2) := by decide +kernel
theorem dX7_looks_111 : decode cX7_looks 111 = .ok (.ifCond .lt 4, 3) := by decide +kernel
theorem dX7_looks_114 : decode cX7_looks 114 = .ok (.return_, 1) := by decide +kernel
theorem dX7_looks_115 : decode cX7_looks 115 = .ok (.iinc 4 1, 3) := by decide +kernel
theorem dX7_looks_118 : decode cX7_looks 118 = .ok (.goto (-101), 3) := by decide +kernel
theorem dX7_looks_121 : decode cX7_looks 121 = .ok (.aload_n 0, 1) := by decide +kernel
theorem dX7_looks_122 : decode cX7_looks 122 = .ok (.getfield 250, 3) := by decide +kernel
theorem dX7_looks_125 : decode cX7_looks 125 = .ok (.ifCond .eq 11, 3) := by decide +kernel
theorem dX7_looks_128 : decode cX7_looks 128 = .ok (.aload_n 0, 1) := by decide +kernel
theorem dX7_looks_129 : decode cX7_looks 129 = .ok (.iload_n 1, 1) := by decide +kernel
theorem dX7_looks_130 : decode cX7_looks 130 = .ok (.invokevirtual 254, 3) := by decide +kernel
theorem dX7_looks_133 : decode cX7_looks 133 = .ok (.goto 4, 3) := by decide +kernel
theorem dX7_looks_136 : decode cX7_looks 136 = .ok (.iconst 0, 1) := by decide +kernel
theorem dX7_looks_137 : decode cX7_looks 137 = .ok (.istore 4, 2) := by decide +kernel
theorem dX7_looks_139 : decode cX7_looks 139 = .ok (.aload_n 0, 1) := by decide +kernel
theorem dX7_looks_140 : decode cX7_looks 140 = .ok (.getfield 247, 3) := by decide +kernel
theorem dX7_looks_143 : decode cX7_looks 143 = .ok (.ifCond .lt 5, 3) := by decide +kernel
theorem dX7_looks_146 : decode cX7_looks 146 = .ok (.iconst 0, 1) := by decide +kernel
theorem dX7_looks_147 : decode cX7_looks 147 = .ok (.istore_n 2, 1) := by decide +kernel
theorem dX7_looks_148 : decode cX7_looks 148 = .ok (.aload_n 0, 1) := by decide +kernel
theorem dX7_looks_149 : decode cX7_looks 149 = .ok (.getfield 257, 3) := by decide +kernel
theorem dX7_looks_152 : decode cX7_looks 152 = .ok (.ifCond .eq 45, 3) := by decide +kernel
theorem dX7_looks_155 : decode cX7_looks 155 = .ok (.iload_n 2, 1) := by decide +kernel
theorem dX7_looks_156 : decode cX7_looks 156 = .ok (.aload_n 0, 1) := by decide +kernel
theorem dX7_looks_157 : decode cX7_looks 157 = .ok (.getfield 260, 3) := by decide +kernel
theorem dX7_looks_160 : decode cX7_looks 160 = .ok (.if_icmp .gt 37, 3) := by decide +kernel
theorem dX7_looks_163 : decode cX7_looks 163 = .ok (.iload_n 2, 1) := by decide +kernel
theorem dX7_looks_164 : decode cX7_looks 164 = .ok (.aload_n 0, 1) := by decide +kernel
theorem dX7_looks_165 : decode cX7_looks 165 = .ok (.getfield 260, 3) := by decide +kernel
theorem dX7_looks_168 : decode cX7_looks 168 = .ok (.if_icmp .ne 33, 3) := by decide +kernel
theorem dX7_looks_171 : decode cX7_looks 171 = .ok (.iload 4, 2) := by decide +kernel
theorem dX7_looks_173 : decode cX7_looks 173 = .ok (.aload_n 0, 1) := by decide +kernel
theorem dX7_looks_174 : decode cX7_looks 174 = .ok (.getfield 263, 3) := by decide +kernel
theorem dX7_looks_177 : decode cX7_looks 177 = .ok (.if_icmp .lt 20, 3) := by decide +kernel
theorem dX7_looks_180 : decode cX7_looks 180 = .ok (.iload 4, 2) := by decide +kernel
theorem dX7_looks_182 : decode cX7_looks 182 = .ok (.aload_n 0, 1) := by decide +kernel
theorem dX7_looks_183 : decode cX7_looks 183 = .ok (.getfield 263, 3) := by decide +kernel
theorem dX7_looks_186 : decode cX7_looks 186 = .ok (.if_icmp .ne 15, 3) := by decide +kernel
theorem dX7_looks_189 : decode cX7_looks 189 = .ok (.iload_n 3, 1) := by decide +kernel
theorem dX7_looks_190 : decode cX7_looks 190 = .ok (.aload_n 0, 1) := by decide +kernel
theorem dX7_looks_191 : decode cX7_looks 191 = .ok (.getfield 266, 3) := by decide +kernel
theorem dX7_looks_194 : decode cX7_looks 194 = .ok (.if_icmp .ge 7, 3) := by decide +kernel
theorem dX7_looks_197 : decode cX7_looks 197 = .ok (.iconst 1, 1) := by decide +kernel
theorem dX7_looks_198 : decode cX7_looks 198 = .ok (.goto 4, 3) := by decide +kernel
theorem dX7_looks_201 : decode cX7_looks 201 = .ok (.iconst 0, 1) := by decide +kernel
theorem dX7_looks_202 : decode cX7_looks 202 = .ok (.istore 5, 2) := by decide +kernel
theorem dX7_looks_204 : decode cX7_looks 204 = .ok (.iload 5, 2) := by decide +kernel
theorem dX7_looks_206 : decode cX7_looks 206 = .ok (.ifCond .ne 4, 3) := by decide +kernel
theorem dX7_looks_209 : decode cX7_looks 209 = .ok (.return_, 1) := by decide +kernel
theorem dX7_looks_210 : decode cX7_looks 210 = .ok (.aload_n 0, 1) := by decide +kernel
theorem dX7_looks_211 : decode cX7_looks 211 = .ok (.iconst 1, 1) := by decide +kernel
theorem dX7_looks_212 : decode cX7_looks 212 = .ok (.putfield 257, 3) := by decide +kernel
theorem dX7_looks_215 : decode cX7_looks 215 = .ok (.aload_n 0, 1) := by decide +kernel
theorem dX7_looks_216 : decode cX7_looks 216 = .ok (.iload_n 2, 1) := by decide +kernel
theorem dX7_looks_217 : decode cX7_looks 217 = .ok (.putfield 260, 3) := by decide +kernel
theorem dX7_looks_220 : decode cX7_looks 220 = .ok (.aload_n 0, 1) := by decide +kernel
theorem dX7_looks_221 : decode cX7_looks 221 = .ok (.iload 4, 2) := by decide +kernel
theorem dX7_looks_223 : decode cX7_looks 223 = .ok (.putfield 263, 3) := by decide +kernel
theorem dX7_looks_226 : decode cX7_looks 226 = .ok (.aload_n 0, 1) := by decide +kernel
theorem dX7_looks_227 : decode cX7_looks 227 = .ok (.iload_n 3, 1) := by decide +kernel
theorem dX7_looks_228 : decode cX7_looks 228 = .ok (.putfield 266, 3) := by decide +kernel
theorem dX7_looks_231 : decode cX7_looks 231 = .ok (.iconst 0, 1) := by decide +kernel
theorem dX7_looks_232 : decode cX7_looks 232 = .ok (.istore 6, 2) := by decide +kernel
theorem dX7_looks_234 : decode cX7_looks 234 = .ok (.iload 6, 2) := by decide +kernel
theorem dX7_looks_236 : decode cX7_looks 236 = .ok (.bipush 6, 2) := by decide +kernel
theorem dX7_looks_238 : decode cX7_looks 238 = .ok (.if_icmp .ge 23, 3) := by decide +kernel
theorem dX7_looks_241 : decode cX7_looks 241 = .ok (.aload_n 0, 1) := by decide +kernel
theorem dX7_looks_242 : decode cX7_looks 242 = .ok (.getfield 31, 3) := by decide +kernel
theorem dX7_looks_245 : decode cX7_looks 245 = .ok (.iload 6, 2) := by decide +kernel
theorem dX7_looks_247 : decode cX7_looks 247 = .ok (.aload_n 0, 1) := by decide +kernel
theorem dX7_looks_248 : decode cX7_looks 248 = .ok (.getfield 28, 3) := by decide +kernel
theorem dX7_looks_251 : decode cX7_looks 251 = .ok (.iload 6, 2) := by decide +kernel
theorem dX7_looks_253 : decode cX7_looks 253 = .ok (.iaload, 1) := by decide +kernel
theorem dX7_looks_254 : decode cX7_looks 254 = .ok (.iastore, 1) := by decide +kernel
theorem dX7_looks_255 : decode cX7_looks 255 = .ok (.iinc 6 1, 3) := by decide +kernel
theorem dX7_looks_258 : decode cX7_looks 258 = .ok (.goto (-24), 3) := by decide +kernel
theorem dX7_looks_261 : decode cX7_looks 261 = .ok (.return_, 1) := by decide +kernel
def gX7_looks_81 (s : Mem) (v1 : Int32) (v2 : Int32) (v4 : Int32) (v5 : Int32) (k0 : Int32) (k1 : Int32) : Option ((Mem ⊕ (Int32 × Int32)) ⊕ (Int32 × Int32 × Int32)) :=
  lt (k1 + k0) (fun x6 => if (s.1 19 17) < (0 : Int32) then lt (v4 + (1 : Int32)) (fun x7 => some (Sum.inr (v2, x6, x7))) else gd v4 6 (if (s.1 24 v4.toNatClampNeg) = (0 : Int32) then if v4 = (s.1 19 17) then some (Sum.inl (Sum.inl s)) else if v5 < (0 : Int32) then lt (v4 + (1 : Int32)) (fun x10 => some (Sum.inr (v2, x6, x10))) else some (Sum.inl (Sum.inl s)) else lt (v4 + (1 : Int32)) (fun x9 => some (Sum.inr (v2, x6, x9)))))
set_option maxRecDepth 4000 in
theorem jgX7_looks_81 {X : Scr} (d : Nat) (s : Mem) (v1 : Int32) (v2 : Int32) (v4 : Int32) (v5 : Int32) (k0 : Int32) (k1 : Int32) {r : ((Mem ⊕ (Int32 × Int32)) ⊕ (Int32 × Int32 × Int32))} {w : Option Value} {s' : Mem} (hh : gX7_looks_81 s v1 v2 v4 v5 k0 k1 = some r) (hk : Sum.elim (Sum.elim (fun q : Mem => w = none ∧ q = s') (fun t : (Int32 × Int32) => J X MX7_looks (d + 3) 121 [some (.ref 19), some (.int v1), some (.int t.1), some (.int t.2), none, none, none] [] s w s')) (fun a : (Int32 × Int32 × Int32) => J X MX7_looks (d + 3) 17 [some (.ref 19), some (.int v1), some (.int a.1), some (.int a.2.1), some (.int a.2.2), none, none] [] s w s') r) : J X MX7_looks (d + 3) 81 [some (.ref 19), some (.int v1), some (.int v2), none, some (.int v4), some (.int v5), none] [.int k0, .int k1] s w s' := by
  unfold gX7_looks_81 at hh
  refine J_iadd (pc := 81) dX7_looks_81 ?_
  refine J_istoreL_n (pc := 82) (fun x6 => [some (.ref 19), some (.int v1), some (.int v2), some (.int x6), some (.int v4), some (.int v5), none]) dX7_looks_82 rfl (Nat.le_of_ble_eq_true rfl) (fun _ => rfl) hh (fun x6 hh => ?_)
  refine J_aload_n (pc := 83) dX7_looks_83 rfl ?_
  refine J_getI (pc := 84) (k := 17) flX7_247 so19 fk19_17 dX7_looks_84 ?_
  refine J_if_lt (pc := 87) 115 dX7_looks_87 (by decide) (fun c14 => ?_) (fun c14 => ?_)
  · replace hh := (if_pos c14).symm.trans hh
    refine J_iincL (pc := 115) (v := v4 + (1 : Int32)) (fun x7 => [some (.ref 19), some (.int v1), some (.int v2), some (.int x6), some (.int x7), some (.int v5), none]) dX7_looks_115 rfl rfl (Nat.le_of_ble_eq_true rfl) (congrArg _ ci_1) (fun _ => rfl) hh (fun x7 hh => ?_)
    refine J_goto (pc := 118) 17 dX7_looks_118 (by decide) ?_
    refine J_drop 5 (L' := [some (.ref 19), some (.int v1), some (.int v2), some (.int x6), some (.int x7), none, none]) rfl ?_
    obtain rfl := Option.some.inj hh
    exact hk
  · replace hh := (if_neg c14).symm.trans hh
    refine J_aload_n (pc := 90) dX7_looks_90 rfl ?_
    refine J_getR (pc := 91) (k := 7) flX7_28 so19 fk19_7 dX7_looks_91 ?_
    refine J_iload (pc := 94) dX7_looks_94 rfl ?_
    obtain ⟨h8, hh⟩ := gd_some hh
    refine J_iald (pc := 96) dX7_looks_96 sa24 h8 ?_
    refine J_if_ne (pc := 97) 115 dX7_looks_97 (by decide) (fun c13 => ?_) (fun c13 => ?_)
    · replace hh := (if_neg c13).symm.trans hh
      refine J_iincL (pc := 115) (v := v4 + (1 : Int32)) (fun x9 => [some (.ref 19), some (.int v1), some (.int v2), some (.int x6), some (.int x9), some (.int v5), none]) dX7_looks_115 rfl rfl (Nat.le_of_ble_eq_true rfl) (congrArg _ ci_1) (fun _ => rfl) hh (fun x9 hh => ?_)
      refine J_goto (pc := 118) 17 dX7_looks_118 (by decide) ?_
      refine J_drop 5 (L' := [some (.ref 19), some (.int v1), some (.int v2), some (.int x6), some (.int x9), none, none]) rfl ?_
      obtain rfl := Option.some.inj hh
      exact hk
    · replace hh := (if_pos c13).symm.trans hh
      refine J_iload (pc := 100) dX7_looks_100 rfl ?_
      refine J_aload_n (pc := 102) dX7_looks_102 rfl ?_
      refine J_getI (pc := 103) (k := 17) flX7_247 so19 fk19_17 dX7_looks_103 ?_
      refine J_icmp_eq (pc := 106) 114 dX7_looks_106 (by decide) (fun c12 => ?_) (fun c12 => ?_)
      · replace hh := (if_pos c12).symm.trans hh
        obtain rfl := Option.some.inj hh
        obtain ⟨rfl, rfl⟩ := hk
        exact J_ret (w := none) ⟨dX7_looks_114, rfl⟩
      · replace hh := (if_neg c12).symm.trans hh
        refine J_iload (pc := 109) dX7_looks_109 rfl ?_
        refine J_if_lt (pc := 111) 115 dX7_looks_111 (by decide) (fun c11 => ?_) (fun c11 => ?_)
        · replace hh := (if_pos c11).symm.trans hh
          refine J_iincL (pc := 115) (v := v4 + (1 : Int32)) (fun x10 => [some (.ref 19), some (.int v1), some (.int v2), some (.int x6), some (.int x10), some (.int v5), none]) dX7_looks_115 rfl rfl (Nat.le_of_ble_eq_true rfl) (congrArg _ ci_1) (fun _ => rfl) hh (fun x10 hh => ?_)
          refine J_goto (pc := 118) 17 dX7_looks_118 (by decide) ?_
          refine J_drop 5 (L' := [some (.ref 19), some (.int v1), some (.int v2), some (.int x6), some (.int x10), none, none]) rfl ?_
          obtain rfl := Option.some.inj hh
          exact hk
        · replace hh := (if_neg c11).symm.trans hh
          obtain rfl := Option.some.inj hh
          obtain ⟨rfl, rfl⟩ := hk
          exact J_ret (w := none) ⟨dX7_looks_114, rfl⟩
def gX7_looks_80 (s : Mem) (v1 : Int32) (v2 : Int32) (v4 : Int32) (v5 : Int32) (k0 : Int32) : Option ((Mem ⊕ (Int32 × Int32)) ⊕ (Int32 × Int32 × Int32)) :=
  gX7_looks_81 s v1 v2 v4 v5 (0 : Int32) k0
set_option maxRecDepth 4000 in
theorem jgX7_looks_80 {X : Scr} (d : Nat) (s : Mem) (v1 : Int32) (v2 : Int32) (v4 : Int32) (v5 : Int32) (k0 : Int32) {r : ((Mem ⊕ (Int32 × Int32)) ⊕ (Int32 × Int32 × Int32))} {w : Option Value} {s' : Mem} (hh : gX7_looks_80 s v1 v2 v4 v5 k0 = some r) (hk : Sum.elim (Sum.elim (fun q : Mem => w = none ∧ q = s') (fun t : (Int32 × Int32) => J X MX7_looks (d + 3) 121 [some (.ref 19), some (.int v1), some (.int t.1), some (.int t.2), none, none, none] [] s w s')) (fun a : (Int32 × Int32 × Int32) => J X MX7_looks (d + 3) 17 [some (.ref 19), some (.int v1), some (.int a.1), some (.int a.2.1), some (.int a.2.2), none, none] [] s w s') r) : J X MX7_looks (d + 3) 80 [some (.ref 19), some (.int v1), some (.int v2), none, some (.int v4), some (.int v5), none] [.int k0] s w s' := by
  unfold gX7_looks_80 at hh
  refine J_iconst (pc := 80) dX7_looks_80 ci_0 ?_
  exact jgX7_looks_81 d s v1 v2 v4 v5 (0 : Int32) k0 hh hk
def gX7_looks_54 (s : Mem) (v1 : Int32) (v3 : Int32) (v4 : Int32) (v5 : Int32) (k0 : Int32) (k1 : Int32) : Option ((Mem ⊕ (Int32 × Int32)) ⊕ (Int32 × Int32 × Int32)) :=
  lt (k1 + k0) (fun x5 => if v5 < (0 : Int32) then gX7_looks_80 s v1 x5 v4 v5 v3 else gd v4 6 (if (s.1 24 v4.toNatClampNeg) = (v5 + (1 : Int32)) then gX7_looks_80 s v1 x5 v4 v5 v3 else gX7_looks_81 s v1 x5 v4 v5 (1 : Int32) v3))
set_option maxRecDepth 4000 in
theorem jgX7_looks_54 {X : Scr} (d : Nat) (s : Mem) (v1 : Int32) (v3 : Int32) (v4 : Int32) (v5 : Int32) (k0 : Int32) (k1 : Int32) {r : ((Mem ⊕ (Int32 × Int32)) ⊕ (Int32 × Int32 × Int32))} {w : Option Value} {s' : Mem} (hh : gX7_looks_54 s v1 v3 v4 v5 k0 k1 = some r) (hk : Sum.elim (Sum.elim (fun q : Mem => w = none ∧ q = s') (fun t : (Int32 × Int32) => J X MX7_looks (d + 3) 121 [some (.ref 19), some (.int v1), some (.int t.1), some (.int t.2), none, none, none] [] s w s')) (fun a : (Int32 × Int32 × Int32) => J X MX7_looks (d + 3) 17 [some (.ref 19), some (.int v1), some (.int a.1), some (.int a.2.1), some (.int a.2.2), none, none] [] s w s') r) : J X MX7_looks (d + 3) 54 [some (.ref 19), some (.int v1), none, some (.int v3), some (.int v4), some (.int v5), none] [.int k0, .int k1] s w s' := by
  unfold gX7_looks_54 at hh
  refine J_iadd (pc := 54) dX7_looks_54 ?_
  refine J_istoreL_n (pc := 55) (fun x5 => [some (.ref 19), some (.int v1), some (.int x5), some (.int v3), some (.int v4), some (.int v5), none]) dX7_looks_55 rfl (Nat.le_of_ble_eq_true rfl) (fun _ => rfl) hh (fun x5 hh => ?_)
  refine J_iload_n (pc := 56) dX7_looks_56 rfl ?_
  refine J_iload (pc := 57) dX7_looks_57 rfl ?_
  refine J_if_lt (pc := 59) 80 dX7_looks_59 (by decide) (fun c17 => ?_) (fun c17 => ?_)
  · replace hh := (if_pos c17).symm.trans hh
    refine J_drop 3 (L' := [some (.ref 19), some (.int v1), some (.int x5), none, some (.int v4), some (.int v5), none]) rfl ?_
    exact jgX7_looks_80 d s v1 x5 v4 v5 v3 hh hk
  · replace hh := (if_neg c17).symm.trans hh
    refine J_aload_n (pc := 62) dX7_looks_62 rfl ?_
    refine J_getR (pc := 63) (k := 7) flX7_28 so19 fk19_7 dX7_looks_63 ?_
    refine J_iload (pc := 66) dX7_looks_66 rfl ?_
    obtain ⟨h15, hh⟩ := gd_some hh
    refine J_iald (pc := 68) dX7_looks_68 sa24 h15 ?_
    refine J_iload (pc := 69) dX7_looks_69 rfl ?_
    refine J_iconst (pc := 71) dX7_looks_71 ci_1 ?_
    refine J_iadd (pc := 72) dX7_looks_72 ?_
    refine J_icmp_eq (pc := 73) 80 dX7_looks_73 (by decide) (fun c16 => ?_) (fun c16 => ?_)
    · replace hh := (if_pos c16).symm.trans hh
      refine J_drop 3 (L' := [some (.ref 19), some (.int v1), some (.int x5), none, some (.int v4), some (.int v5), none]) rfl ?_
      exact jgX7_looks_80 d s v1 x5 v4 v5 v3 hh hk
    · replace hh := (if_neg c16).symm.trans hh
      refine J_iconst (pc := 76) dX7_looks_76 ci_1 ?_
      refine J_goto (pc := 77) 81 dX7_looks_77 (by decide) ?_
      refine J_drop 3 (L' := [some (.ref 19), some (.int v1), some (.int x5), none, some (.int v4), some (.int v5), none]) rfl ?_
      exact jgX7_looks_81 d s v1 x5 v4 v5 (1 : Int32) v3 hh hk
def bX7_looks_17 (s : Mem) (v1 : Int32) (v2 : Int32) (v3 : Int32) (v4 : Int32) : Option ((Mem ⊕ (Int32 × Int32)) ⊕ (Int32 × Int32 × Int32)) :=
  gd (96 : Int32) 139 (if (s.1 20 (96 : Int32).toNatClampNeg) ≤ v4 then some (Sum.inl (Sum.inr (v2, v3))) else (fX7_triple s v4 v1).bind (fun y3 => gd v4 6 (if (s.1 24 v4.toNatClampNeg) ≤ (0 : Int32) then gX7_looks_54 s v1 v3 v4 y3 (0 : Int32) v2 else gX7_looks_54 s v1 v3 v4 y3 (1 : Int32) v2)))
set_option maxRecDepth 4000 in
theorem jbX7_looks_17 {X : Scr} (d : Nat) (s : Mem) (v1 : Int32) (v2 : Int32) (v3 : Int32) (v4 : Int32) {r : ((Mem ⊕ (Int32 × Int32)) ⊕ (Int32 × Int32 × Int32))} {w : Option Value} {s' : Mem} (hh : bX7_looks_17 s v1 v2 v3 v4 = some r) (hk : Sum.elim (Sum.elim (fun q : Mem => w = none ∧ q = s') (fun t : (Int32 × Int32) => J X MX7_looks (d + 3) 121 [some (.ref 19), some (.int v1), some (.int t.1), some (.int t.2), none, none, none] [] s w s')) (fun a : (Int32 × Int32 × Int32) => J X MX7_looks (d + 3) 17 [some (.ref 19), some (.int v1), some (.int a.1), some (.int a.2.1), some (.int a.2.2), none, none] [] s w s') r) : J X MX7_looks (d + 3) 17 [some (.ref 19), some (.int v1), some (.int v2), some (.int v3), some (.int v4), none, none] [] s w s' := by
  unfold bX7_looks_17 at hh
  refine J_iload (pc := 17) dX7_looks_17 rfl ?_
  refine J_aload_n (pc := 19) dX7_looks_19 rfl ?_
  refine J_getR (pc := 20) (k := 0) flX7_9 so19 fk19_0 dX7_looks_20 ?_
  refine J_bipush (pc := 23) dX7_looks_23 cb_96 ?_
  obtain ⟨h2, hh⟩ := gd_some hh
  refine J_iald (pc := 25) dX7_looks_25 sa20 h2 ?_
  refine J_icmp_ge (pc := 26) 121 dX7_looks_26 (by decide) (fun c19 => ?_) (fun c19 => ?_)
  · replace hh := (if_pos c19).symm.trans hh
    refine J_drop 4 (L' := [some (.ref 19), some (.int v1), some (.int v2), some (.int v3), none, none, none]) rfl ?_
    obtain rfl := Option.some.inj hh
    exact hk
  · replace hh := (if_neg c19).symm.trans hh
    refine J_aload_n (pc := 29) dX7_looks_29 rfl ?_
    refine J_iload (pc := 30) dX7_looks_30 rfl ?_
    refine J_iload_n (pc := 32) dX7_looks_32 rfl ?_
    obtain ⟨y3, hy3, hh⟩ := bd_some hh
    refine J_callVi (pc := 33) (M' := MX7_triple) (a := 19) (rest := []) (As := [.int v4, .int v1]) (L0 := [some (.ref 19), some (.int v4), some (.int v1)]) okX7_triple ovX7_triple mlX7_105 clX7 so19 rfl rfl (Nat.le_of_ble_eq_true rfl) dX7_looks_33 rfl (Nat.le_of_ble_eq_true rfl) (jX7_triple (X := X) (d + 2) s v4 v1 hy3) ?_
    refine J_istore (pc := 36) (L' := [some (.ref 19), some (.int v1), some (.int v2), some (.int v3), some (.int v4), some (.int y3), none]) dX7_looks_36 rfl (Nat.le_of_ble_eq_true rfl) rfl ?_
    refine J_iload_n (pc := 38) dX7_looks_38 rfl ?_
    refine J_aload_n (pc := 39) dX7_looks_39 rfl ?_
    refine J_getR (pc := 40) (k := 7) flX7_28 so19 fk19_7 dX7_looks_40 ?_
    refine J_iload (pc := 43) dX7_looks_43 rfl ?_
    obtain ⟨h4, hh⟩ := gd_some hh
    refine J_iald (pc := 45) dX7_looks_45 sa24 h4 ?_
    refine J_if_le (pc := 46) 53 dX7_looks_46 (by decide) (fun c18 => ?_) (fun c18 => ?_)
    · replace hh := (if_pos c18).symm.trans hh
      refine J_iconst (pc := 53) dX7_looks_53 ci_0 ?_
      refine J_drop 2 (L' := [some (.ref 19), some (.int v1), none, some (.int v3), some (.int v4), some (.int y3), none]) rfl ?_
      exact jgX7_looks_54 d s v1 v3 v4 y3 (0 : Int32) v2 hh hk
    · replace hh := (if_neg c18).symm.trans hh
      refine J_iconst (pc := 49) dX7_looks_49 ci_1 ?_
      refine J_goto (pc := 50) 54 dX7_looks_50 (by decide) ?_
      refine J_drop 2 (L' := [some (.ref 19), some (.int v1), none, some (.int v3), some (.int v4), some (.int y3), none]) rfl ?_
      exact jgX7_looks_54 d s v1 v3 v4 y3 (1 : Int32) v2 hh hk
def bX7_looks_234 (s : Mem) (v6 : Int32) : Option (Mem ⊕ (Int32 × Mem)) :=
  if (6 : Int32) ≤ v6 then some (Sum.inl s) else gd v6 6 (gd v6 6 (lt (up2 s 25 v6.toNatClampNeg (s.1 24 v6.toNatClampNeg)) (fun s29 => lt (v6 + (1 : Int32)) (fun x30 => some (Sum.inr (x30, s29))))))
set_option maxRecDepth 4000 in
theorem jbX7_looks_234 {X : Scr} (d : Nat) (s : Mem) (v6 : Int32) {r : (Mem ⊕ (Int32 × Mem))} {w : Option Value} {s' : Mem} (hh : bX7_looks_234 s v6 = some r) (hk : Sum.elim (fun t : Mem => J X MX7_looks (d + 3) 261 [none, none, none, none, none, none, none] [] t w s') (fun a : (Int32 × Mem) => J X MX7_looks (d + 3) 234 [some (.ref 19), none, none, none, none, none, some (.int a.1)] [] a.2 w s') r) : J X MX7_looks (d + 3) 234 [some (.ref 19), none, none, none, none, none, some (.int v6)] [] s w s' := by
  unfold bX7_looks_234 at hh
  refine J_iload (pc := 234) dX7_looks_234 rfl ?_
  refine J_bipush (pc := 236) dX7_looks_236 cb_6 ?_
  refine J_icmp_ge (pc := 238) 261 dX7_looks_238 (by decide) (fun c31 => ?_) (fun c31 => ?_)
  · replace hh := (if_pos c31).symm.trans hh
    refine J_drop 0 (L' := [none, none, none, none, none, none, some (.int v6)]) rfl ?_
    refine J_drop 6 (L' := [none, none, none, none, none, none, none]) rfl ?_
    obtain rfl := Option.some.inj hh
    exact hk
  · replace hh := (if_neg c31).symm.trans hh
    refine J_aload_n (pc := 241) dX7_looks_241 rfl ?_
    refine J_getR (pc := 242) (k := 8) flX7_31 so19 fk19_8 dX7_looks_242 ?_
    refine J_iload (pc := 245) dX7_looks_245 rfl ?_
    refine J_aload_n (pc := 247) dX7_looks_247 rfl ?_
    refine J_getR (pc := 248) (k := 7) flX7_28 so19 fk19_7 dX7_looks_248 ?_
    refine J_iload (pc := 251) dX7_looks_251 rfl ?_
    obtain ⟨h27, hh⟩ := gd_some hh
    refine J_iald (pc := 253) dX7_looks_253 sa24 h27 ?_
    obtain ⟨h28, hh⟩ := gd_some hh
    refine J_iastL (pc := 254) dX7_looks_254 sa25 h28 hh (fun s29 hh => ?_)
    refine J_iincL (pc := 255) (v := v6 + (1 : Int32)) (fun x30 => [some (.ref 19), none, none, none, none, none, some (.int x30)]) dX7_looks_255 rfl rfl (Nat.le_of_ble_eq_true rfl) (congrArg _ ci_1) (fun _ => rfl) hh (fun x30 hh => ?_)
    refine J_goto (pc := 258) 234 dX7_looks_258 (by decide) ?_
    obtain rfl := Option.some.inj hh
    exact hk
def gX7_looks_202 (s : Mem) (v2 : Int32) (v3 : Int32) (v4 : Int32) (k0 : Int32) : Option Mem :=
  if k0 = (0 : Int32) then some s else lt (up2 s 19 16 (1 : Int32)) (fun s23 => lt (up2 s23 19 12 v2) (fun s24 => lt (up2 s24 19 13 v4) (fun s25 => lt (up2 s25 19 14 v3) (fun s26 => (lp (fun a => bX7_looks_234 a.2 a.1) 600 ((0 : Int32), s26)).bind (fun y32 => some y32)))))
set_option maxRecDepth 4000 in
theorem jgX7_looks_202 {X : Scr} (d : Nat) (s : Mem) (v2 : Int32) (v3 : Int32) (v4 : Int32) (k0 : Int32) {r : Mem} {w : Option Value} {s' : Mem} (hh : gX7_looks_202 s v2 v3 v4 k0 = some r) (hk : w = none ∧ r = s') : J X MX7_looks (d + 3) 202 [some (.ref 19), none, some (.int v2), some (.int v3), some (.int v4), none, none] [.int k0] s w s' := by
  unfold gX7_looks_202 at hh
  refine J_istore (pc := 202) (L' := [some (.ref 19), none, some (.int v2), some (.int v3), some (.int v4), some (.int k0), none]) dX7_looks_202 rfl (Nat.le_of_ble_eq_true rfl) rfl ?_
  refine J_iload (pc := 204) dX7_looks_204 rfl ?_
  refine J_if_ne (pc := 206) 210 dX7_looks_206 (by decide) (fun c33 => ?_) (fun c33 => ?_)
  · replace hh := (if_neg c33).symm.trans hh
    refine J_aload_n (pc := 210) dX7_looks_210 rfl ?_
    refine J_iconst (pc := 211) dX7_looks_211 ci_1 ?_
    refine J_putIL (pc := 212) (k := 16) fpX7_257 so19 fk19_16 rfl rfl dX7_looks_212 hh (fun s23 hh => ?_)
    refine J_aload_n (pc := 215) dX7_looks_215 rfl ?_
    refine J_iload_n (pc := 216) dX7_looks_216 rfl ?_
    refine J_putIL (pc := 217) (k := 12) fpX7_260 so19 fk19_12 rfl rfl dX7_looks_217 hh (fun s24 hh => ?_)
    refine J_aload_n (pc := 220) dX7_looks_220 rfl ?_
    refine J_iload (pc := 221) dX7_looks_221 rfl ?_
    refine J_putIL (pc := 223) (k := 13) fpX7_263 so19 fk19_13 rfl rfl dX7_looks_223 hh (fun s25 hh => ?_)
    refine J_aload_n (pc := 226) dX7_looks_226 rfl ?_
    refine J_iload_n (pc := 227) dX7_looks_227 rfl ?_
    refine J_putIL (pc := 228) (k := 14) fpX7_266 so19 fk19_14 rfl rfl dX7_looks_228 hh (fun s26 hh => ?_)
    refine J_iconst (pc := 231) dX7_looks_231 ci_0 ?_
    refine J_istore (pc := 232) (L' := [some (.ref 19), none, some (.int v2), some (.int v3), some (.int v4), some (.int k0), some (.int (0 : Int32))]) dX7_looks_232 rfl (Nat.le_of_ble_eq_true rfl) rfl ?_
    refine J_drop 2 (L' := [some (.ref 19), none, none, some (.int v3), some (.int v4), some (.int k0), some (.int (0 : Int32))]) rfl ?_
    refine J_drop 3 (L' := [some (.ref 19), none, none, none, some (.int v4), some (.int k0), some (.int (0 : Int32))]) rfl ?_
    refine J_drop 4 (L' := [some (.ref 19), none, none, none, none, some (.int k0), some (.int (0 : Int32))]) rfl ?_
    refine J_drop 5 (L' := [some (.ref 19), none, none, none, none, none, some (.int (0 : Int32))]) rfl ?_
    obtain ⟨y32, hy32, hh⟩ := bd_some hh
    refine J_lp (a := ((0 : Int32), s26)) (fun a : (Int32 × Mem) => J X MX7_looks (d + 3) 234 [some (.ref 19), none, none, none, none, none, some (.int a.1)] [] a.2 w s') (fun t : Mem => J X MX7_looks (d + 3) 261 [none, none, none, none, none, none, none] [] t w s') (fun a q h1 h2 => jbX7_looks_234 d a.2 a.1 h1 h2) hy32 ?_
    obtain rfl := Option.some.inj hh
    obtain ⟨rfl, rfl⟩ := hk
    exact J_ret (w := none) ⟨dX7_looks_261, rfl⟩
  · replace hh := (if_pos c33).symm.trans hh
    obtain rfl := Option.some.inj hh
    obtain ⟨rfl, rfl⟩ := hk
    exact J_ret (w := none) ⟨dX7_looks_209, rfl⟩
def gX7_looks_197 (s : Mem) (v2 : Int32) (v3 : Int32) (v4 : Int32) : Option Mem :=
  gX7_looks_202 s v2 v3 v4 (1 : Int32)
set_option maxRecDepth 4000 in
theorem jgX7_looks_197 {X : Scr} (d : Nat) (s : Mem) (v2 : Int32) (v3 : Int32) (v4 : Int32) {r : Mem} {w : Option Value} {s' : Mem} (hh : gX7_looks_197 s v2 v3 v4 = some r) (hk : w = none ∧ r = s') : J X MX7_looks (d + 3) 197 [some (.ref 19), none, some (.int v2), some (.int v3), some (.int v4), none, none] [] s w s' := by
  unfold gX7_looks_197 at hh
  refine J_iconst (pc := 197) dX7_looks_197 ci_1 ?_
  refine J_goto (pc := 198) 202 dX7_looks_198 (by decide) ?_
  exact jgX7_looks_202 d s v2 v3 v4 (1 : Int32) hh hk
def gX7_looks_201 (s : Mem) (v2 : Int32) (v3 : Int32) (v4 : Int32) : Option Mem :=
  gX7_looks_202 s v2 v3 v4 (0 : Int32)
set_option maxRecDepth 4000 in
theorem jgX7_looks_201 {X : Scr} (d : Nat) (s : Mem) (v2 : Int32) (v3 : Int32) (v4 : Int32) {r : Mem} {w : Option Value} {s' : Mem} (hh : gX7_looks_201 s v2 v3 v4 = some r) (hk : w = none ∧ r = s') : J X MX7_looks (d + 3) 201 [some (.ref 19), none, some (.int v2), some (.int v3), some (.int v4), none, none] [] s w s' := by
  unfold gX7_looks_201 at hh
  refine J_iconst (pc := 201) dX7_looks_201 ci_0 ?_
  exact jgX7_looks_202 d s v2 v3 v4 (0 : Int32) hh hk
def gX7_looks_148 (s : Mem) (v2 : Int32) (v3 : Int32) (v4 : Int32) : Option Mem :=
  if (s.1 19 16) = (0 : Int32) then gX7_looks_197 s v2 v3 v4 else if (s.1 19 12) < v2 then gX7_looks_197 s v2 v3 v4 else if v2 = (s.1 19 12) then if v4 < (s.1 19 13) then gX7_looks_197 s v2 v3 v4 else if v4 = (s.1 19 13) then if (s.1 19 14) ≤ v3 then gX7_looks_201 s v2 v3 v4 else gX7_looks_197 s v2 v3 v4 else gX7_looks_201 s v2 v3 v4 else gX7_looks_201 s v2 v3 v4
set_option maxRecDepth 4000 in
theorem jgX7_looks_148 {X : Scr} (d : Nat) (s : Mem) (v2 : Int32) (v3 : Int32) (v4 : Int32) {r : Mem} {w : Option Value} {s' : Mem} (hh : gX7_looks_148 s v2 v3 v4 = some r) (hk : w = none ∧ r = s') : J X MX7_looks (d + 3) 148 [some (.ref 19), none, some (.int v2), some (.int v3), some (.int v4), none, none] [] s w s' := by
  unfold gX7_looks_148 at hh
  refine J_aload_n (pc := 148) dX7_looks_148 rfl ?_
  refine J_getI (pc := 149) (k := 16) flX7_257 so19 fk19_16 dX7_looks_149 ?_
  refine J_if_eq (pc := 152) 197 dX7_looks_152 (by decide) (fun c39 => ?_) (fun c39 => ?_)
  · replace hh := (if_pos c39).symm.trans hh
    exact jgX7_looks_197 d s v2 v3 v4 hh hk
  · replace hh := (if_neg c39).symm.trans hh
    refine J_iload_n (pc := 155) dX7_looks_155 rfl ?_
    refine J_aload_n (pc := 156) dX7_looks_156 rfl ?_
    refine J_getI (pc := 157) (k := 12) flX7_260 so19 fk19_12 dX7_looks_157 ?_
    refine J_icmp_gt (pc := 160) 197 dX7_looks_160 (by decide) (fun c38 => ?_) (fun c38 => ?_)
    · replace hh := (if_pos c38).symm.trans hh
      exact jgX7_looks_197 d s v2 v3 v4 hh hk
    · replace hh := (if_neg c38).symm.trans hh
      refine J_iload_n (pc := 163) dX7_looks_163 rfl ?_
      refine J_aload_n (pc := 164) dX7_looks_164 rfl ?_
      refine J_getI (pc := 165) (k := 12) flX7_260 so19 fk19_12 dX7_looks_165 ?_
      refine J_icmp_ne (pc := 168) 201 dX7_looks_168 (by decide) (fun c37 => ?_) (fun c37 => ?_)
      · replace hh := (if_neg c37).symm.trans hh
        exact jgX7_looks_201 d s v2 v3 v4 hh hk
      · replace hh := (if_pos c37).symm.trans hh
        refine J_iload (pc := 171) dX7_looks_171 rfl ?_
        refine J_aload_n (pc := 173) dX7_looks_173 rfl ?_
        refine J_getI (pc := 174) (k := 13) flX7_263 so19 fk19_13 dX7_looks_174 ?_
        refine J_icmp_lt (pc := 177) 197 dX7_looks_177 (by decide) (fun c36 => ?_) (fun c36 => ?_)
        · replace hh := (if_pos c36).symm.trans hh
          exact jgX7_looks_197 d s v2 v3 v4 hh hk
        · replace hh := (if_neg c36).symm.trans hh
          refine J_iload (pc := 180) dX7_looks_180 rfl ?_
          refine J_aload_n (pc := 182) dX7_looks_182 rfl ?_
          refine J_getI (pc := 183) (k := 13) flX7_263 so19 fk19_13 dX7_looks_183 ?_
          refine J_icmp_ne (pc := 186) 201 dX7_looks_186 (by decide) (fun c35 => ?_) (fun c35 => ?_)
          · replace hh := (if_neg c35).symm.trans hh
            exact jgX7_looks_201 d s v2 v3 v4 hh hk
          · replace hh := (if_pos c35).symm.trans hh
            refine J_iload_n (pc := 189) dX7_looks_189 rfl ?_
            refine J_aload_n (pc := 190) dX7_looks_190 rfl ?_
            refine J_getI (pc := 191) (k := 14) flX7_266 so19 fk19_14 dX7_looks_191 ?_
            refine J_icmp_ge (pc := 194) 201 dX7_looks_194 (by decide) (fun c34 => ?_) (fun c34 => ?_)
            · replace hh := (if_pos c34).symm.trans hh
              exact jgX7_looks_201 d s v2 v3 v4 hh hk
            · replace hh := (if_neg c34).symm.trans hh
              exact jgX7_looks_197 d s v2 v3 v4 hh hk
def gX7_looks_137 (s : Mem) (v2 : Int32) (v3 : Int32) (k0 : Int32) : Option Mem :=
  if (s.1 19 17) < (0 : Int32) then gX7_looks_148 s v2 v3 k0 else gX7_looks_148 s (0 : Int32) v3 k0
set_option maxRecDepth 4000 in
theorem jgX7_looks_137 {X : Scr} (d : Nat) (s : Mem) (v2 : Int32) (v3 : Int32) (k0 : Int32) {r : Mem} {w : Option Value} {s' : Mem} (hh : gX7_looks_137 s v2 v3 k0 = some r) (hk : w = none ∧ r = s') : J X MX7_looks (d + 3) 137 [some (.ref 19), none, some (.int v2), some (.int v3), none, none, none] [.int k0] s w s' := by
  unfold gX7_looks_137 at hh
  refine J_istore (pc := 137) (L' := [some (.ref 19), none, some (.int v2), some (.int v3), some (.int k0), none, none]) dX7_looks_137 rfl (Nat.le_of_ble_eq_true rfl) rfl ?_
  refine J_aload_n (pc := 139) dX7_looks_139 rfl ?_
  refine J_getI (pc := 140) (k := 17) flX7_247 so19 fk19_17 dX7_looks_140 ?_
  refine J_if_lt (pc := 143) 148 dX7_looks_143 (by decide) (fun c40 => ?_) (fun c40 => ?_)
  · replace hh := (if_pos c40).symm.trans hh
    exact jgX7_looks_148 d s v2 v3 k0 hh hk
  · replace hh := (if_neg c40).symm.trans hh
    refine J_iconst (pc := 146) dX7_looks_146 ci_0 ?_
    refine J_istore_n (pc := 147) (L' := [some (.ref 19), none, some (.int (0 : Int32)), some (.int v3), some (.int k0), none, none]) dX7_looks_147 rfl (Nat.le_of_ble_eq_true rfl) rfl ?_
    exact jgX7_looks_148 d s (0 : Int32) v3 k0 hh hk
def fX7_looks (s : Mem) (p0 : Int32) : Option Mem :=
  lt (upL s 19 11 ((s.2 19 11) + (1 : Int64))) (fun s1 => (lp (fun a => bX7_looks_17 s1 p0 a.1 a.2.1 a.2.2) 600 ((0 : Int32), (0 : Int32), (0 : Int32))).bind (fun y20 => Sum.elim (fun q22 => some q22) (fun t21 => if (s1.1 19 15) = (0 : Int32) then gX7_looks_137 s1 t21.1 t21.2 (0 : Int32) else (fX7_unevenNow s1 p0).bind (fun y41 => gX7_looks_137 s1 t21.1 t21.2 y41)) y20))
set_option maxRecDepth 4000 in
theorem jjX7_looks {X : Scr} (d : Nat) (s : Mem) (p0 : Int32) {r : Mem} {w : Option Value} {s' : Mem} (hh : fX7_looks s p0 = some r) (hk : w = none ∧ r = s') : J X MX7_looks (d + 3) 0 [some (.ref 19), some (.int p0), none, none, none, none, none] [] s w s' := by
  unfold fX7_looks at hh
  refine J_aload_n (pc := 0) dX7_looks_0 rfl ?_
  refine J_dup (pc := 1) dX7_looks_1 rfl ?_
  refine J_getJ (pc := 2) (k := 11) flX7_243 so19 fk19_11 dX7_looks_2 ?_
  refine J_lconst (pc := 5) (v := 1) dX7_looks_5 rfl ?_
  refine J_ladd (pc := 6) dX7_looks_6 ?_
  refine J_putJL (pc := 7) (k := 11) fpX7_243 so19 fk19_11 rfl rfl dX7_looks_7 hh (fun s1 hh => ?_)
  refine J_iconst (pc := 10) dX7_looks_10 ci_0 ?_
  refine J_istore_n (pc := 11) (L' := [some (.ref 19), some (.int p0), some (.int (0 : Int32)), none, none, none, none]) dX7_looks_11 rfl (Nat.le_of_ble_eq_true rfl) rfl ?_
  refine J_iconst (pc := 12) dX7_looks_12 ci_0 ?_
  refine J_istore_n (pc := 13) (L' := [some (.ref 19), some (.int p0), some (.int (0 : Int32)), some (.int (0 : Int32)), none, none, none]) dX7_looks_13 rfl (Nat.le_of_ble_eq_true rfl) rfl ?_
  refine J_iconst (pc := 14) dX7_looks_14 ci_0 ?_
  refine J_istore (pc := 15) (L' := [some (.ref 19), some (.int p0), some (.int (0 : Int32)), some (.int (0 : Int32)), some (.int (0 : Int32)), none, none]) dX7_looks_15 rfl (Nat.le_of_ble_eq_true rfl) rfl ?_
  obtain ⟨y20, hy20, hh⟩ := bd_some hh
  refine J_lp (a := ((0 : Int32), (0 : Int32), (0 : Int32))) (fun a : (Int32 × Int32 × Int32) => J X MX7_looks (d + 3) 17 [some (.ref 19), some (.int p0), some (.int a.1), some (.int a.2.1), some (.int a.2.2), none, none] [] s1 w s') (Sum.elim (fun q : Mem => w = none ∧ q = s') (fun t : (Int32 × Int32) => J X MX7_looks (d + 3) 121 [some (.ref 19), some (.int p0), some (.int t.1), some (.int t.2), none, none, none] [] s1 w s')) (fun a q h1 h2 => jbX7_looks_17 d s1 p0 a.1 a.2.1 a.2.2 h1 h2) hy20 ?_
  cases y20 with
  | inl q22 =>
    obtain rfl := Option.some.inj hh
    exact hk
  | inr t21 =>
    skip
    replace hh : (if (s1.1 19 15) = (0 : Int32) then gX7_looks_137 s1 t21.1 t21.2 (0 : Int32) else (fX7_unevenNow s1 p0).bind (fun y41 => gX7_looks_137 s1 t21.1 t21.2 y41)) = some r := hh
    refine J_aload_n (pc := 121) dX7_looks_121 rfl ?_
    refine J_getI (pc := 122) (k := 15) flX7_250 so19 fk19_15 dX7_looks_122 ?_
    refine J_if_eq (pc := 125) 136 dX7_looks_125 (by decide) (fun c42 => ?_) (fun c42 => ?_)
    · replace hh := (if_pos c42).symm.trans hh
      refine J_iconst (pc := 136) dX7_looks_136 ci_0 ?_
      refine J_drop 1 (L' := [some (.ref 19), none, some (.int t21.1), some (.int t21.2), none, none, none]) rfl ?_
      exact jgX7_looks_137 d s1 t21.1 t21.2 (0 : Int32) hh hk
    · replace hh := (if_neg c42).symm.trans hh
      refine J_aload_n (pc := 128) dX7_looks_128 rfl ?_
      refine J_iload_n (pc := 129) dX7_looks_129 rfl ?_
      obtain ⟨y41, hy41, hh⟩ := bd_some hh
      refine J_callVi (pc := 130) (M' := MX7_unevenNow) (a := 19) (rest := []) (As := [.int p0]) (L0 := [some (.ref 19), some (.int p0), none, none, none, none]) okX7_unevenNow ovX7_unevenNow mlX7_254 clX7 so19 rfl rfl (Nat.le_of_ble_eq_true rfl) dX7_looks_130 rfl (Nat.le_of_ble_eq_true rfl) (jX7_unevenNow (X := X) d s1 p0 hy41) ?_
      refine J_goto (pc := 133) 137 dX7_looks_133 (by decide) ?_
      refine J_drop 1 (L' := [some (.ref 19), none, some (.int t21.1), some (.int t21.2), none, none, none]) rfl ?_
      exact jgX7_looks_137 d s1 t21.1 t21.2 y41 hh hk
theorem jX7_looks {X : Scr} (d : Nat) (s : Mem) (p0 : Int32) {r : Mem} (hh : fX7_looks s p0 = some r) : J X MX7_looks (d + 3) 0 [some (.ref 19), some (.int p0), none, none, none, none, none] [] s (none) r := jjX7_looks d s p0 hh ⟨rfl, rfl⟩
theorem dX7_seatsFrom_0 : decode cX7_seatsFrom 0 = .ok (.iload_n 2, 1) := by decide +kernel
theorem dX7_seatsFrom_1 : decode cX7_seatsFrom 1 = .ok (.aload_n 0, 1) := by decide +kernel
theorem dX7_seatsFrom_2 : decode cX7_seatsFrom 2 = .ok (.getfield 9, 3) := by decide +kernel
theorem dX7_seatsFrom_5 : decode cX7_seatsFrom 5 = .ok (.bipush 96, 2) := by decide +kernel
theorem dX7_seatsFrom_7 : decode cX7_seatsFrom 7 = .ok (.iaload, 1) := by decide +kernel
theorem dX7_seatsFrom_8 : decode cX7_seatsFrom 8 = .ok (.if_icmp .ne 9, 3) := by decide +kernel
theorem dX7_seatsFrom_11 : decode cX7_seatsFrom 11 = .ok (.aload_n 0, 1) := by decide +kernel
theorem dX7_seatsFrom_12 : decode cX7_seatsFrom 12 = .ok (.iload_n 1, 1) := by decide +kernel
theorem dX7_seatsFrom_13 : decode cX7_seatsFrom 13 = .ok (.invokevirtual 269, 3) := by decide +kernel
theorem dX7_seatsFrom_16 : decode cX7_seatsFrom 16 = .ok (.return_, 1) := by decide +kernel
theorem dX7_seatsFrom_17 : decode cX7_seatsFrom 17 = .ok (.aload_n 0, 1) := by decide +kernel
theorem dX7_seatsFrom_18 : decode cX7_seatsFrom 18 = .ok (.getfield 28, 3) := by decide +kernel
theorem dX7_seatsFrom_21 : decode cX7_seatsFrom 21 = .ok (.iload_n 2, 1) := by decide +kernel
theorem dX7_seatsFrom_22 : decode cX7_seatsFrom 22 = .ok (.iconst 0, 1) := by decide +kernel
theorem dX7_seatsFrom_23 : decode cX7_seatsFrom 23 = .ok (.iastore, 1) := by decide +kernel
theorem dX7_seatsFrom_24 : decode cX7_seatsFrom 24 = .ok (.aload_n 0, 1) := by decide +kernel
theorem dX7_seatsFrom_25 : decode cX7_seatsFrom 25 = .ok (.iload_n 1, 1) := by decide +kernel
theorem dX7_seatsFrom_26 : decode cX7_seatsFrom 26 = .ok (.iload_n 2, 1) := by decide +kernel
theorem dX7_seatsFrom_27 : decode cX7_seatsFrom 27 = .ok (.iconst 1, 1) := by decide +kernel
theorem dX7_seatsFrom_28 : decode cX7_seatsFrom 28 = .ok (.iadd, 1) := by decide +kernel
theorem dX7_seatsFrom_29 : decode cX7_seatsFrom 29 = .ok (.invokevirtual 273, 3) := by decide +kernel
theorem dX7_seatsFrom_32 : decode cX7_seatsFrom 32 = .ok (.iconst 0, 1) := by decide +kernel
theorem dX7_seatsFrom_33 : decode cX7_seatsFrom 33 = .ok (.istore_n 3, 1) := by decide +kernel
theorem dX7_seatsFrom_34 : decode cX7_seatsFrom 34 = .ok (.iload_n 3, 1) := by decide +kernel
theorem dX7_seatsFrom_35 : decode cX7_seatsFrom 35 = .ok (.bipush 8, 2) := by decide +kernel
theorem dX7_seatsFrom_37 : decode cX7_seatsFrom 37 = .ok (.if_icmp .ge 65, 3) := by decide +kernel
theorem dX7_seatsFrom_40 : decode cX7_seatsFrom 40 = .ok (.aload_n 0, 1) := by decide +kernel
theorem dX7_seatsFrom_41 : decode cX7_seatsFrom 41 = .ok (.getfield 37, 3) := by decide +kernel
theorem dX7_seatsFrom_44 : decode cX7_seatsFrom 44 = .ok (.iload_n 2, 1) := by decide +kernel
theorem dX7_seatsFrom_45 : decode cX7_seatsFrom 45 = .ok (.iaload, 1) := by decide +kernel
theorem dX7_seatsFrom_46 : decode cX7_seatsFrom 46 = .ok (.iload_n 3, 1) := by decide +kernel
theorem dX7_seatsFrom_47 : decode cX7_seatsFrom 47 = .ok (.invokestatic 211, 3) := by decide +kernel
theorem dX7_seatsFrom_50 : decode cX7_seatsFrom 50 = .ok (.ifCond .eq 46, 3) := by decide +kernel
theorem dX7_seatsFrom_53 : decode cX7_seatsFrom 53 = .ok (.aload_n 0, 1) := by decide +kernel
theorem dX7_seatsFrom_54 : decode cX7_seatsFrom 54 = .ok (.iload_n 1, 1) := by decide +kernel
theorem dX7_seatsFrom_55 : decode cX7_seatsFrom 55 = .ok (.iload_n 3, 1) := by decide +kernel
theorem dX7_seatsFrom_56 : decode cX7_seatsFrom 56 = .ok (.invokevirtual 277, 3) := by decide +kernel
theorem dX7_seatsFrom_59 : decode cX7_seatsFrom 59 = .ok (.ifCond .ne 6, 3) := by decide +kernel
theorem dX7_seatsFrom_62 : decode cX7_seatsFrom 62 = .ok (.goto 34, 3) := by decide +kernel
theorem dX7_seatsFrom_65 : decode cX7_seatsFrom 65 = .ok (.aload_n 0, 1) := by decide +kernel
theorem dX7_seatsFrom_66 : decode cX7_seatsFrom 66 = .ok (.getfield 28, 3) := by decide +kernel
theorem dX7_seatsFrom_69 : decode cX7_seatsFrom 69 = .ok (.iload_n 2, 1) := by decide +kernel
theorem dX7_seatsFrom_70 : decode cX7_seatsFrom 70 = .ok (.iload_n 3, 1) := by decide +kernel
theorem dX7_seatsFrom_71 : decode cX7_seatsFrom 71 = .ok (.iconst 1, 1) := by decide +kernel
theorem dX7_seatsFrom_72 : decode cX7_seatsFrom 72 = .ok (.iadd, 1) := by decide +kernel
theorem dX7_seatsFrom_73 : decode cX7_seatsFrom 73 = .ok (.iastore, 1) := by decide +kernel
theorem dX7_seatsFrom_74 : decode cX7_seatsFrom 74 = .ok (.aload_n 0, 1) := by decide +kernel
theorem dX7_seatsFrom_75 : decode cX7_seatsFrom 75 = .ok (.iload_n 1, 1) := by decide +kernel
theorem dX7_seatsFrom_76 : decode cX7_seatsFrom 76 = .ok (.iload_n 3, 1) := by decide +kernel
theorem dX7_seatsFrom_77 : decode cX7_seatsFrom 77 = .ok (.iconst (-1), 1) := by decide +kernel
theorem dX7_seatsFrom_78 : decode cX7_seatsFrom 78 = .ok (.invokevirtual 280, 3) := by decide +kernel
theorem dX7_seatsFrom_81 : decode cX7_seatsFrom 81 = .ok (.aload_n 0, 1) := by decide +kernel
theorem dX7_seatsFrom_82 : decode cX7_seatsFrom 82 = .ok (.iload_n 1, 1) := by decide +kernel
theorem dX7_seatsFrom_83 : decode cX7_seatsFrom 83 = .ok (.iload_n 2, 1) := by decide +kernel
theorem dX7_seatsFrom_84 : decode cX7_seatsFrom 84 = .ok (.iconst 1, 1) := by decide +kernel
theorem dX7_seatsFrom_85 : decode cX7_seatsFrom 85 = .ok (.iadd, 1) := by decide +kernel
theorem dX7_seatsFrom_86 : decode cX7_seatsFrom 86 = .ok (.invokevirtual 273, 3) := by decide +kernel
theorem dX7_seatsFrom_89 : decode cX7_seatsFrom 89 = .ok (.aload_n 0, 1) := by decide +kernel
theorem dX7_seatsFrom_90 : decode cX7_seatsFrom 90 = .ok (.iload_n 1, 1) := by decide +kernel
theorem dX7_seatsFrom_91 : decode cX7_seatsFrom 91 = .ok (.iload_n 3, 1) := by decide +kernel
theorem dX7_seatsFrom_92 : decode cX7_seatsFrom 92 = .ok (.iconst 1, 1) := by decide +kernel
theorem dX7_seatsFrom_93 : decode cX7_seatsFrom 93 = .ok (.invokevirtual 280, 3) := by decide +kernel
theorem dX7_seatsFrom_96 : decode cX7_seatsFrom 96 = .ok (.iinc 3 1, 3) := by decide +kernel
theorem dX7_seatsFrom_99 : decode cX7_seatsFrom 99 = .ok (.goto (-65), 3) := by decide +kernel
theorem dX7_seatsFrom_102 : decode cX7_seatsFrom 102 = .ok (.aload_n 0, 1) := by decide +kernel
theorem dX7_seatsFrom_103 : decode cX7_seatsFrom 103 = .ok (.getfield 28, 3) := by decide +kernel
theorem dX7_seatsFrom_106 : decode cX7_seatsFrom 106 = .ok (.iload_n 2, 1) := by decide +kernel
theorem dX7_seatsFrom_107 : decode cX7_seatsFrom 107 = .ok (.iconst 0, 1) := by decide +kernel
theorem dX7_seatsFrom_108 : decode cX7_seatsFrom 108 = .ok (.iastore, 1) := by decide +kernel
theorem dX7_seatsFrom_109 : decode cX7_seatsFrom 109 = .ok (.return_, 1) := by decide +kernel
def bX7_seatsFrom_34 (rec : Mem → Int32 → Int32 → Option Mem) (s : Mem) (v1 : Int32) (v2 : Int32) (v3 : Int32) : Option (Mem ⊕ (Int32 × Mem)) :=
  if (8 : Int32) ≤ v3 then some (Sum.inl s) else gd v2 6 ((fX7_has (s.1 27 v2.toNatClampNeg) v3).bind (fun y6 => if y6 = (0 : Int32) then lt (v3 + (1 : Int32)) (fun x7 => some (Sum.inr (x7, s))) else (fX7_isFree s v1 v3).bind (fun y8 => if y8 = (0 : Int32) then lt (v3 + (1 : Int32)) (fun x15 => some (Sum.inr (x15, s))) else gd v2 6 (lt (up2 s 24 v2.toNatClampNeg (v3 + (1 : Int32))) (fun s10 => (fX7_sits s10 v1 v3 (-1 : Int32)).bind (fun y11 => (rec y11 v1 (v2 + (1 : Int32))).bind (fun y12 => (fX7_sits y12 v1 v3 (1 : Int32)).bind (fun y13 => lt (v3 + (1 : Int32)) (fun x14 => some (Sum.inr (x14, y13)))))))))))
set_option maxRecDepth 4000 in
theorem jbX7_seatsFrom_34 {X : Scr} {d : Nat} (rec : Mem → Int32 → Int32 → Option Mem) (hrec : ∀ s a b r, rec s a b = some r → J X MX7_seatsFrom (d + 3) 0 [some (.ref 19), some (.int a), some (.int b), none] [] s none r) (s : Mem) (v1 : Int32) (v2 : Int32) (v3 : Int32) {r : (Mem ⊕ (Int32 × Mem))} {w : Option Value} {s' : Mem} (hh : bX7_seatsFrom_34 rec s v1 v2 v3 = some r) (hk : Sum.elim (fun t : Mem => J X MX7_seatsFrom (d + 4) 102 [some (.ref 19), none, some (.int v2), none] [] t w s') (fun a : (Int32 × Mem) => J X MX7_seatsFrom (d + 4) 34 [some (.ref 19), some (.int v1), some (.int v2), some (.int a.1)] [] a.2 w s') r) : J X MX7_seatsFrom (d + 4) 34 [some (.ref 19), some (.int v1), some (.int v2), some (.int v3)] [] s w s' := by
  unfold bX7_seatsFrom_34 at hh
  refine J_iload_n (pc := 34) dX7_seatsFrom_34 rfl ?_
  refine J_bipush (pc := 35) dX7_seatsFrom_35 cb_8 ?_
  refine J_icmp_ge (pc := 37) 102 dX7_seatsFrom_37 (by decide) (fun c18 => ?_) (fun c18 => ?_)
  · replace hh := (if_pos c18).symm.trans hh
    refine J_drop 1 (L' := [some (.ref 19), none, some (.int v2), some (.int v3)]) rfl ?_
    refine J_drop 3 (L' := [some (.ref 19), none, some (.int v2), none]) rfl ?_
    obtain rfl := Option.some.inj hh
    exact hk
  · replace hh := (if_neg c18).symm.trans hh
    refine J_aload_n (pc := 40) dX7_seatsFrom_40 rfl ?_
    refine J_getR (pc := 41) (k := 10) flX7_37 so19 fk19_10 dX7_seatsFrom_41 ?_
    refine J_iload_n (pc := 44) dX7_seatsFrom_44 rfl ?_
    obtain ⟨h5, hh⟩ := gd_some hh
    refine J_iald (pc := 45) dX7_seatsFrom_45 sa27 h5 ?_
    refine J_iload_n (pc := 46) dX7_seatsFrom_46 rfl ?_
    obtain ⟨y6, hy6, hh⟩ := bd_some hh
    refine J_callSi (pc := 47) (M' := MX7_has) (rest := []) (As := [.int (s.1 27 v2.toNatClampNeg), .int v3]) (L0 := [some (.int (s.1 27 v2.toNatClampNeg)), some (.int v3)]) okX7_has osX7_has mlX7_211 rfl rfl (Nat.le_of_ble_eq_true rfl) dX7_seatsFrom_47 rfl (Nat.le_of_ble_eq_true rfl) (jX7_has (X := X) (d + 3) s (s.1 27 v2.toNatClampNeg) v3 hy6) ?_
    refine J_if_eq (pc := 50) 96 dX7_seatsFrom_50 (by decide) (fun c17 => ?_) (fun c17 => ?_)
    · replace hh := (if_pos c17).symm.trans hh
      refine J_iincL (pc := 96) (v := v3 + (1 : Int32)) (fun x7 => [some (.ref 19), some (.int v1), some (.int v2), some (.int x7)]) dX7_seatsFrom_96 rfl rfl (Nat.le_of_ble_eq_true rfl) (congrArg _ ci_1) (fun _ => rfl) hh (fun x7 hh => ?_)
      refine J_goto (pc := 99) 34 dX7_seatsFrom_99 (by decide) ?_
      obtain rfl := Option.some.inj hh
      exact hk
    · replace hh := (if_neg c17).symm.trans hh
      refine J_aload_n (pc := 53) dX7_seatsFrom_53 rfl ?_
      refine J_iload_n (pc := 54) dX7_seatsFrom_54 rfl ?_
      refine J_iload_n (pc := 55) dX7_seatsFrom_55 rfl ?_
      obtain ⟨y8, hy8, hh⟩ := bd_some hh
      refine J_callVi (pc := 56) (M' := MX7_isFree) (a := 19) (rest := []) (As := [.int v1, .int v3]) (L0 := [some (.ref 19), some (.int v1), some (.int v3), none]) okX7_isFree ovX7_isFree mlX7_277 clX7 so19 rfl rfl (Nat.le_of_ble_eq_true rfl) dX7_seatsFrom_56 rfl (Nat.le_of_ble_eq_true rfl) (jX7_isFree (X := X) d s v1 v3 hy8) ?_
      refine J_if_ne (pc := 59) 65 dX7_seatsFrom_59 (by decide) (fun c16 => ?_) (fun c16 => ?_)
      · replace hh := (if_neg c16).symm.trans hh
        refine J_aload_n (pc := 65) dX7_seatsFrom_65 rfl ?_
        refine J_getR (pc := 66) (k := 7) flX7_28 so19 fk19_7 dX7_seatsFrom_66 ?_
        refine J_iload_n (pc := 69) dX7_seatsFrom_69 rfl ?_
        refine J_iload_n (pc := 70) dX7_seatsFrom_70 rfl ?_
        refine J_iconst (pc := 71) dX7_seatsFrom_71 ci_1 ?_
        refine J_iadd (pc := 72) dX7_seatsFrom_72 ?_
        obtain ⟨h9, hh⟩ := gd_some hh
        refine J_iastL (pc := 73) dX7_seatsFrom_73 sa24 h9 hh (fun s10 hh => ?_)
        refine J_aload_n (pc := 74) dX7_seatsFrom_74 rfl ?_
        refine J_iload_n (pc := 75) dX7_seatsFrom_75 rfl ?_
        refine J_iload_n (pc := 76) dX7_seatsFrom_76 rfl ?_
        refine J_iconst (pc := 77) dX7_seatsFrom_77 ci_m1 ?_
        obtain ⟨y11, hy11, hh⟩ := bd_some hh
        refine J_callV0 (pc := 78) (M' := MX7_sits) (a := 19) (rest := []) (As := [.int v1, .int v3, .int (-1 : Int32)]) (L0 := [some (.ref 19), some (.int v1), some (.int v3), some (.int (-1 : Int32)), none]) okX7_sits ovX7_sits mlX7_280 clX7 so19 rfl rfl (Nat.le_of_ble_eq_true rfl) dX7_seatsFrom_78 rfl (Nat.le_of_ble_eq_true rfl) (jX7_sits (X := X) d s10 v1 v3 (-1 : Int32) hy11) ?_
        refine J_aload_n (pc := 81) dX7_seatsFrom_81 rfl ?_
        refine J_iload_n (pc := 82) dX7_seatsFrom_82 rfl ?_
        refine J_iload_n (pc := 83) dX7_seatsFrom_83 rfl ?_
        refine J_iconst (pc := 84) dX7_seatsFrom_84 ci_1 ?_
        refine J_iadd (pc := 85) dX7_seatsFrom_85 ?_
        obtain ⟨y12, hy12, hh⟩ := bd_some hh
        refine J_callV0 (pc := 86) (M' := MX7_seatsFrom) (a := 19) (rest := []) (As := [.int v1, .int (v2 + (1 : Int32))]) (L0 := [some (.ref 19), some (.int v1), some (.int (v2 + (1 : Int32))), none]) okX7_seatsFrom ovX7_seatsFrom mlX7_273 clX7 so19 rfl rfl (Nat.le_of_ble_eq_true rfl) dX7_seatsFrom_86 rfl (Nat.le_of_ble_eq_true rfl) (hrec y11 v1 (v2 + (1 : Int32)) y12 hy12) ?_
        refine J_aload_n (pc := 89) dX7_seatsFrom_89 rfl ?_
        refine J_iload_n (pc := 90) dX7_seatsFrom_90 rfl ?_
        refine J_iload_n (pc := 91) dX7_seatsFrom_91 rfl ?_
        refine J_iconst (pc := 92) dX7_seatsFrom_92 ci_1 ?_
        obtain ⟨y13, hy13, hh⟩ := bd_some hh
        refine J_callV0 (pc := 93) (M' := MX7_sits) (a := 19) (rest := []) (As := [.int v1, .int v3, .int (1 : Int32)]) (L0 := [some (.ref 19), some (.int v1), some (.int v3), some (.int (1 : Int32)), none]) okX7_sits ovX7_sits mlX7_280 clX7 so19 rfl rfl (Nat.le_of_ble_eq_true rfl) dX7_seatsFrom_93 rfl (Nat.le_of_ble_eq_true rfl) (jX7_sits (X := X) d y12 v1 v3 (1 : Int32) hy13) ?_
        refine J_iincL (pc := 96) (v := v3 + (1 : Int32)) (fun x14 => [some (.ref 19), some (.int v1), some (.int v2), some (.int x14)]) dX7_seatsFrom_96 rfl rfl (Nat.le_of_ble_eq_true rfl) (congrArg _ ci_1) (fun _ => rfl) hh (fun x14 hh => ?_)
        refine J_goto (pc := 99) 34 dX7_seatsFrom_99 (by decide) ?_
        obtain rfl := Option.some.inj hh
        exact hk
      · replace hh := (if_pos c16).symm.trans hh
        refine J_goto (pc := 62) 96 dX7_seatsFrom_62 (by decide) ?_
        refine J_iincL (pc := 96) (v := v3 + (1 : Int32)) (fun x15 => [some (.ref 19), some (.int v1), some (.int v2), some (.int x15)]) dX7_seatsFrom_96 rfl rfl (Nat.le_of_ble_eq_true rfl) (congrArg _ ci_1) (fun _ => rfl) hh (fun x15 hh => ?_)
        refine J_goto (pc := 99) 34 dX7_seatsFrom_99 (by decide) ?_
        obtain rfl := Option.some.inj hh
        exact hk
def eX7_seatsFrom (rec : Mem → Int32 → Int32 → Option Mem) (s : Mem) (p0 : Int32) (p1 : Int32) : Option Mem :=
  gd (96 : Int32) 139 (if p1 = (s.1 20 (96 : Int32).toNatClampNeg) then (fX7_looks s p0).bind (fun y22 => some y22) else gd p1 6 (lt (up2 s 24 p1.toNatClampNeg (0 : Int32)) (fun s3 => (rec s3 p0 (p1 + (1 : Int32))).bind (fun y4 => (lp (fun a => bX7_seatsFrom_34 rec a.2 p0 p1 a.1) 600 ((0 : Int32), y4)).bind (fun y19 => gd p1 6 (lt (up2 y19 24 p1.toNatClampNeg (0 : Int32)) (fun s21 => some s21)))))))
set_option maxRecDepth 4000 in
theorem jeX7_seatsFrom {X : Scr} {d : Nat} (rec : Mem → Int32 → Int32 → Option Mem) (hrec : ∀ s a b r, rec s a b = some r → J X MX7_seatsFrom (d + 3) 0 [some (.ref 19), some (.int a), some (.int b), none] [] s none r) (s : Mem) (p0 : Int32) (p1 : Int32) {r : Mem} {w : Option Value} {s' : Mem} (hh : eX7_seatsFrom rec s p0 p1 = some r) (hk : w = none ∧ r = s') : J X MX7_seatsFrom (d + 4) 0 [some (.ref 19), some (.int p0), some (.int p1), none] [] s w s' := by
  unfold eX7_seatsFrom at hh
  refine J_iload_n (pc := 0) dX7_seatsFrom_0 rfl ?_
  refine J_aload_n (pc := 1) dX7_seatsFrom_1 rfl ?_
  refine J_getR (pc := 2) (k := 0) flX7_9 so19 fk19_0 dX7_seatsFrom_2 ?_
  refine J_bipush (pc := 5) dX7_seatsFrom_5 cb_96 ?_
  obtain ⟨h1, hh⟩ := gd_some hh
  refine J_iald (pc := 7) dX7_seatsFrom_7 sa20 h1 ?_
  refine J_icmp_ne (pc := 8) 17 dX7_seatsFrom_8 (by decide) (fun c23 => ?_) (fun c23 => ?_)
  · replace hh := (if_neg c23).symm.trans hh
    refine J_aload_n (pc := 17) dX7_seatsFrom_17 rfl ?_
    refine J_getR (pc := 18) (k := 7) flX7_28 so19 fk19_7 dX7_seatsFrom_18 ?_
    refine J_iload_n (pc := 21) dX7_seatsFrom_21 rfl ?_
    refine J_iconst (pc := 22) dX7_seatsFrom_22 ci_0 ?_
    obtain ⟨h2, hh⟩ := gd_some hh
    refine J_iastL (pc := 23) dX7_seatsFrom_23 sa24 h2 hh (fun s3 hh => ?_)
    refine J_aload_n (pc := 24) dX7_seatsFrom_24 rfl ?_
    refine J_iload_n (pc := 25) dX7_seatsFrom_25 rfl ?_
    refine J_iload_n (pc := 26) dX7_seatsFrom_26 rfl ?_
    refine J_iconst (pc := 27) dX7_seatsFrom_27 ci_1 ?_
    refine J_iadd (pc := 28) dX7_seatsFrom_28 ?_
    obtain ⟨y4, hy4, hh⟩ := bd_some hh
    refine J_callV0 (pc := 29) (M' := MX7_seatsFrom) (a := 19) (rest := []) (As := [.int p0, .int (p1 + (1 : Int32))]) (L0 := [some (.ref 19), some (.int p0), some (.int (p1 + (1 : Int32))), none]) okX7_seatsFrom ovX7_seatsFrom mlX7_273 clX7 so19 rfl rfl (Nat.le_of_ble_eq_true rfl) dX7_seatsFrom_29 rfl (Nat.le_of_ble_eq_true rfl) (hrec s3 p0 (p1 + (1 : Int32)) y4 hy4) ?_
    refine J_iconst (pc := 32) dX7_seatsFrom_32 ci_0 ?_
    refine J_istore_n (pc := 33) (L' := [some (.ref 19), some (.int p0), some (.int p1), some (.int (0 : Int32))]) dX7_seatsFrom_33 rfl (Nat.le_of_ble_eq_true rfl) rfl ?_
    obtain ⟨y19, hy19, hh⟩ := bd_some hh
    refine J_lp (a := ((0 : Int32), y4)) (fun a : (Int32 × Mem) => J X MX7_seatsFrom (d + 4) 34 [some (.ref 19), some (.int p0), some (.int p1), some (.int a.1)] [] a.2 w s') (fun t : Mem => J X MX7_seatsFrom (d + 4) 102 [some (.ref 19), none, some (.int p1), none] [] t w s') (fun a q h1 h2 => jbX7_seatsFrom_34 rec hrec a.2 p0 p1 a.1 h1 h2) hy19 ?_
    refine J_aload_n (pc := 102) dX7_seatsFrom_102 rfl ?_
    refine J_getR (pc := 103) (k := 7) flX7_28 so19 fk19_7 dX7_seatsFrom_103 ?_
    refine J_iload_n (pc := 106) dX7_seatsFrom_106 rfl ?_
    refine J_iconst (pc := 107) dX7_seatsFrom_107 ci_0 ?_
    obtain ⟨h20, hh⟩ := gd_some hh
    refine J_iastL (pc := 108) dX7_seatsFrom_108 sa24 h20 hh (fun s21 hh => ?_)
    obtain rfl := Option.some.inj hh
    obtain ⟨rfl, rfl⟩ := hk
    exact J_ret (w := none) ⟨dX7_seatsFrom_109, rfl⟩
  · replace hh := (if_pos c23).symm.trans hh
    refine J_aload_n (pc := 11) dX7_seatsFrom_11 rfl ?_
    refine J_iload_n (pc := 12) dX7_seatsFrom_12 rfl ?_
    obtain ⟨y22, hy22, hh⟩ := bd_some hh
    refine J_callV0 (pc := 13) (M' := MX7_looks) (a := 19) (rest := []) (As := [.int p0]) (L0 := [some (.ref 19), some (.int p0), none, none, none, none, none]) okX7_looks ovX7_looks mlX7_269 clX7 so19 rfl rfl (Nat.le_of_ble_eq_true rfl) dX7_seatsFrom_13 rfl (Nat.le_of_ble_eq_true rfl) (jX7_looks (X := X) d s p0 hy22) ?_
    obtain rfl := Option.some.inj hh
    obtain ⟨rfl, rfl⟩ := hk
    exact J_ret (w := none) ⟨dX7_seatsFrom_16, rfl⟩
def hX7_seatsFrom : Nat → Mem → Int32 → Int32 → Option Mem
  | 0, _, _, _ => none
  | k + 1, s, a, b => eX7_seatsFrom (hX7_seatsFrom k) s a b
def fX7_seatsFrom (s : Mem) (a b : Int32) : Option Mem := hX7_seatsFrom 8 s a b
theorem jhX7_seatsFrom {X : Scr} : ∀ (k d : Nat) (s : Mem) (a b : Int32) (r : Mem), hX7_seatsFrom k s a b = some r → J X MX7_seatsFrom (d + k + 4) 0 [some (.ref 19), some (.int a), some (.int b), none] [] s none r
  | 0, _, _, _, _, _, h => by cases h
  | k + 1, d, s, a, b, r, h => jeX7_seatsFrom (d := d + k + 1) (hX7_seatsFrom k) (fun s a b r h => jhX7_seatsFrom k d s a b r h) s a b h ⟨rfl, rfl⟩
theorem jX7_seatsFrom {X : Scr} (d : Nat) (s : Mem) (a b : Int32) {r : Mem} (hh : fX7_seatsFrom s a b = some r) : J X MX7_seatsFrom (d + 12) 0 [some (.ref 19), some (.int a), some (.int b), none] [] s none r := jhX7_seatsFrom 8 d s a b r hh
theorem dX7_seats_0 : decode cX7_seats 0 = .ok (.aload_n 0, 1) := by decide +kernel
theorem dX7_seats_1 : decode cX7_seats 1 = .ok (.iload_n 2, 1) := by decide +kernel
theorem dX7_seats_2 : decode cX7_seats 2 = .ok (.putfield 250, 3) := by decide +kernel
theorem dX7_seats_5 : decode cX7_seats 5 = .ok (.aload_n 0, 1) := by decide +kernel
theorem dX7_seats_6 : decode cX7_seats 6 = .ok (.iload_n 3, 1) := by decide +kernel
theorem dX7_seats_7 : decode cX7_seats 7 = .ok (.putfield 247, 3) := by decide +kernel
theorem dX7_seats_10 : decode cX7_seats 10 = .ok (.aload_n 0, 1) := by decide +kernel
theorem dX7_seats_11 : decode cX7_seats 11 = .ok (.iconst 0, 1) := by decide +kernel
theorem dX7_seats_12 : decode cX7_seats 12 = .ok (.putfield 257, 3) := by decide +kernel
theorem dX7_seats_15 : decode cX7_seats 15 = .ok (.aload_n 0, 1) := by decide +kernel
theorem dX7_seats_16 : decode cX7_seats 16 = .ok (.lconst 0, 1) := by decide +kernel
theorem dX7_seats_17 : decode cX7_seats 17 = .ok (.putfield 243, 3) := by decide +kernel
theorem dX7_seats_20 : decode cX7_seats 20 = .ok (.iconst 0, 1) := by decide +kernel
theorem dX7_seats_21 : decode cX7_seats 21 = .ok (.istore 4, 2) := by decide +kernel
theorem dX7_seats_23 : decode cX7_seats 23 = .ok (.iload 4, 2) := by decide +kernel
theorem dX7_seats_25 : decode cX7_seats 25 = .ok (.aload_n 0, 1) := by decide +kernel
theorem dX7_seats_26 : decode cX7_seats 26 = .ok (.getfield 9, 3) := by decide +kernel
theorem dX7_seats_29 : decode cX7_seats 29 = .ok (.bipush 96, 2) := by decide +kernel
theorem dX7_seats_31 : decode cX7_seats 31 = .ok (.iaload, 1) := by decide +kernel
theorem dX7_seats_32 : decode cX7_seats 32 = .ok (.if_icmp .ge 82, 3) := by decide +kernel
theorem dX7_seats_35 : decode cX7_seats 35 = .ok (.aload_n 0, 1) := by decide +kernel
theorem dX7_seats_36 : decode cX7_seats 36 = .ok (.getfield 37, 3) := by decide +kernel
theorem dX7_seats_39 : decode cX7_seats 39 = .ok (.iload 4, 2) := by decide +kernel
theorem dX7_seats_41 : decode cX7_seats 41 = .ok (.iconst 0, 1) := by decide +kernel
theorem dX7_seats_42 : decode cX7_seats 42 = .ok (.iastore, 1) := by decide +kernel
theorem dX7_seats_43 : decode cX7_seats 43 = .ok (.iconst 0, 1) := by decide +kernel
theorem dX7_seats_44 : decode cX7_seats 44 = .ok (.istore 5, 2) := by decide +kernel
theorem dX7_seats_46 : decode cX7_seats 46 = .ok (.iload 5, 2) := by decide +kernel
theorem dX7_seats_48 : decode cX7_seats 48 = .ok (.bipush 8, 2) := by decide +kernel
theorem dX7_seats_50 : decode cX7_seats 50 = .ok (.if_icmp .ge 58, 3) := by decide +kernel
theorem dX7_seats_53 : decode cX7_seats 53 = .ok (.aload_n 0, 1) := by decide +kernel
theorem dX7_seats_54 : decode cX7_seats 54 = .ok (.iload 4, 2) := by decide +kernel
theorem dX7_seats_56 : decode cX7_seats 56 = .ok (.invokevirtual 208, 3) := by decide +kernel
theorem dX7_seats_59 : decode cX7_seats 59 = .ok (.iload_n 1, 1) := by decide +kernel
theorem dX7_seats_60 : decode cX7_seats 60 = .ok (.invokestatic 211, 3) := by decide +kernel
theorem dX7_seats_63 : decode cX7_seats 63 = .ok (.ifCond .eq 39, 3) := by decide +kernel
theorem dX7_seats_66 : decode cX7_seats 66 = .ok (.aload_n 0, 1) := by decide +kernel
theorem dX7_seats_67 : decode cX7_seats 67 = .ok (.iload_n 1, 1) := by decide +kernel
theorem dX7_seats_68 : decode cX7_seats 68 = .ok (.iload 5, 2) := by decide +kernel
theorem dX7_seats_70 : decode cX7_seats 70 = .ok (.invokevirtual 98, 3) := by decide +kernel
theorem dX7_seats_73 : decode cX7_seats 73 = .ok (.ifCond .eq 29, 3) := by decide +kernel
theorem dX7_seats_76 : decode cX7_seats 76 = .ok (.aload_n 0, 1) := by decide +kernel
theorem dX7_seats_77 : decode cX7_seats 77 = .ok (.iload 4, 2) := by decide +kernel
theorem dX7_seats_79 : decode cX7_seats 79 = .ok (.iload_n 1, 1) := by decide +kernel
theorem dX7_seats_80 : decode cX7_seats 80 = .ok (.iload 5, 2) := by decide +kernel
theorem dX7_seats_82 : decode cX7_seats 82 = .ok (.invokevirtual 133, 3) := by decide +kernel
theorem dX7_seats_85 : decode cX7_seats 85 = .ok (.ifCond .ne 17, 3) := by decide +kernel
theorem dX7_seats_88 : decode cX7_seats 88 = .ok (.aload_n 0, 1) := by decide +kernel
theorem dX7_seats_89 : decode cX7_seats 89 = .ok (.getfield 37, 3) := by decide +kernel
theorem dX7_seats_92 : decode cX7_seats 92 = .ok (.iload 4, 2) := by decide +kernel
theorem dX7_seats_94 : decode cX7_seats 94 = .ok (.dup2, 1) := by decide +kernel
theorem dX7_seats_95 : decode cX7_seats 95 = .ok (.iaload, 1) := by decide +kernel
theorem dX7_seats_96 : decode cX7_seats 96 = .ok (.iconst 1, 1) := by decide +kernel
theorem dX7_seats_97 : decode cX7_seats 97 = .ok (.iload 5, 2) := by decide +kernel
theorem dX7_seats_99 : decode cX7_seats 99 = .ok (.ishl, 1) := by decide +kernel
theorem dX7_seats_100 : decode cX7_seats 100 = .ok (.ior, 1) := by decide +kernel
theorem dX7_seats_101 : decode cX7_seats 101 = .ok (.iastore, 1) := by decide +kernel
theorem dX7_seats_102 : decode cX7_seats 102 = .ok (.iinc 5 1, 3) := by decide +kernel
theorem dX7_seats_105 : decode cX7_seats 105 = .ok (.goto (-59), 3) := by decide +kernel
theorem dX7_seats_108 : decode cX7_seats 108 = .ok (.iinc 4 1, 3) := by decide +kernel
theorem dX7_seats_111 : decode cX7_seats 111 = .ok (.goto (-88), 3) := by decide +kernel
theorem dX7_seats_114 : decode cX7_seats 114 = .ok (.iconst 0, 1) := by decide +kernel
theorem dX7_seats_115 : decode cX7_seats 115 = .ok (.istore 4, 2) := by decide +kernel
theorem dX7_seats_117 : decode cX7_seats 117 = .ok (.iload 4, 2) := by decide +kernel
theorem dX7_seats_119 : decode cX7_seats 119 = .ok (.iconst 3, 1) := by decide +kernel
theorem dX7_seats_120 : decode cX7_seats 120 = .ok (.if_icmp .ge 51, 3) := by decide +kernel
theorem dX7_seats_123 : decode cX7_seats 123 = .ok (.iconst 0, 1) := by decide +kernel
theorem dX7_seats_124 : decode cX7_seats 124 = .ok (.istore 5, 2) := by decide +kernel
theorem dX7_seats_126 : decode cX7_seats 126 = .ok (.iload 5, 2) := by decide +kernel
theorem dX7_seats_128 : decode cX7_seats 128 = .ok (.iconst 2, 1) := by decide +kernel
theorem dX7_seats_129 : decode cX7_seats 129 = .ok (.if_icmp .ge 36, 3) := by decide +kernel
theorem dX7_seats_132 : decode cX7_seats 132 = .ok (.aload_n 0, 1) := by decide +kernel
theorem dX7_seats_133 : decode cX7_seats 133 = .ok (.getfield 34, 3) := by decide +kernel
theorem dX7_seats_136 : decode cX7_seats 136 = .ok (.iconst 2, 1) := by decide +kernel
theorem dX7_seats_137 : decode cX7_seats 137 = .ok (.iload 4, 2) := by decide +kernel
theorem dX7_seats_139 : decode cX7_seats 139 = .ok (.imul, 1) := by decide +kernel
theorem dX7_seats_140 : decode cX7_seats 140 = .ok (.iload 5, 2) := by decide +kernel
theorem dX7_seats_142 : decode cX7_seats 142 = .ok (.iadd, 1) := by decide +kernel
theorem dX7_seats_143 : decode cX7_seats 143 = .ok (.aload_n 0, 1) := by decide +kernel
theorem dX7_seats_144 : decode cX7_seats 144 = .ok (.getfield 9, 3) := by decide +kernel
theorem dX7_seats_147 : decode cX7_seats 147 = .ok (.iload_n 1, 1) := by decide +kernel
theorem dX7_seats_148 : decode cX7_seats 148 = .ok (.iload 4, 2) := by decide +kernel
theorem dX7_seats_150 : decode cX7_seats 150 = .ok (.iload 5, 2) := by decide +kernel
theorem dX7_seats_152 : decode cX7_seats 152 = .ok (.invokestatic 73, 3) := by decide +kernel
theorem dX7_seats_155 : decode cX7_seats 155 = .ok (.iconst 2, 1) := by decide +kernel
theorem dX7_seats_156 : decode cX7_seats 156 = .ok (.iadd, 1) := by decide +kernel
theorem dX7_seats_157 : decode cX7_seats 157 = .ok (.iaload, 1) := by decide +kernel
theorem dX7_seats_158 : decode cX7_seats 158 = .ok (.iastore, 1) := by decide +kernel
theorem dX7_seats_159 : decode cX7_seats 159 = .ok (.iinc 5 1, 3) := by decide +kernel
theorem dX7_seats_162 : decode cX7_seats 162 = .ok (.goto (-36), 3) := by decide +kernel
theorem dX7_seats_165 : decode cX7_seats 165 = .ok (.iinc 4 1, 3) := by decide +kernel
theorem dX7_seats_168 : decode cX7_seats 168 = .ok (.goto (-51), 3) := by decide +kernel
theorem dX7_seats_171 : decode cX7_seats 171 = .ok (.aload_n 0, 1) := by decide +kernel
theorem dX7_seats_172 : decode cX7_seats 172 = .ok (.iload_n 1, 1) := by decide +kernel
theorem dX7_seats_173 : decode cX7_seats 173 = .ok (.iconst 0, 1) := by decide +kernel
theorem dX7_seats_174 : decode cX7_seats 174 = .ok (.invokevirtual 273, 3) := by decide +kernel
theorem dX7_seats_177 : decode cX7_seats 177 = .ok (.return_, 1) := by decide +kernel
def bX7_seats_46 (s : Mem) (v1 : Int32) (v4 : Int32) (v5 : Int32) : Option (Mem ⊕ (Int32 × Mem)) :=
  if (8 : Int32) ≤ v5 then some (Sum.inl s) else (fX7_wishes s v4).bind (fun y9 => (fX7_has y9 v1).bind (fun y10 => if y10 = (0 : Int32) then lt (v5 + (1 : Int32)) (fun x11 => some (Sum.inr (x11, s))) else (fX7_isLawful s v1 v5).bind (fun y12 => if y12 = (0 : Int32) then lt (v5 + (1 : Int32)) (fun x13 => some (Sum.inr (x13, s))) else (fX7_clashes s v4 v1 v5).bind (fun y14 => if y14 = (0 : Int32) then gd v4 6 (gd v4 6 (lt (up2 s 27 v4.toNatClampNeg ((s.1 27 v4.toNatClampNeg) ||| ((1 : Int32) <<< (v5 &&& 31)))) (fun s18 => lt (v5 + (1 : Int32)) (fun x19 => some (Sum.inr (x19, s18)))))) else lt (v5 + (1 : Int32)) (fun x15 => some (Sum.inr (x15, s)))))))
set_option maxRecDepth 4000 in
theorem jbX7_seats_46 {X : Scr} (d : Nat) (s : Mem) (v1 : Int32) (v4 : Int32) (v5 : Int32) {r : (Mem ⊕ (Int32 × Mem))} {w : Option Value} {s' : Mem} (hh : bX7_seats_46 s v1 v4 v5 = some r) (hk : Sum.elim (fun t : Mem => J X MX7_seats (d + 13) 108 [some (.ref 19), some (.int v1), none, none, some (.int v4), none] [] t w s') (fun a : (Int32 × Mem) => J X MX7_seats (d + 13) 46 [some (.ref 19), some (.int v1), none, none, some (.int v4), some (.int a.1)] [] a.2 w s') r) : J X MX7_seats (d + 13) 46 [some (.ref 19), some (.int v1), none, none, some (.int v4), some (.int v5)] [] s w s' := by
  unfold bX7_seats_46 at hh
  refine J_iload (pc := 46) dX7_seats_46 rfl ?_
  refine J_bipush (pc := 48) dX7_seats_48 cb_8 ?_
  refine J_icmp_ge (pc := 50) 108 dX7_seats_50 (by decide) (fun c23 => ?_) (fun c23 => ?_)
  · replace hh := (if_pos c23).symm.trans hh
    refine J_drop 5 (L' := [some (.ref 19), some (.int v1), none, none, some (.int v4), none]) rfl ?_
    obtain rfl := Option.some.inj hh
    exact hk
  · replace hh := (if_neg c23).symm.trans hh
    refine J_aload_n (pc := 53) dX7_seats_53 rfl ?_
    refine J_iload (pc := 54) dX7_seats_54 rfl ?_
    obtain ⟨y9, hy9, hh⟩ := bd_some hh
    refine J_callVi (pc := 56) (M' := MX7_wishes) (a := 19) (rest := []) (As := [.int v4]) (L0 := [some (.ref 19), some (.int v4)]) okX7_wishes ovX7_wishes mlX7_208 clX7 so19 rfl rfl (Nat.le_of_ble_eq_true rfl) dX7_seats_56 rfl (Nat.le_of_ble_eq_true rfl) (jX7_wishes (X := X) (d + 12) s v4 hy9) ?_
    refine J_iload_n (pc := 59) dX7_seats_59 rfl ?_
    obtain ⟨y10, hy10, hh⟩ := bd_some hh
    refine J_callSi (pc := 60) (M' := MX7_has) (rest := []) (As := [.int y9, .int v1]) (L0 := [some (.int y9), some (.int v1)]) okX7_has osX7_has mlX7_211 rfl rfl (Nat.le_of_ble_eq_true rfl) dX7_seats_60 rfl (Nat.le_of_ble_eq_true rfl) (jX7_has (X := X) (d + 12) s y9 v1 hy10) ?_
    refine J_if_eq (pc := 63) 102 dX7_seats_63 (by decide) (fun c22 => ?_) (fun c22 => ?_)
    · replace hh := (if_pos c22).symm.trans hh
      refine J_iincL (pc := 102) (v := v5 + (1 : Int32)) (fun x11 => [some (.ref 19), some (.int v1), none, none, some (.int v4), some (.int x11)]) dX7_seats_102 rfl rfl (Nat.le_of_ble_eq_true rfl) (congrArg _ ci_1) (fun _ => rfl) hh (fun x11 hh => ?_)
      refine J_goto (pc := 105) 46 dX7_seats_105 (by decide) ?_
      obtain rfl := Option.some.inj hh
      exact hk
    · replace hh := (if_neg c22).symm.trans hh
      refine J_aload_n (pc := 66) dX7_seats_66 rfl ?_
      refine J_iload_n (pc := 67) dX7_seats_67 rfl ?_
      refine J_iload (pc := 68) dX7_seats_68 rfl ?_
      obtain ⟨y12, hy12, hh⟩ := bd_some hh
      refine J_callVi (pc := 70) (M' := MX7_isLawful) (a := 19) (rest := []) (As := [.int v1, .int v5]) (L0 := [some (.ref 19), some (.int v1), some (.int v5), none, none, none]) okX7_isLawful ovX7_isLawful mlX7_98 clX7 so19 rfl rfl (Nat.le_of_ble_eq_true rfl) dX7_seats_70 rfl (Nat.le_of_ble_eq_true rfl) (jX7_isLawful (X := X) (d + 8) s v1 v5 hy12) ?_
      refine J_if_eq (pc := 73) 102 dX7_seats_73 (by decide) (fun c21 => ?_) (fun c21 => ?_)
      · replace hh := (if_pos c21).symm.trans hh
        refine J_iincL (pc := 102) (v := v5 + (1 : Int32)) (fun x13 => [some (.ref 19), some (.int v1), none, none, some (.int v4), some (.int x13)]) dX7_seats_102 rfl rfl (Nat.le_of_ble_eq_true rfl) (congrArg _ ci_1) (fun _ => rfl) hh (fun x13 hh => ?_)
        refine J_goto (pc := 105) 46 dX7_seats_105 (by decide) ?_
        obtain rfl := Option.some.inj hh
        exact hk
      · replace hh := (if_neg c21).symm.trans hh
        refine J_aload_n (pc := 76) dX7_seats_76 rfl ?_
        refine J_iload (pc := 77) dX7_seats_77 rfl ?_
        refine J_iload_n (pc := 79) dX7_seats_79 rfl ?_
        refine J_iload (pc := 80) dX7_seats_80 rfl ?_
        obtain ⟨y14, hy14, hh⟩ := bd_some hh
        refine J_callVi (pc := 82) (M' := MX7_clashes) (a := 19) (rest := []) (As := [.int v4, .int v1, .int v5]) (L0 := [some (.ref 19), some (.int v4), some (.int v1), some (.int v5)]) okX7_clashes ovX7_clashes mlX7_133 clX7 so19 rfl rfl (Nat.le_of_ble_eq_true rfl) dX7_seats_82 rfl (Nat.le_of_ble_eq_true rfl) (jX7_clashes (X := X) (d + 6) s v4 v1 v5 hy14) ?_
        refine J_if_ne (pc := 85) 102 dX7_seats_85 (by decide) (fun c20 => ?_) (fun c20 => ?_)
        · replace hh := (if_neg c20).symm.trans hh
          refine J_iincL (pc := 102) (v := v5 + (1 : Int32)) (fun x15 => [some (.ref 19), some (.int v1), none, none, some (.int v4), some (.int x15)]) dX7_seats_102 rfl rfl (Nat.le_of_ble_eq_true rfl) (congrArg _ ci_1) (fun _ => rfl) hh (fun x15 hh => ?_)
          refine J_goto (pc := 105) 46 dX7_seats_105 (by decide) ?_
          obtain rfl := Option.some.inj hh
          exact hk
        · replace hh := (if_pos c20).symm.trans hh
          refine J_aload_n (pc := 88) dX7_seats_88 rfl ?_
          refine J_getR (pc := 89) (k := 10) flX7_37 so19 fk19_10 dX7_seats_89 ?_
          refine J_iload (pc := 92) dX7_seats_92 rfl ?_
          refine J_dup2 (pc := 94) dX7_seats_94 rfl rfl ?_
          obtain ⟨h16, hh⟩ := gd_some hh
          refine J_iald (pc := 95) dX7_seats_95 sa27 h16 ?_
          refine J_iconst (pc := 96) dX7_seats_96 ci_1 ?_
          refine J_iload (pc := 97) dX7_seats_97 rfl ?_
          refine J_ishl (pc := 99) dX7_seats_99 ?_
          refine J_ior (pc := 100) dX7_seats_100 ?_
          obtain ⟨h17, hh⟩ := gd_some hh
          refine J_iastL (pc := 101) dX7_seats_101 sa27 h17 hh (fun s18 hh => ?_)
          refine J_iincL (pc := 102) (v := v5 + (1 : Int32)) (fun x19 => [some (.ref 19), some (.int v1), none, none, some (.int v4), some (.int x19)]) dX7_seats_102 rfl rfl (Nat.le_of_ble_eq_true rfl) (congrArg _ ci_1) (fun _ => rfl) hh (fun x19 hh => ?_)
          refine J_goto (pc := 105) 46 dX7_seats_105 (by decide) ?_
          obtain rfl := Option.some.inj hh
          exact hk
def bX7_seats_23 (s : Mem) (v1 : Int32) (v4 : Int32) : Option (Mem ⊕ (Int32 × Mem)) :=
  gd (96 : Int32) 139 (if (s.1 20 (96 : Int32).toNatClampNeg) ≤ v4 then some (Sum.inl s) else gd v4 6 (lt (up2 s 27 v4.toNatClampNeg (0 : Int32)) (fun s8 => (lp (fun a => bX7_seats_46 a.2 v1 v4 a.1) 600 ((0 : Int32), s8)).bind (fun y24 => lt (v4 + (1 : Int32)) (fun x25 => some (Sum.inr (x25, y24)))))))
set_option maxRecDepth 4000 in
theorem jbX7_seats_23 {X : Scr} (d : Nat) (s : Mem) (v1 : Int32) (v4 : Int32) {r : (Mem ⊕ (Int32 × Mem))} {w : Option Value} {s' : Mem} (hh : bX7_seats_23 s v1 v4 = some r) (hk : Sum.elim (fun t : Mem => J X MX7_seats (d + 13) 114 [some (.ref 19), some (.int v1), none, none, none, none] [] t w s') (fun a : (Int32 × Mem) => J X MX7_seats (d + 13) 23 [some (.ref 19), some (.int v1), none, none, some (.int a.1), none] [] a.2 w s') r) : J X MX7_seats (d + 13) 23 [some (.ref 19), some (.int v1), none, none, some (.int v4), none] [] s w s' := by
  unfold bX7_seats_23 at hh
  refine J_iload (pc := 23) dX7_seats_23 rfl ?_
  refine J_aload_n (pc := 25) dX7_seats_25 rfl ?_
  refine J_getR (pc := 26) (k := 0) flX7_9 so19 fk19_0 dX7_seats_26 ?_
  refine J_bipush (pc := 29) dX7_seats_29 cb_96 ?_
  obtain ⟨h6, hh⟩ := gd_some hh
  refine J_iald (pc := 31) dX7_seats_31 sa20 h6 ?_
  refine J_icmp_ge (pc := 32) 114 dX7_seats_32 (by decide) (fun c26 => ?_) (fun c26 => ?_)
  · replace hh := (if_pos c26).symm.trans hh
    refine J_drop 4 (L' := [some (.ref 19), some (.int v1), none, none, none, none]) rfl ?_
    obtain rfl := Option.some.inj hh
    exact hk
  · replace hh := (if_neg c26).symm.trans hh
    refine J_aload_n (pc := 35) dX7_seats_35 rfl ?_
    refine J_getR (pc := 36) (k := 10) flX7_37 so19 fk19_10 dX7_seats_36 ?_
    refine J_iload (pc := 39) dX7_seats_39 rfl ?_
    refine J_iconst (pc := 41) dX7_seats_41 ci_0 ?_
    obtain ⟨h7, hh⟩ := gd_some hh
    refine J_iastL (pc := 42) dX7_seats_42 sa27 h7 hh (fun s8 hh => ?_)
    refine J_iconst (pc := 43) dX7_seats_43 ci_0 ?_
    refine J_istore (pc := 44) (L' := [some (.ref 19), some (.int v1), none, none, some (.int v4), some (.int (0 : Int32))]) dX7_seats_44 rfl (Nat.le_of_ble_eq_true rfl) rfl ?_
    obtain ⟨y24, hy24, hh⟩ := bd_some hh
    refine J_lp (a := ((0 : Int32), s8)) (fun a : (Int32 × Mem) => J X MX7_seats (d + 13) 46 [some (.ref 19), some (.int v1), none, none, some (.int v4), some (.int a.1)] [] a.2 w s') (fun t : Mem => J X MX7_seats (d + 13) 108 [some (.ref 19), some (.int v1), none, none, some (.int v4), none] [] t w s') (fun a q h1 h2 => jbX7_seats_46 d a.2 v1 v4 a.1 h1 h2) hy24 ?_
    refine J_iincL (pc := 108) (v := v4 + (1 : Int32)) (fun x25 => [some (.ref 19), some (.int v1), none, none, some (.int x25), none]) dX7_seats_108 rfl rfl (Nat.le_of_ble_eq_true rfl) (congrArg _ ci_1) (fun _ => rfl) hh (fun x25 hh => ?_)
    refine J_goto (pc := 111) 23 dX7_seats_111 (by decide) ?_
    obtain rfl := Option.some.inj hh
    exact hk
def bX7_seats_126 (s : Mem) (v1 : Int32) (v4 : Int32) (v5 : Int32) : Option (Mem ⊕ (Int32 × Mem)) :=
  if (2 : Int32) ≤ v5 then some (Sum.inl s) else (fX7_at v1 v4 v5).bind (fun y28 => gd (y28 + (2 : Int32)) 139 (gd (((2 : Int32) * v4) + v5) 6 (lt (up2 s 26 (((2 : Int32) * v4) + v5).toNatClampNeg (s.1 20 (y28 + (2 : Int32)).toNatClampNeg)) (fun s31 => lt (v5 + (1 : Int32)) (fun x32 => some (Sum.inr (x32, s31)))))))
set_option maxRecDepth 4000 in
theorem jbX7_seats_126 {X : Scr} (d : Nat) (s : Mem) (v1 : Int32) (v4 : Int32) (v5 : Int32) {r : (Mem ⊕ (Int32 × Mem))} {w : Option Value} {s' : Mem} (hh : bX7_seats_126 s v1 v4 v5 = some r) (hk : Sum.elim (fun t : Mem => J X MX7_seats (d + 13) 165 [some (.ref 19), some (.int v1), none, none, some (.int v4), none] [] t w s') (fun a : (Int32 × Mem) => J X MX7_seats (d + 13) 126 [some (.ref 19), some (.int v1), none, none, some (.int v4), some (.int a.1)] [] a.2 w s') r) : J X MX7_seats (d + 13) 126 [some (.ref 19), some (.int v1), none, none, some (.int v4), some (.int v5)] [] s w s' := by
  unfold bX7_seats_126 at hh
  refine J_iload (pc := 126) dX7_seats_126 rfl ?_
  refine J_iconst (pc := 128) dX7_seats_128 ci_2 ?_
  refine J_icmp_ge (pc := 129) 165 dX7_seats_129 (by decide) (fun c33 => ?_) (fun c33 => ?_)
  · replace hh := (if_pos c33).symm.trans hh
    refine J_drop 5 (L' := [some (.ref 19), some (.int v1), none, none, some (.int v4), none]) rfl ?_
    obtain rfl := Option.some.inj hh
    exact hk
  · replace hh := (if_neg c33).symm.trans hh
    refine J_aload_n (pc := 132) dX7_seats_132 rfl ?_
    refine J_getR (pc := 133) (k := 9) flX7_34 so19 fk19_9 dX7_seats_133 ?_
    refine J_iconst (pc := 136) dX7_seats_136 ci_2 ?_
    refine J_iload (pc := 137) dX7_seats_137 rfl ?_
    refine J_imul (pc := 139) dX7_seats_139 ?_
    refine J_iload (pc := 140) dX7_seats_140 rfl ?_
    refine J_iadd (pc := 142) dX7_seats_142 ?_
    refine J_aload_n (pc := 143) dX7_seats_143 rfl ?_
    refine J_getR (pc := 144) (k := 0) flX7_9 so19 fk19_0 dX7_seats_144 ?_
    refine J_iload_n (pc := 147) dX7_seats_147 rfl ?_
    refine J_iload (pc := 148) dX7_seats_148 rfl ?_
    refine J_iload (pc := 150) dX7_seats_150 rfl ?_
    obtain ⟨y28, hy28, hh⟩ := bd_some hh
    refine J_callSi (pc := 152) (M' := MX7_at) (rest := [.ref 20, .int (((2 : Int32) * v4) + v5), .ref 26]) (As := [.int v1, .int v4, .int v5]) (L0 := [some (.int v1), some (.int v4), some (.int v5)]) okX7_at osX7_at mlX7_73 rfl rfl (Nat.le_of_ble_eq_true rfl) dX7_seats_152 rfl (Nat.le_of_ble_eq_true rfl) (jX7_at (X := X) (d + 12) s v1 v4 v5 hy28) ?_
    refine J_iconst (pc := 155) dX7_seats_155 ci_2 ?_
    refine J_iadd (pc := 156) dX7_seats_156 ?_
    obtain ⟨h29, hh⟩ := gd_some hh
    refine J_iald (pc := 157) dX7_seats_157 sa20 h29 ?_
    obtain ⟨h30, hh⟩ := gd_some hh
    refine J_iastL (pc := 158) dX7_seats_158 sa26 h30 hh (fun s31 hh => ?_)
    refine J_iincL (pc := 159) (v := v5 + (1 : Int32)) (fun x32 => [some (.ref 19), some (.int v1), none, none, some (.int v4), some (.int x32)]) dX7_seats_159 rfl rfl (Nat.le_of_ble_eq_true rfl) (congrArg _ ci_1) (fun _ => rfl) hh (fun x32 hh => ?_)
    refine J_goto (pc := 162) 126 dX7_seats_162 (by decide) ?_
    obtain rfl := Option.some.inj hh
    exact hk
def bX7_seats_117 (s : Mem) (v1 : Int32) (v4 : Int32) : Option (Mem ⊕ (Int32 × Mem)) :=
  if (3 : Int32) ≤ v4 then some (Sum.inl s) else (lp (fun a => bX7_seats_126 a.2 v1 v4 a.1) 600 ((0 : Int32), s)).bind (fun y34 => lt (v4 + (1 : Int32)) (fun x35 => some (Sum.inr (x35, y34))))
set_option maxRecDepth 4000 in
theorem jbX7_seats_117 {X : Scr} (d : Nat) (s : Mem) (v1 : Int32) (v4 : Int32) {r : (Mem ⊕ (Int32 × Mem))} {w : Option Value} {s' : Mem} (hh : bX7_seats_117 s v1 v4 = some r) (hk : Sum.elim (fun t : Mem => J X MX7_seats (d + 13) 171 [some (.ref 19), some (.int v1), none, none, none, none] [] t w s') (fun a : (Int32 × Mem) => J X MX7_seats (d + 13) 117 [some (.ref 19), some (.int v1), none, none, some (.int a.1), none] [] a.2 w s') r) : J X MX7_seats (d + 13) 117 [some (.ref 19), some (.int v1), none, none, some (.int v4), none] [] s w s' := by
  unfold bX7_seats_117 at hh
  refine J_iload (pc := 117) dX7_seats_117 rfl ?_
  refine J_iconst (pc := 119) dX7_seats_119 ci_3 ?_
  refine J_icmp_ge (pc := 120) 171 dX7_seats_120 (by decide) (fun c36 => ?_) (fun c36 => ?_)
  · replace hh := (if_pos c36).symm.trans hh
    refine J_drop 4 (L' := [some (.ref 19), some (.int v1), none, none, none, none]) rfl ?_
    obtain rfl := Option.some.inj hh
    exact hk
  · replace hh := (if_neg c36).symm.trans hh
    refine J_iconst (pc := 123) dX7_seats_123 ci_0 ?_
    refine J_istore (pc := 124) (L' := [some (.ref 19), some (.int v1), none, none, some (.int v4), some (.int (0 : Int32))]) dX7_seats_124 rfl (Nat.le_of_ble_eq_true rfl) rfl ?_
    obtain ⟨y34, hy34, hh⟩ := bd_some hh
    refine J_lp (a := ((0 : Int32), s)) (fun a : (Int32 × Mem) => J X MX7_seats (d + 13) 126 [some (.ref 19), some (.int v1), none, none, some (.int v4), some (.int a.1)] [] a.2 w s') (fun t : Mem => J X MX7_seats (d + 13) 165 [some (.ref 19), some (.int v1), none, none, some (.int v4), none] [] t w s') (fun a q h1 h2 => jbX7_seats_126 d a.2 v1 v4 a.1 h1 h2) hy34 ?_
    refine J_iincL (pc := 165) (v := v4 + (1 : Int32)) (fun x35 => [some (.ref 19), some (.int v1), none, none, some (.int x35), none]) dX7_seats_165 rfl rfl (Nat.le_of_ble_eq_true rfl) (congrArg _ ci_1) (fun _ => rfl) hh (fun x35 hh => ?_)
    refine J_goto (pc := 168) 117 dX7_seats_168 (by decide) ?_
    obtain rfl := Option.some.inj hh
    exact hk
def fX7_seats (s : Mem) (p0 : Int32) (p1 : Int32) (p2 : Int32) : Option Mem :=
  gz p1 (lt (up2 s 19 15 p1) (fun s2 => lt (up2 s2 19 17 p2) (fun s3 => lt (up2 s3 19 16 (0 : Int32)) (fun s4 => lt (upL s4 19 11 (0 : Int64)) (fun s5 => (lp (fun a => bX7_seats_23 a.2 p0 a.1) 600 ((0 : Int32), s5)).bind (fun y27 => (lp (fun a => bX7_seats_117 a.2 p0 a.1) 600 ((0 : Int32), y27)).bind (fun y37 => (fX7_seatsFrom y37 p0 (0 : Int32)).bind (fun y38 => some y38))))))))
set_option maxRecDepth 4000 in
theorem jjX7_seats {X : Scr} (d : Nat) (s : Mem) (p0 : Int32) (p1 : Int32) (p2 : Int32) {r : Mem} {w : Option Value} {s' : Mem} (hh : fX7_seats s p0 p1 p2 = some r) (hk : w = none ∧ r = s') : J X MX7_seats (d + 13) 0 [some (.ref 19), some (.int p0), some (.int p1), some (.int p2), none, none] [] s w s' := by
  unfold fX7_seats at hh
  refine J_aload_n (pc := 0) dX7_seats_0 rfl ?_
  refine J_iload_n (pc := 1) dX7_seats_1 rfl ?_
  obtain ⟨hz1, hh⟩ := gz_some hh
  refine J_putIL (pc := 2) (k := 15) fpX7_250 so19 fk19_15 (nz_bool hz1) (by rcases hz1 with h9 | h9 <;> rw [h9] <;> rfl) dX7_seats_2 hh (fun s2 hh => ?_)
  refine J_aload_n (pc := 5) dX7_seats_5 rfl ?_
  refine J_iload_n (pc := 6) dX7_seats_6 rfl ?_
  refine J_putIL (pc := 7) (k := 17) fpX7_247 so19 fk19_17 rfl rfl dX7_seats_7 hh (fun s3 hh => ?_)
  refine J_aload_n (pc := 10) dX7_seats_10 rfl ?_
  refine J_iconst (pc := 11) dX7_seats_11 ci_0 ?_
  refine J_putIL (pc := 12) (k := 16) fpX7_257 so19 fk19_16 rfl rfl dX7_seats_12 hh (fun s4 hh => ?_)
  refine J_aload_n (pc := 15) dX7_seats_15 rfl ?_
  refine J_lconst (pc := 16) (v := 0) dX7_seats_16 rfl ?_
  refine J_putJL (pc := 17) (k := 11) fpX7_243 so19 fk19_11 rfl rfl dX7_seats_17 hh (fun s5 hh => ?_)
  refine J_iconst (pc := 20) dX7_seats_20 ci_0 ?_
  refine J_istore (pc := 21) (L' := [some (.ref 19), some (.int p0), some (.int p1), some (.int p2), some (.int (0 : Int32)), none]) dX7_seats_21 rfl (Nat.le_of_ble_eq_true rfl) rfl ?_
  refine J_drop 2 (L' := [some (.ref 19), some (.int p0), none, some (.int p2), some (.int (0 : Int32)), none]) rfl ?_
  refine J_drop 3 (L' := [some (.ref 19), some (.int p0), none, none, some (.int (0 : Int32)), none]) rfl ?_
  obtain ⟨y27, hy27, hh⟩ := bd_some hh
  refine J_lp (a := ((0 : Int32), s5)) (fun a : (Int32 × Mem) => J X MX7_seats (d + 13) 23 [some (.ref 19), some (.int p0), none, none, some (.int a.1), none] [] a.2 w s') (fun t : Mem => J X MX7_seats (d + 13) 114 [some (.ref 19), some (.int p0), none, none, none, none] [] t w s') (fun a q h1 h2 => jbX7_seats_23 d a.2 p0 a.1 h1 h2) hy27 ?_
  refine J_iconst (pc := 114) dX7_seats_114 ci_0 ?_
  refine J_istore (pc := 115) (L' := [some (.ref 19), some (.int p0), none, none, some (.int (0 : Int32)), none]) dX7_seats_115 rfl (Nat.le_of_ble_eq_true rfl) rfl ?_
  obtain ⟨y37, hy37, hh⟩ := bd_some hh
  refine J_lp (a := ((0 : Int32), y27)) (fun a : (Int32 × Mem) => J X MX7_seats (d + 13) 117 [some (.ref 19), some (.int p0), none, none, some (.int a.1), none] [] a.2 w s') (fun t : Mem => J X MX7_seats (d + 13) 171 [some (.ref 19), some (.int p0), none, none, none, none] [] t w s') (fun a q h1 h2 => jbX7_seats_117 d a.2 p0 a.1 h1 h2) hy37 ?_
  refine J_aload_n (pc := 171) dX7_seats_171 rfl ?_
  refine J_iload_n (pc := 172) dX7_seats_172 rfl ?_
  refine J_iconst (pc := 173) dX7_seats_173 ci_0 ?_
  obtain ⟨y38, hy38, hh⟩ := bd_some hh
  refine J_callV0 (pc := 174) (M' := MX7_seatsFrom) (a := 19) (rest := []) (As := [.int p0, .int (0 : Int32)]) (L0 := [some (.ref 19), some (.int p0), some (.int (0 : Int32)), none]) okX7_seatsFrom ovX7_seatsFrom mlX7_273 clX7 so19 rfl rfl (Nat.le_of_ble_eq_true rfl) dX7_seats_174 rfl (Nat.le_of_ble_eq_true rfl) (jX7_seatsFrom (X := X) d y37 p0 (0 : Int32) hy38) ?_
  obtain rfl := Option.some.inj hh
  obtain ⟨rfl, rfl⟩ := hk
  exact J_ret (w := none) ⟨dX7_seats_177, rfl⟩
theorem jX7_seats {X : Scr} (d : Nat) (s : Mem) (p0 : Int32) (p1 : Int32) (p2 : Int32) {r : Mem} (hh : fX7_seats s p0 p1 p2 = some r) : J X MX7_seats (d + 13) 0 [some (.ref 19), some (.int p0), some (.int p1), some (.int p2), none, none] [] s (none) r := jjX7_seats d s p0 p1 p2 hh ⟨rfl, rfl⟩
theorem dX7_becomesBest_0 : decode cX7_becomesBest 0 = .ok (.aload_n 0, 1) := by decide +kernel
theorem dX7_becomesBest_1 : decode cX7_becomesBest 1 = .ok (.invokevirtual 161, 3) := by decide +kernel
theorem dX7_becomesBest_4 : decode cX7_becomesBest 4 = .ok (.iconst 0, 1) := by decide +kernel
theorem dX7_becomesBest_5 : decode cX7_becomesBest 5 = .ok (.istore_n 2, 1) := by decide +kernel
theorem dX7_becomesBest_6 : decode cX7_becomesBest 6 = .ok (.iload_n 2, 1) := by decide +kernel
theorem dX7_becomesBest_7 : decode cX7_becomesBest 7 = .ok (.aload_n 0, 1) := by decide +kernel
theorem dX7_becomesBest_8 : decode cX7_becomesBest 8 = .ok (.getfield 9, 3) := by decide +kernel
theorem dX7_becomesBest_11 : decode cX7_becomesBest 11 = .ok (.bipush 96, 2) := by decide +kernel
theorem dX7_becomesBest_13 : decode cX7_becomesBest 13 = .ok (.iaload, 1) := by decide +kernel
theorem dX7_becomesBest_14 : decode cX7_becomesBest 14 = .ok (.if_icmp .ge 23, 3) := by decide +kernel
theorem dX7_becomesBest_17 : decode cX7_becomesBest 17 = .ok (.aload_n 0, 1) := by decide +kernel
theorem dX7_becomesBest_18 : decode cX7_becomesBest 18 = .ok (.iload_n 2, 1) := by decide +kernel
theorem dX7_becomesBest_19 : decode cX7_becomesBest 19 = .ok (.iload_n 1, 1) := by decide +kernel
theorem dX7_becomesBest_20 : decode cX7_becomesBest 20 = .ok (.aload_n 0, 1) := by decide +kernel
theorem dX7_becomesBest_21 : decode cX7_becomesBest 21 = .ok (.getfield 31, 3) := by decide +kernel
theorem dX7_becomesBest_24 : decode cX7_becomesBest 24 = .ok (.iload_n 2, 1) := by decide +kernel
theorem dX7_becomesBest_25 : decode cX7_becomesBest 25 = .ok (.iaload, 1) := by decide +kernel
theorem dX7_becomesBest_26 : decode cX7_becomesBest 26 = .ok (.iconst 1, 1) := by decide +kernel
theorem dX7_becomesBest_27 : decode cX7_becomesBest 27 = .ok (.isub, 1) := by decide +kernel
theorem dX7_becomesBest_28 : decode cX7_becomesBest 28 = .ok (.invokevirtual 174, 3) := by decide +kernel
theorem dX7_becomesBest_31 : decode cX7_becomesBest 31 = .ok (.iinc 2 1, 3) := by decide +kernel
theorem dX7_becomesBest_34 : decode cX7_becomesBest 34 = .ok (.goto (-28), 3) := by decide +kernel
theorem dX7_becomesBest_37 : decode cX7_becomesBest 37 = .ok (.aload_n 0, 1) := by decide +kernel
theorem dX7_becomesBest_38 : decode cX7_becomesBest 38 = .ok (.invokevirtual 168, 3) := by decide +kernel
theorem dX7_becomesBest_41 : decode cX7_becomesBest 41 = .ok (.return_, 1) := by decide +kernel
def bX7_becomesBest_6 (s : Mem) (v1 : Int32) (v2 : Int32) : Option (Mem ⊕ (Int32 × Mem)) :=
  gd (96 : Int32) 139 (if (s.1 20 (96 : Int32).toNatClampNeg) ≤ v2 then some (Sum.inl s) else gd v2 6 ((fX7_puts s v2 v1 ((s.1 25 v2.toNatClampNeg) - (1 : Int32))).bind (fun y4 => lt (v2 + (1 : Int32)) (fun x5 => some (Sum.inr (x5, y4))))))
set_option maxRecDepth 4000 in
theorem jbX7_becomesBest_6 {X : Scr} (d : Nat) (s : Mem) (v1 : Int32) (v2 : Int32) {r : (Mem ⊕ (Int32 × Mem))} {w : Option Value} {s' : Mem} (hh : bX7_becomesBest_6 s v1 v2 = some r) (hk : Sum.elim (fun t : Mem => J X MX7_becomesBest (d + 1) 37 [some (.ref 19), none, none] [] t w s') (fun a : (Int32 × Mem) => J X MX7_becomesBest (d + 1) 6 [some (.ref 19), some (.int v1), some (.int a.1)] [] a.2 w s') r) : J X MX7_becomesBest (d + 1) 6 [some (.ref 19), some (.int v1), some (.int v2)] [] s w s' := by
  unfold bX7_becomesBest_6 at hh
  refine J_iload_n (pc := 6) dX7_becomesBest_6 rfl ?_
  refine J_aload_n (pc := 7) dX7_becomesBest_7 rfl ?_
  refine J_getR (pc := 8) (k := 0) flX7_9 so19 fk19_0 dX7_becomesBest_8 ?_
  refine J_bipush (pc := 11) dX7_becomesBest_11 cb_96 ?_
  obtain ⟨h2, hh⟩ := gd_some hh
  refine J_iald (pc := 13) dX7_becomesBest_13 sa20 h2 ?_
  refine J_icmp_ge (pc := 14) 37 dX7_becomesBest_14 (by decide) (fun c6 => ?_) (fun c6 => ?_)
  · replace hh := (if_pos c6).symm.trans hh
    refine J_drop 1 (L' := [some (.ref 19), none, some (.int v2)]) rfl ?_
    refine J_drop 2 (L' := [some (.ref 19), none, none]) rfl ?_
    obtain rfl := Option.some.inj hh
    exact hk
  · replace hh := (if_neg c6).symm.trans hh
    refine J_aload_n (pc := 17) dX7_becomesBest_17 rfl ?_
    refine J_iload_n (pc := 18) dX7_becomesBest_18 rfl ?_
    refine J_iload_n (pc := 19) dX7_becomesBest_19 rfl ?_
    refine J_aload_n (pc := 20) dX7_becomesBest_20 rfl ?_
    refine J_getR (pc := 21) (k := 8) flX7_31 so19 fk19_8 dX7_becomesBest_21 ?_
    refine J_iload_n (pc := 24) dX7_becomesBest_24 rfl ?_
    obtain ⟨h3, hh⟩ := gd_some hh
    refine J_iald (pc := 25) dX7_becomesBest_25 sa25 h3 ?_
    refine J_iconst (pc := 26) dX7_becomesBest_26 ci_1 ?_
    refine J_isub (pc := 27) dX7_becomesBest_27 ?_
    obtain ⟨y4, hy4, hh⟩ := bd_some hh
    refine J_callV0 (pc := 28) (M' := MX7_puts) (a := 19) (rest := []) (As := [.int v2, .int v1, .int ((s.1 25 v2.toNatClampNeg) - (1 : Int32))]) (L0 := [some (.ref 19), some (.int v2), some (.int v1), some (.int ((s.1 25 v2.toNatClampNeg) - (1 : Int32)))]) okX7_puts ovX7_puts mlX7_174 clX7 so19 rfl rfl (Nat.le_of_ble_eq_true rfl) dX7_becomesBest_28 rfl (Nat.le_of_ble_eq_true rfl) (jX7_puts (X := X) d s v2 v1 ((s.1 25 v2.toNatClampNeg) - (1 : Int32)) hy4) ?_
    refine J_iincL (pc := 31) (v := v2 + (1 : Int32)) (fun x5 => [some (.ref 19), some (.int v1), some (.int x5)]) dX7_becomesBest_31 rfl rfl (Nat.le_of_ble_eq_true rfl) (congrArg _ ci_1) (fun _ => rfl) hh (fun x5 hh => ?_)
    refine J_goto (pc := 34) 6 dX7_becomesBest_34 (by decide) ?_
    obtain rfl := Option.some.inj hh
    exact hk
def fX7_becomesBest (s : Mem) (p0 : Int32) : Option Mem :=
  (fX7_laysAside s).bind (fun y1 => (lp (fun a => bX7_becomesBest_6 a.2 p0 a.1) 600 ((0 : Int32), y1)).bind (fun y7 => (fX7_changes y7).bind (fun y8 => some y8)))
set_option maxRecDepth 4000 in
theorem jjX7_becomesBest {X : Scr} (d : Nat) (s : Mem) (p0 : Int32) {r : Mem} {w : Option Value} {s' : Mem} (hh : fX7_becomesBest s p0 = some r) (hk : w = none ∧ r = s') : J X MX7_becomesBest (d + 1) 0 [some (.ref 19), some (.int p0), none] [] s w s' := by
  unfold fX7_becomesBest at hh
  refine J_aload_n (pc := 0) dX7_becomesBest_0 rfl ?_
  obtain ⟨y1, hy1, hh⟩ := bd_some hh
  refine J_callV0 (pc := 1) (M' := MX7_laysAside) (a := 19) (rest := []) (As := []) (L0 := [some (.ref 19), none]) okX7_laysAside ovX7_laysAside mlX7_161 clX7 so19 rfl rfl (Nat.le_of_ble_eq_true rfl) dX7_becomesBest_1 rfl (Nat.le_of_ble_eq_true rfl) (jX7_laysAside (X := X) d s hy1) ?_
  refine J_iconst (pc := 4) dX7_becomesBest_4 ci_0 ?_
  refine J_istore_n (pc := 5) (L' := [some (.ref 19), some (.int p0), some (.int (0 : Int32))]) dX7_becomesBest_5 rfl (Nat.le_of_ble_eq_true rfl) rfl ?_
  obtain ⟨y7, hy7, hh⟩ := bd_some hh
  refine J_lp (a := ((0 : Int32), y1)) (fun a : (Int32 × Mem) => J X MX7_becomesBest (d + 1) 6 [some (.ref 19), some (.int p0), some (.int a.1)] [] a.2 w s') (fun t : Mem => J X MX7_becomesBest (d + 1) 37 [some (.ref 19), none, none] [] t w s') (fun a q h1 h2 => jbX7_becomesBest_6 d a.2 p0 a.1 h1 h2) hy7 ?_
  refine J_aload_n (pc := 37) dX7_becomesBest_37 rfl ?_
  obtain ⟨y8, hy8, hh⟩ := bd_some hh
  refine J_callV0 (pc := 38) (M' := MX7_changes) (a := 19) (rest := []) (As := []) (L0 := [some (.ref 19), none, none]) okX7_changes ovX7_changes mlX7_168 clX7 so19 rfl rfl (Nat.le_of_ble_eq_true rfl) dX7_becomesBest_38 rfl (Nat.le_of_ble_eq_true rfl) (jX7_changes (X := X) d y7 hy8) ?_
  obtain rfl := Option.some.inj hh
  obtain ⟨rfl, rfl⟩ := hk
  exact J_ret (w := none) ⟨dX7_becomesBest_41, rfl⟩
theorem jX7_becomesBest {X : Scr} (d : Nat) (s : Mem) (p0 : Int32) {r : Mem} (hh : fX7_becomesBest s p0 = some r) : J X MX7_becomesBest (d + 1) 0 [some (.ref 19), some (.int p0), none] [] s (none) r := jjX7_becomesBest d s p0 hh ⟨rfl, rfl⟩
theorem dX7_most_0 : decode cX7_most 0 = .ok (.iload_n 1, 1) := by decide +kernel
theorem dX7_most_1 : decode cX7_most 1 = .ok (.invokestatic 139, 3) := by decide +kernel
theorem dX7_most_4 : decode cX7_most 4 = .ok (.ifCond .ne 9, 3) := by decide +kernel
theorem dX7_most_7 : decode cX7_most 7 = .ok (.aload_n 0, 1) := by decide +kernel
theorem dX7_most_8 : decode cX7_most 8 = .ok (.iconst 0, 1) := by decide +kernel
theorem dX7_most_9 : decode cX7_most 9 = .ok (.invokevirtual 158, 3) := by decide +kernel
theorem dX7_most_12 : decode cX7_most 12 = .ok (.ireturn, 1) := by decide +kernel
theorem dX7_most_13 : decode cX7_most 13 = .ok (.aload_n 0, 1) := by decide +kernel
theorem dX7_most_14 : decode cX7_most 14 = .ok (.iload_n 1, 1) := by decide +kernel
theorem dX7_most_15 : decode cX7_most 15 = .ok (.iconst 0, 1) := by decide +kernel
theorem dX7_most_16 : decode cX7_most 16 = .ok (.iconst (-1), 1) := by decide +kernel
theorem dX7_most_17 : decode cX7_most 17 = .ok (.invokevirtual 283, 3) := by decide +kernel
theorem dX7_most_20 : decode cX7_most 20 = .ok (.aload_n 0, 1) := by decide +kernel
theorem dX7_most_21 : decode cX7_most 21 = .ok (.getfield 260, 3) := by decide +kernel
theorem dX7_most_24 : decode cX7_most 24 = .ok (.ireturn, 1) := by decide +kernel
def fX7_most (s : Mem) (p0 : Int32) : Option (Int32 × Mem) :=
  (fX7_isCourse p0).bind (fun y1 => if y1 = (0 : Int32) then (fX7_finds s (0 : Int32)).bind (fun y3 => some ((y3.1, y3.2))) else (fX7_seats s p0 (0 : Int32) (-1 : Int32)).bind (fun y2 => some ((y2.1 19 12, y2))))
set_option maxRecDepth 4000 in
theorem jjX7_most {X : Scr} (d : Nat) (s : Mem) (p0 : Int32) {r : (Int32 × Mem)} {w : Option Value} {s' : Mem} (hh : fX7_most s p0 = some r) (hk : w = some (.int r.1) ∧ r.2 = s') : J X MX7_most (d + 14) 0 [some (.ref 19), some (.int p0)] [] s w s' := by
  unfold fX7_most at hh
  refine J_iload_n (pc := 0) dX7_most_0 rfl ?_
  obtain ⟨y1, hy1, hh⟩ := bd_some hh
  refine J_callSi (pc := 1) (M' := MX7_isCourse) (rest := []) (As := [.int p0]) (L0 := [some (.int p0)]) okX7_isCourse osX7_isCourse mlX7_139 rfl rfl (Nat.le_of_ble_eq_true rfl) dX7_most_1 rfl (Nat.le_of_ble_eq_true rfl) (jX7_isCourse (X := X) (d + 12) s p0 hy1) ?_
  refine J_if_ne (pc := 4) 13 dX7_most_4 (by decide) (fun c4 => ?_) (fun c4 => ?_)
  · replace hh := (if_neg c4).symm.trans hh
    refine J_aload_n (pc := 13) dX7_most_13 rfl ?_
    refine J_iload_n (pc := 14) dX7_most_14 rfl ?_
    refine J_iconst (pc := 15) dX7_most_15 ci_0 ?_
    refine J_iconst (pc := 16) dX7_most_16 ci_m1 ?_
    obtain ⟨y2, hy2, hh⟩ := bd_some hh
    refine J_callV0 (pc := 17) (M' := MX7_seats) (a := 19) (rest := []) (As := [.int p0, .int (0 : Int32), .int (-1 : Int32)]) (L0 := [some (.ref 19), some (.int p0), some (.int (0 : Int32)), some (.int (-1 : Int32)), none, none]) okX7_seats ovX7_seats mlX7_283 clX7 so19 rfl rfl (Nat.le_of_ble_eq_true rfl) dX7_most_17 rfl (Nat.le_of_ble_eq_true rfl) (jX7_seats (X := X) d s p0 (0 : Int32) (-1 : Int32) hy2) ?_
    refine J_aload_n (pc := 20) dX7_most_20 rfl ?_
    refine J_getI (pc := 21) (k := 12) flX7_260 so19 fk19_12 dX7_most_21 ?_
    obtain rfl := Option.some.inj hh
    obtain ⟨rfl, rfl⟩ := hk
    exact J_ret (w := some (.int (y2.1 19 12))) ⟨dX7_most_24, _, rfl, rfl⟩
  · replace hh := (if_pos c4).symm.trans hh
    refine J_aload_n (pc := 7) dX7_most_7 rfl ?_
    refine J_iconst (pc := 8) dX7_most_8 ci_0 ?_
    obtain ⟨y3, hy3, hh⟩ := bd_some hh
    refine J_callVi (pc := 9) (M' := MX7_finds) (a := 19) (rest := []) (As := [.int (0 : Int32)]) (L0 := [some (.ref 19), some (.int (0 : Int32))]) okX7_finds ovX7_finds mlX7_158 clX7 so19 rfl rfl (Nat.le_of_ble_eq_true rfl) dX7_most_9 rfl (Nat.le_of_ble_eq_true rfl) (jX7_finds (X := X) (d + 13) s (0 : Int32) hy3) ?_
    obtain rfl := Option.some.inj hh
    obtain ⟨rfl, rfl⟩ := hk
    exact J_ret (w := some (.int y3.1)) ⟨dX7_most_12, _, rfl, rfl⟩
theorem jX7_most {X : Scr} (d : Nat) (s : Mem) (p0 : Int32) {r : (Int32 × Mem)} (hh : fX7_most s p0 = some r) : J X MX7_most (d + 14) 0 [some (.ref 19), some (.int p0)] [] s (some (.int r.1)) r.2 := jjX7_most d s p0 hh ⟨rfl, rfl⟩
theorem dX7_seat_0 : decode cX7_seat 0 = .ok (.iload_n 1, 1) := by decide +kernel
theorem dX7_seat_1 : decode cX7_seat 1 = .ok (.invokestatic 139, 3) := by decide +kernel
theorem dX7_seat_4 : decode cX7_seat 4 = .ok (.ifCond .ne 9, 3) := by decide +kernel
theorem dX7_seat_7 : decode cX7_seat 7 = .ok (.aload_n 0, 1) := by decide +kernel
theorem dX7_seat_8 : decode cX7_seat 8 = .ok (.iconst 0, 1) := by decide +kernel
theorem dX7_seat_9 : decode cX7_seat 9 = .ok (.invokevirtual 158, 3) := by decide +kernel
theorem dX7_seat_12 : decode cX7_seat 12 = .ok (.ireturn, 1) := by decide +kernel
theorem dX7_seat_13 : decode cX7_seat 13 = .ok (.aload_n 0, 1) := by decide +kernel
theorem dX7_seat_14 : decode cX7_seat 14 = .ok (.iload_n 1, 1) := by decide +kernel
theorem dX7_seat_15 : decode cX7_seat 15 = .ok (.iconst 0, 1) := by decide +kernel
theorem dX7_seat_16 : decode cX7_seat 16 = .ok (.iconst (-1), 1) := by decide +kernel
theorem dX7_seat_17 : decode cX7_seat 17 = .ok (.invokevirtual 283, 3) := by decide +kernel
theorem dX7_seat_20 : decode cX7_seat 20 = .ok (.aload_n 0, 1) := by decide +kernel
theorem dX7_seat_21 : decode cX7_seat 21 = .ok (.iload_n 1, 1) := by decide +kernel
theorem dX7_seat_22 : decode cX7_seat 22 = .ok (.invokevirtual 287, 3) := by decide +kernel
theorem dX7_seat_25 : decode cX7_seat 25 = .ok (.aload_n 0, 1) := by decide +kernel
theorem dX7_seat_26 : decode cX7_seat 26 = .ok (.getfield 266, 3) := by decide +kernel
theorem dX7_seat_29 : decode cX7_seat 29 = .ok (.ireturn, 1) := by decide +kernel
def fX7_seat (s : Mem) (p0 : Int32) : Option (Int32 × Mem) :=
  (fX7_isCourse p0).bind (fun y1 => if y1 = (0 : Int32) then (fX7_finds s (0 : Int32)).bind (fun y4 => some ((y4.1, y4.2))) else (fX7_seats s p0 (0 : Int32) (-1 : Int32)).bind (fun y2 => (fX7_becomesBest y2 p0).bind (fun y3 => some ((y3.1 19 14, y3)))))
set_option maxRecDepth 4000 in
theorem jjX7_seat {X : Scr} (d : Nat) (s : Mem) (p0 : Int32) {r : (Int32 × Mem)} {w : Option Value} {s' : Mem} (hh : fX7_seat s p0 = some r) (hk : w = some (.int r.1) ∧ r.2 = s') : J X MX7_seat (d + 14) 0 [some (.ref 19), some (.int p0)] [] s w s' := by
  unfold fX7_seat at hh
  refine J_iload_n (pc := 0) dX7_seat_0 rfl ?_
  obtain ⟨y1, hy1, hh⟩ := bd_some hh
  refine J_callSi (pc := 1) (M' := MX7_isCourse) (rest := []) (As := [.int p0]) (L0 := [some (.int p0)]) okX7_isCourse osX7_isCourse mlX7_139 rfl rfl (Nat.le_of_ble_eq_true rfl) dX7_seat_1 rfl (Nat.le_of_ble_eq_true rfl) (jX7_isCourse (X := X) (d + 12) s p0 hy1) ?_
  refine J_if_ne (pc := 4) 13 dX7_seat_4 (by decide) (fun c5 => ?_) (fun c5 => ?_)
  · replace hh := (if_neg c5).symm.trans hh
    refine J_aload_n (pc := 13) dX7_seat_13 rfl ?_
    refine J_iload_n (pc := 14) dX7_seat_14 rfl ?_
    refine J_iconst (pc := 15) dX7_seat_15 ci_0 ?_
    refine J_iconst (pc := 16) dX7_seat_16 ci_m1 ?_
    obtain ⟨y2, hy2, hh⟩ := bd_some hh
    refine J_callV0 (pc := 17) (M' := MX7_seats) (a := 19) (rest := []) (As := [.int p0, .int (0 : Int32), .int (-1 : Int32)]) (L0 := [some (.ref 19), some (.int p0), some (.int (0 : Int32)), some (.int (-1 : Int32)), none, none]) okX7_seats ovX7_seats mlX7_283 clX7 so19 rfl rfl (Nat.le_of_ble_eq_true rfl) dX7_seat_17 rfl (Nat.le_of_ble_eq_true rfl) (jX7_seats (X := X) d s p0 (0 : Int32) (-1 : Int32) hy2) ?_
    refine J_aload_n (pc := 20) dX7_seat_20 rfl ?_
    refine J_iload_n (pc := 21) dX7_seat_21 rfl ?_
    obtain ⟨y3, hy3, hh⟩ := bd_some hh
    refine J_callV0 (pc := 22) (M' := MX7_becomesBest) (a := 19) (rest := []) (As := [.int p0]) (L0 := [some (.ref 19), some (.int p0), none]) okX7_becomesBest ovX7_becomesBest mlX7_287 clX7 so19 rfl rfl (Nat.le_of_ble_eq_true rfl) dX7_seat_22 rfl (Nat.le_of_ble_eq_true rfl) (jX7_becomesBest (X := X) (d + 12) y2 p0 hy3) ?_
    refine J_aload_n (pc := 25) dX7_seat_25 rfl ?_
    refine J_getI (pc := 26) (k := 14) flX7_266 so19 fk19_14 dX7_seat_26 ?_
    obtain rfl := Option.some.inj hh
    obtain ⟨rfl, rfl⟩ := hk
    exact J_ret (w := some (.int (y3.1 19 14))) ⟨dX7_seat_29, _, rfl, rfl⟩
  · replace hh := (if_pos c5).symm.trans hh
    refine J_aload_n (pc := 7) dX7_seat_7 rfl ?_
    refine J_iconst (pc := 8) dX7_seat_8 ci_0 ?_
    obtain ⟨y4, hy4, hh⟩ := bd_some hh
    refine J_callVi (pc := 9) (M' := MX7_finds) (a := 19) (rest := []) (As := [.int (0 : Int32)]) (L0 := [some (.ref 19), some (.int (0 : Int32))]) okX7_finds ovX7_finds mlX7_158 clX7 so19 rfl rfl (Nat.le_of_ble_eq_true rfl) dX7_seat_9 rfl (Nat.le_of_ble_eq_true rfl) (jX7_finds (X := X) (d + 13) s (0 : Int32) hy4) ?_
    obtain rfl := Option.some.inj hh
    obtain ⟨rfl, rfl⟩ := hk
    exact J_ret (w := some (.int y4.1)) ⟨dX7_seat_12, _, rfl, rfl⟩
theorem jX7_seat {X : Scr} (d : Nat) (s : Mem) (p0 : Int32) {r : (Int32 × Mem)} (hh : fX7_seat s p0 = some r) : J X MX7_seat (d + 14) 0 [some (.ref 19), some (.int p0)] [] s (some (.int r.1)) r.2 := jjX7_seat d s p0 hh ⟨rfl, rfl⟩
theorem dX7_evens_0 : decode cX7_evens 0 = .ok (.iload_n 1, 1) := by decide +kernel
theorem dX7_evens_1 : decode cX7_evens 1 = .ok (.invokestatic 139, 3) := by decide +kernel
theorem dX7_evens_4 : decode cX7_evens 4 = .ok (.ifCond .ne 9, 3) := by decide +kernel
theorem dX7_evens_7 : decode cX7_evens 7 = .ok (.aload_n 0, 1) := by decide +kernel
theorem dX7_evens_8 : decode cX7_evens 8 = .ok (.iconst 0, 1) := by decide +kernel
theorem dX7_evens_9 : decode cX7_evens 9 = .ok (.invokevirtual 158, 3) := by decide +kernel
theorem dX7_evens_12 : decode cX7_evens 12 = .ok (.ireturn, 1) := by decide +kernel
theorem dX7_evens_13 : decode cX7_evens 13 = .ok (.aload_n 0, 1) := by decide +kernel
theorem dX7_evens_14 : decode cX7_evens 14 = .ok (.iload_n 1, 1) := by decide +kernel
theorem dX7_evens_15 : decode cX7_evens 15 = .ok (.iconst 1, 1) := by decide +kernel
theorem dX7_evens_16 : decode cX7_evens 16 = .ok (.iconst (-1), 1) := by decide +kernel
theorem dX7_evens_17 : decode cX7_evens 17 = .ok (.invokevirtual 283, 3) := by decide +kernel
theorem dX7_evens_20 : decode cX7_evens 20 = .ok (.aload_n 0, 1) := by decide +kernel
theorem dX7_evens_21 : decode cX7_evens 21 = .ok (.iload_n 1, 1) := by decide +kernel
theorem dX7_evens_22 : decode cX7_evens 22 = .ok (.invokevirtual 287, 3) := by decide +kernel
theorem dX7_evens_25 : decode cX7_evens 25 = .ok (.aload_n 0, 1) := by decide +kernel
theorem dX7_evens_26 : decode cX7_evens 26 = .ok (.getfield 263, 3) := by decide +kernel
theorem dX7_evens_29 : decode cX7_evens 29 = .ok (.ireturn, 1) := by decide +kernel
def fX7_evens (s : Mem) (p0 : Int32) : Option (Int32 × Mem) :=
  (fX7_isCourse p0).bind (fun y1 => if y1 = (0 : Int32) then (fX7_finds s (0 : Int32)).bind (fun y4 => some ((y4.1, y4.2))) else (fX7_seats s p0 (1 : Int32) (-1 : Int32)).bind (fun y2 => (fX7_becomesBest y2 p0).bind (fun y3 => some ((y3.1 19 13, y3)))))
set_option maxRecDepth 4000 in
theorem jjX7_evens {X : Scr} (d : Nat) (s : Mem) (p0 : Int32) {r : (Int32 × Mem)} {w : Option Value} {s' : Mem} (hh : fX7_evens s p0 = some r) (hk : w = some (.int r.1) ∧ r.2 = s') : J X MX7_evens (d + 14) 0 [some (.ref 19), some (.int p0)] [] s w s' := by
  unfold fX7_evens at hh
  refine J_iload_n (pc := 0) dX7_evens_0 rfl ?_
  obtain ⟨y1, hy1, hh⟩ := bd_some hh
  refine J_callSi (pc := 1) (M' := MX7_isCourse) (rest := []) (As := [.int p0]) (L0 := [some (.int p0)]) okX7_isCourse osX7_isCourse mlX7_139 rfl rfl (Nat.le_of_ble_eq_true rfl) dX7_evens_1 rfl (Nat.le_of_ble_eq_true rfl) (jX7_isCourse (X := X) (d + 12) s p0 hy1) ?_
  refine J_if_ne (pc := 4) 13 dX7_evens_4 (by decide) (fun c5 => ?_) (fun c5 => ?_)
  · replace hh := (if_neg c5).symm.trans hh
    refine J_aload_n (pc := 13) dX7_evens_13 rfl ?_
    refine J_iload_n (pc := 14) dX7_evens_14 rfl ?_
    refine J_iconst (pc := 15) dX7_evens_15 ci_1 ?_
    refine J_iconst (pc := 16) dX7_evens_16 ci_m1 ?_
    obtain ⟨y2, hy2, hh⟩ := bd_some hh
    refine J_callV0 (pc := 17) (M' := MX7_seats) (a := 19) (rest := []) (As := [.int p0, .int (1 : Int32), .int (-1 : Int32)]) (L0 := [some (.ref 19), some (.int p0), some (.int (1 : Int32)), some (.int (-1 : Int32)), none, none]) okX7_seats ovX7_seats mlX7_283 clX7 so19 rfl rfl (Nat.le_of_ble_eq_true rfl) dX7_evens_17 rfl (Nat.le_of_ble_eq_true rfl) (jX7_seats (X := X) d s p0 (1 : Int32) (-1 : Int32) hy2) ?_
    refine J_aload_n (pc := 20) dX7_evens_20 rfl ?_
    refine J_iload_n (pc := 21) dX7_evens_21 rfl ?_
    obtain ⟨y3, hy3, hh⟩ := bd_some hh
    refine J_callV0 (pc := 22) (M' := MX7_becomesBest) (a := 19) (rest := []) (As := [.int p0]) (L0 := [some (.ref 19), some (.int p0), none]) okX7_becomesBest ovX7_becomesBest mlX7_287 clX7 so19 rfl rfl (Nat.le_of_ble_eq_true rfl) dX7_evens_22 rfl (Nat.le_of_ble_eq_true rfl) (jX7_becomesBest (X := X) (d + 12) y2 p0 hy3) ?_
    refine J_aload_n (pc := 25) dX7_evens_25 rfl ?_
    refine J_getI (pc := 26) (k := 13) flX7_263 so19 fk19_13 dX7_evens_26 ?_
    obtain rfl := Option.some.inj hh
    obtain ⟨rfl, rfl⟩ := hk
    exact J_ret (w := some (.int (y3.1 19 13))) ⟨dX7_evens_29, _, rfl, rfl⟩
  · replace hh := (if_pos c5).symm.trans hh
    refine J_aload_n (pc := 7) dX7_evens_7 rfl ?_
    refine J_iconst (pc := 8) dX7_evens_8 ci_0 ?_
    obtain ⟨y4, hy4, hh⟩ := bd_some hh
    refine J_callVi (pc := 9) (M' := MX7_finds) (a := 19) (rest := []) (As := [.int (0 : Int32)]) (L0 := [some (.ref 19), some (.int (0 : Int32))]) okX7_finds ovX7_finds mlX7_158 clX7 so19 rfl rfl (Nat.le_of_ble_eq_true rfl) dX7_evens_9 rfl (Nat.le_of_ble_eq_true rfl) (jX7_finds (X := X) (d + 13) s (0 : Int32) hy4) ?_
    obtain rfl := Option.some.inj hh
    obtain ⟨rfl, rfl⟩ := hk
    exact J_ret (w := some (.int y4.1)) ⟨dX7_evens_12, _, rfl, rfl⟩
theorem jX7_evens {X : Scr} (d : Nat) (s : Mem) (p0 : Int32) {r : (Int32 × Mem)} (hh : fX7_evens s p0 = some r) : J X MX7_evens (d + 14) 0 [some (.ref 19), some (.int p0)] [] s (some (.int r.1)) r.2 := jjX7_evens d s p0 hh ⟨rfl, rfl⟩
theorem dX7_whyNoSeat_0 : decode cX7_whyNoSeat 0 = .ok (.aload_n 0, 1) := by decide +kernel
theorem dX7_whyNoSeat_1 : decode cX7_whyNoSeat 1 = .ok (.iload_n 1, 1) := by decide +kernel
theorem dX7_whyNoSeat_2 : decode cX7_whyNoSeat 2 = .ok (.iload_n 2, 1) := by decide +kernel
theorem dX7_whyNoSeat_3 : decode cX7_whyNoSeat 3 = .ok (.invokevirtual 217, 3) := by decide +kernel
theorem dX7_whyNoSeat_6 : decode cX7_whyNoSeat 6 = .ok (.istore_n 3, 1) := by decide +kernel
theorem dX7_whyNoSeat_7 : decode cX7_whyNoSeat 7 = .ok (.iload_n 3, 1) := by decide +kernel
theorem dX7_whyNoSeat_8 : decode cX7_whyNoSeat 8 = .ok (.ifCond .lt 5, 3) := by decide +kernel
theorem dX7_whyNoSeat_11 : decode cX7_whyNoSeat 11 = .ok (.iload_n 3, 1) := by decide +kernel
theorem dX7_whyNoSeat_12 : decode cX7_whyNoSeat 12 = .ok (.ireturn, 1) := by decide +kernel
theorem dX7_whyNoSeat_13 : decode cX7_whyNoSeat 13 = .ok (.aload_n 0, 1) := by decide +kernel
theorem dX7_whyNoSeat_14 : decode cX7_whyNoSeat 14 = .ok (.iload_n 1, 1) := by decide +kernel
theorem dX7_whyNoSeat_15 : decode cX7_whyNoSeat 15 = .ok (.iload_n 2, 1) := by decide +kernel
theorem dX7_whyNoSeat_16 : decode cX7_whyNoSeat 16 = .ok (.invokevirtual 105, 3) := by decide +kernel
theorem dX7_whyNoSeat_19 : decode cX7_whyNoSeat 19 = .ok (.ifCond .lt 5, 3) := by decide +kernel
theorem dX7_whyNoSeat_22 : decode cX7_whyNoSeat 22 = .ok (.iconst 4, 1) := by decide +kernel
theorem dX7_whyNoSeat_23 : decode cX7_whyNoSeat 23 = .ok (.ireturn, 1) := by decide +kernel
theorem dX7_whyNoSeat_24 : decode cX7_whyNoSeat 24 = .ok (.aload_n 0, 1) := by decide +kernel
theorem dX7_whyNoSeat_25 : decode cX7_whyNoSeat 25 = .ok (.iload_n 2, 1) := by decide +kernel
theorem dX7_whyNoSeat_26 : decode cX7_whyNoSeat 26 = .ok (.iconst 0, 1) := by decide +kernel
theorem dX7_whyNoSeat_27 : decode cX7_whyNoSeat 27 = .ok (.iload_n 1, 1) := by decide +kernel
theorem dX7_whyNoSeat_28 : decode cX7_whyNoSeat 28 = .ok (.invokevirtual 283, 3) := by decide +kernel
theorem dX7_whyNoSeat_31 : decode cX7_whyNoSeat 31 = .ok (.aload_n 0, 1) := by decide +kernel
theorem dX7_whyNoSeat_32 : decode cX7_whyNoSeat 32 = .ok (.getfield 257, 3) := by decide +kernel
theorem dX7_whyNoSeat_35 : decode cX7_whyNoSeat 35 = .ok (.ifCond .eq 7, 3) := by decide +kernel
theorem dX7_whyNoSeat_38 : decode cX7_whyNoSeat 38 = .ok (.iconst (-1), 1) := by decide +kernel
theorem dX7_whyNoSeat_39 : decode cX7_whyNoSeat 39 = .ok (.goto 4, 3) := by decide +kernel
theorem dX7_whyNoSeat_42 : decode cX7_whyNoSeat 42 = .ok (.iconst 3, 1) := by decide +kernel
theorem dX7_whyNoSeat_43 : decode cX7_whyNoSeat 43 = .ok (.ireturn, 1) := by decide +kernel
def fX7_whyNoSeat (s : Mem) (p0 : Int32) (p1 : Int32) : Option (Int32 × Mem) :=
  (fX7_whyNot s p0 p1).bind (fun y1 => if y1 < (0 : Int32) then (fX7_triple s p0 p1).bind (fun y2 => if y2 < (0 : Int32) then (fX7_seats s p1 (0 : Int32) p0).bind (fun y3 => if (y3.1 19 16) = (0 : Int32) then some (((3 : Int32), y3)) else some (((-1 : Int32), y3))) else some (((4 : Int32), s))) else some ((y1, s)))
set_option maxRecDepth 4000 in
theorem jjX7_whyNoSeat {X : Scr} (d : Nat) (s : Mem) (p0 : Int32) (p1 : Int32) {r : (Int32 × Mem)} {w : Option Value} {s' : Mem} (hh : fX7_whyNoSeat s p0 p1 = some r) (hk : w = some (.int r.1) ∧ r.2 = s') : J X MX7_whyNoSeat (d + 14) 0 [some (.ref 19), some (.int p0), some (.int p1), none] [] s w s' := by
  unfold fX7_whyNoSeat at hh
  refine J_aload_n (pc := 0) dX7_whyNoSeat_0 rfl ?_
  refine J_iload_n (pc := 1) dX7_whyNoSeat_1 rfl ?_
  refine J_iload_n (pc := 2) dX7_whyNoSeat_2 rfl ?_
  obtain ⟨y1, hy1, hh⟩ := bd_some hh
  refine J_callVi (pc := 3) (M' := MX7_whyNot) (a := 19) (rest := []) (As := [.int p0, .int p1]) (L0 := [some (.ref 19), some (.int p0), some (.int p1)]) okX7_whyNot ovX7_whyNot mlX7_217 clX7 so19 rfl rfl (Nat.le_of_ble_eq_true rfl) dX7_whyNoSeat_3 rfl (Nat.le_of_ble_eq_true rfl) (jX7_whyNot (X := X) (d + 11) s p0 p1 hy1) ?_
  refine J_istore_n (pc := 6) (L' := [some (.ref 19), some (.int p0), some (.int p1), some (.int y1)]) dX7_whyNoSeat_6 rfl (Nat.le_of_ble_eq_true rfl) rfl ?_
  refine J_iload_n (pc := 7) dX7_whyNoSeat_7 rfl ?_
  refine J_if_lt (pc := 8) 13 dX7_whyNoSeat_8 (by decide) (fun c6 => ?_) (fun c6 => ?_)
  · replace hh := (if_pos c6).symm.trans hh
    refine J_aload_n (pc := 13) dX7_whyNoSeat_13 rfl ?_
    refine J_iload_n (pc := 14) dX7_whyNoSeat_14 rfl ?_
    refine J_iload_n (pc := 15) dX7_whyNoSeat_15 rfl ?_
    obtain ⟨y2, hy2, hh⟩ := bd_some hh
    refine J_callVi (pc := 16) (M' := MX7_triple) (a := 19) (rest := []) (As := [.int p0, .int p1]) (L0 := [some (.ref 19), some (.int p0), some (.int p1)]) okX7_triple ovX7_triple mlX7_105 clX7 so19 rfl rfl (Nat.le_of_ble_eq_true rfl) dX7_whyNoSeat_16 rfl (Nat.le_of_ble_eq_true rfl) (jX7_triple (X := X) (d + 13) s p0 p1 hy2) ?_
    refine J_if_lt (pc := 19) 24 dX7_whyNoSeat_19 (by decide) (fun c5 => ?_) (fun c5 => ?_)
    · replace hh := (if_pos c5).symm.trans hh
      refine J_aload_n (pc := 24) dX7_whyNoSeat_24 rfl ?_
      refine J_iload_n (pc := 25) dX7_whyNoSeat_25 rfl ?_
      refine J_iconst (pc := 26) dX7_whyNoSeat_26 ci_0 ?_
      refine J_iload_n (pc := 27) dX7_whyNoSeat_27 rfl ?_
      obtain ⟨y3, hy3, hh⟩ := bd_some hh
      refine J_callV0 (pc := 28) (M' := MX7_seats) (a := 19) (rest := []) (As := [.int p1, .int (0 : Int32), .int p0]) (L0 := [some (.ref 19), some (.int p1), some (.int (0 : Int32)), some (.int p0), none, none]) okX7_seats ovX7_seats mlX7_283 clX7 so19 rfl rfl (Nat.le_of_ble_eq_true rfl) dX7_whyNoSeat_28 rfl (Nat.le_of_ble_eq_true rfl) (jX7_seats (X := X) d s p1 (0 : Int32) p0 hy3) ?_
      refine J_aload_n (pc := 31) dX7_whyNoSeat_31 rfl ?_
      refine J_getI (pc := 32) (k := 16) flX7_257 so19 fk19_16 dX7_whyNoSeat_32 ?_
      refine J_if_eq (pc := 35) 42 dX7_whyNoSeat_35 (by decide) (fun c4 => ?_) (fun c4 => ?_)
      · replace hh := (if_pos c4).symm.trans hh
        refine J_iconst (pc := 42) dX7_whyNoSeat_42 ci_3 ?_
        obtain rfl := Option.some.inj hh
        obtain ⟨rfl, rfl⟩ := hk
        exact J_ret (w := some (.int (3 : Int32))) ⟨dX7_whyNoSeat_43, _, rfl, rfl⟩
      · replace hh := (if_neg c4).symm.trans hh
        refine J_iconst (pc := 38) dX7_whyNoSeat_38 ci_m1 ?_
        refine J_goto (pc := 39) 43 dX7_whyNoSeat_39 (by decide) ?_
        obtain rfl := Option.some.inj hh
        obtain ⟨rfl, rfl⟩ := hk
        exact J_ret (w := some (.int (-1 : Int32))) ⟨dX7_whyNoSeat_43, _, rfl, rfl⟩
    · replace hh := (if_neg c5).symm.trans hh
      refine J_iconst (pc := 22) dX7_whyNoSeat_22 ci_4 ?_
      obtain rfl := Option.some.inj hh
      obtain ⟨rfl, rfl⟩ := hk
      exact J_ret (w := some (.int (4 : Int32))) ⟨dX7_whyNoSeat_23, _, rfl, rfl⟩
  · replace hh := (if_neg c6).symm.trans hh
    refine J_iload_n (pc := 11) dX7_whyNoSeat_11 rfl ?_
    obtain rfl := Option.some.inj hh
    obtain ⟨rfl, rfl⟩ := hk
    exact J_ret (w := some (.int y1)) ⟨dX7_whyNoSeat_12, _, rfl, rfl⟩
theorem jX7_whyNoSeat {X : Scr} (d : Nat) (s : Mem) (p0 : Int32) (p1 : Int32) {r : (Int32 × Mem)} (hh : fX7_whyNoSeat s p0 p1 = some r) : J X MX7_whyNoSeat (d + 14) 0 [some (.ref 19), some (.int p0), some (.int p1), none] [] s (some (.int r.1)) r.2 := jjX7_whyNoSeat d s p0 p1 hh ⟨rfl, rfl⟩
theorem dX7_chain_0 : decode cX7_chain 0 = .ok (.aload_n 0, 1) := by decide +kernel
theorem dX7_chain_1 : decode cX7_chain 1 = .ok (.iload_n 1, 1) := by decide +kernel
theorem dX7_chain_2 : decode cX7_chain 2 = .ok (.iload_n 2, 1) := by decide +kernel
theorem dX7_chain_3 : decode cX7_chain 3 = .ok (.invokevirtual 290, 3) := by decide +kernel
theorem dX7_chain_6 : decode cX7_chain 6 = .ok (.istore_n 3, 1) := by decide +kernel
theorem dX7_chain_7 : decode cX7_chain 7 = .ok (.iload_n 3, 1) := by decide +kernel
theorem dX7_chain_8 : decode cX7_chain 8 = .ok (.ifCond .ge 10, 3) := by decide +kernel
theorem dX7_chain_11 : decode cX7_chain 11 = .ok (.aload_n 0, 1) := by decide +kernel
theorem dX7_chain_12 : decode cX7_chain 12 = .ok (.getfield 266, 3) := by decide +kernel
theorem dX7_chain_15 : decode cX7_chain 15 = .ok (.goto 8, 3) := by decide +kernel
theorem dX7_chain_18 : decode cX7_chain 18 = .ok (.aload_n 0, 1) := by decide +kernel
theorem dX7_chain_19 : decode cX7_chain 19 = .ok (.iload_n 3, 1) := by decide +kernel
theorem dX7_chain_20 : decode cX7_chain 20 = .ok (.invokevirtual 158, 3) := by decide +kernel
theorem dX7_chain_23 : decode cX7_chain 23 = .ok (.ireturn, 1) := by decide +kernel
def fX7_chain (s : Mem) (p0 : Int32) (p1 : Int32) : Option (Int32 × Mem) :=
  (fX7_whyNoSeat s p0 p1).bind (fun y1 => if (0 : Int32) ≤ y1.1 then (fX7_finds y1.2 y1.1).bind (fun y2 => some ((y2.1, y2.2))) else some ((y1.2.1 19 14, y1.2)))
set_option maxRecDepth 4000 in
theorem jjX7_chain {X : Scr} (d : Nat) (s : Mem) (p0 : Int32) (p1 : Int32) {r : (Int32 × Mem)} {w : Option Value} {s' : Mem} (hh : fX7_chain s p0 p1 = some r) (hk : w = some (.int r.1) ∧ r.2 = s') : J X MX7_chain (d + 15) 0 [some (.ref 19), some (.int p0), some (.int p1), none] [] s w s' := by
  unfold fX7_chain at hh
  refine J_aload_n (pc := 0) dX7_chain_0 rfl ?_
  refine J_iload_n (pc := 1) dX7_chain_1 rfl ?_
  refine J_iload_n (pc := 2) dX7_chain_2 rfl ?_
  obtain ⟨y1, hy1, hh⟩ := bd_some hh
  refine J_callVi (pc := 3) (M' := MX7_whyNoSeat) (a := 19) (rest := []) (As := [.int p0, .int p1]) (L0 := [some (.ref 19), some (.int p0), some (.int p1), none]) okX7_whyNoSeat ovX7_whyNoSeat mlX7_290 clX7 so19 rfl rfl (Nat.le_of_ble_eq_true rfl) dX7_chain_3 rfl (Nat.le_of_ble_eq_true rfl) (jX7_whyNoSeat (X := X) d s p0 p1 hy1) ?_
  refine J_istore_n (pc := 6) (L' := [some (.ref 19), some (.int p0), some (.int p1), some (.int y1.1)]) dX7_chain_6 rfl (Nat.le_of_ble_eq_true rfl) rfl ?_
  refine J_iload_n (pc := 7) dX7_chain_7 rfl ?_
  refine J_if_ge (pc := 8) 18 dX7_chain_8 (by decide) (fun c3 => ?_) (fun c3 => ?_)
  · replace hh := (if_pos c3).symm.trans hh
    refine J_aload_n (pc := 18) dX7_chain_18 rfl ?_
    refine J_iload_n (pc := 19) dX7_chain_19 rfl ?_
    obtain ⟨y2, hy2, hh⟩ := bd_some hh
    refine J_callVi (pc := 20) (M' := MX7_finds) (a := 19) (rest := []) (As := [.int y1.1]) (L0 := [some (.ref 19), some (.int y1.1)]) okX7_finds ovX7_finds mlX7_158 clX7 so19 rfl rfl (Nat.le_of_ble_eq_true rfl) dX7_chain_20 rfl (Nat.le_of_ble_eq_true rfl) (jX7_finds (X := X) (d + 14) y1.2 y1.1 hy2) ?_
    obtain rfl := Option.some.inj hh
    obtain ⟨rfl, rfl⟩ := hk
    exact J_ret (w := some (.int y2.1)) ⟨dX7_chain_23, _, rfl, rfl⟩
  · replace hh := (if_neg c3).symm.trans hh
    refine J_aload_n (pc := 11) dX7_chain_11 rfl ?_
    refine J_getI (pc := 12) (k := 14) flX7_266 so19 fk19_14 dX7_chain_12 ?_
    refine J_goto (pc := 15) 23 dX7_chain_15 (by decide) ?_
    obtain rfl := Option.some.inj hh
    obtain ⟨rfl, rfl⟩ := hk
    exact J_ret (w := some (.int (y1.2.1 19 14))) ⟨dX7_chain_23, _, rfl, rfl⟩
theorem jX7_chain {X : Scr} (d : Nat) (s : Mem) (p0 : Int32) (p1 : Int32) {r : (Int32 × Mem)} (hh : fX7_chain s p0 p1 = some r) : J X MX7_chain (d + 15) 0 [some (.ref 19), some (.int p0), some (.int p1), none] [] s (some (.int r.1)) r.2 := jjX7_chain d s p0 p1 hh ⟨rfl, rfl⟩
theorem dX7_lets_0 : decode cX7_lets 0 = .ok (.aload_n 0, 1) := by decide +kernel
theorem dX7_lets_1 : decode cX7_lets 1 = .ok (.iload_n 1, 1) := by decide +kernel
theorem dX7_lets_2 : decode cX7_lets 2 = .ok (.iload_n 2, 1) := by decide +kernel
theorem dX7_lets_3 : decode cX7_lets 3 = .ok (.invokevirtual 290, 3) := by decide +kernel
theorem dX7_lets_6 : decode cX7_lets 6 = .ok (.istore_n 3, 1) := by decide +kernel
theorem dX7_lets_7 : decode cX7_lets 7 = .ok (.iload_n 3, 1) := by decide +kernel
theorem dX7_lets_8 : decode cX7_lets 8 = .ok (.ifCond .lt 9, 3) := by decide +kernel
theorem dX7_lets_11 : decode cX7_lets 11 = .ok (.aload_n 0, 1) := by decide +kernel
theorem dX7_lets_12 : decode cX7_lets 12 = .ok (.iload_n 3, 1) := by decide +kernel
theorem dX7_lets_13 : decode cX7_lets 13 = .ok (.invokevirtual 158, 3) := by decide +kernel
theorem dX7_lets_16 : decode cX7_lets 16 = .ok (.ireturn, 1) := by decide +kernel
theorem dX7_lets_17 : decode cX7_lets 17 = .ok (.aload_n 0, 1) := by decide +kernel
theorem dX7_lets_18 : decode cX7_lets 18 = .ok (.iload_n 2, 1) := by decide +kernel
theorem dX7_lets_19 : decode cX7_lets 19 = .ok (.invokevirtual 287, 3) := by decide +kernel
theorem dX7_lets_22 : decode cX7_lets 22 = .ok (.aload_n 0, 1) := by decide +kernel
theorem dX7_lets_23 : decode cX7_lets 23 = .ok (.iload_n 1, 1) := by decide +kernel
theorem dX7_lets_24 : decode cX7_lets 24 = .ok (.iload_n 2, 1) := by decide +kernel
theorem dX7_lets_25 : decode cX7_lets 25 = .ok (.invokevirtual 105, 3) := by decide +kernel
theorem dX7_lets_28 : decode cX7_lets 28 = .ok (.ireturn, 1) := by decide +kernel
def fX7_lets (s : Mem) (p0 : Int32) (p1 : Int32) : Option (Int32 × Mem) :=
  (fX7_whyNoSeat s p0 p1).bind (fun y1 => if y1.1 < (0 : Int32) then (fX7_becomesBest y1.2 p1).bind (fun y2 => (fX7_triple y2 p0 p1).bind (fun y3 => some ((y3, y2)))) else (fX7_finds y1.2 y1.1).bind (fun y4 => some ((y4.1, y4.2))))
set_option maxRecDepth 4000 in
theorem jjX7_lets {X : Scr} (d : Nat) (s : Mem) (p0 : Int32) (p1 : Int32) {r : (Int32 × Mem)} {w : Option Value} {s' : Mem} (hh : fX7_lets s p0 p1 = some r) (hk : w = some (.int r.1) ∧ r.2 = s') : J X MX7_lets (d + 15) 0 [some (.ref 19), some (.int p0), some (.int p1), none] [] s w s' := by
  unfold fX7_lets at hh
  refine J_aload_n (pc := 0) dX7_lets_0 rfl ?_
  refine J_iload_n (pc := 1) dX7_lets_1 rfl ?_
  refine J_iload_n (pc := 2) dX7_lets_2 rfl ?_
  obtain ⟨y1, hy1, hh⟩ := bd_some hh
  refine J_callVi (pc := 3) (M' := MX7_whyNoSeat) (a := 19) (rest := []) (As := [.int p0, .int p1]) (L0 := [some (.ref 19), some (.int p0), some (.int p1), none]) okX7_whyNoSeat ovX7_whyNoSeat mlX7_290 clX7 so19 rfl rfl (Nat.le_of_ble_eq_true rfl) dX7_lets_3 rfl (Nat.le_of_ble_eq_true rfl) (jX7_whyNoSeat (X := X) d s p0 p1 hy1) ?_
  refine J_istore_n (pc := 6) (L' := [some (.ref 19), some (.int p0), some (.int p1), some (.int y1.1)]) dX7_lets_6 rfl (Nat.le_of_ble_eq_true rfl) rfl ?_
  refine J_iload_n (pc := 7) dX7_lets_7 rfl ?_
  refine J_if_lt (pc := 8) 17 dX7_lets_8 (by decide) (fun c5 => ?_) (fun c5 => ?_)
  · replace hh := (if_pos c5).symm.trans hh
    refine J_aload_n (pc := 17) dX7_lets_17 rfl ?_
    refine J_iload_n (pc := 18) dX7_lets_18 rfl ?_
    obtain ⟨y2, hy2, hh⟩ := bd_some hh
    refine J_callV0 (pc := 19) (M' := MX7_becomesBest) (a := 19) (rest := []) (As := [.int p1]) (L0 := [some (.ref 19), some (.int p1), none]) okX7_becomesBest ovX7_becomesBest mlX7_287 clX7 so19 rfl rfl (Nat.le_of_ble_eq_true rfl) dX7_lets_19 rfl (Nat.le_of_ble_eq_true rfl) (jX7_becomesBest (X := X) (d + 13) y1.2 p1 hy2) ?_
    refine J_aload_n (pc := 22) dX7_lets_22 rfl ?_
    refine J_iload_n (pc := 23) dX7_lets_23 rfl ?_
    refine J_iload_n (pc := 24) dX7_lets_24 rfl ?_
    obtain ⟨y3, hy3, hh⟩ := bd_some hh
    refine J_callVi (pc := 25) (M' := MX7_triple) (a := 19) (rest := []) (As := [.int p0, .int p1]) (L0 := [some (.ref 19), some (.int p0), some (.int p1)]) okX7_triple ovX7_triple mlX7_105 clX7 so19 rfl rfl (Nat.le_of_ble_eq_true rfl) dX7_lets_25 rfl (Nat.le_of_ble_eq_true rfl) (jX7_triple (X := X) (d + 14) y2 p0 p1 hy3) ?_
    obtain rfl := Option.some.inj hh
    obtain ⟨rfl, rfl⟩ := hk
    exact J_ret (w := some (.int y3)) ⟨dX7_lets_28, _, rfl, rfl⟩
  · replace hh := (if_neg c5).symm.trans hh
    refine J_aload_n (pc := 11) dX7_lets_11 rfl ?_
    refine J_iload_n (pc := 12) dX7_lets_12 rfl ?_
    obtain ⟨y4, hy4, hh⟩ := bd_some hh
    refine J_callVi (pc := 13) (M' := MX7_finds) (a := 19) (rest := []) (As := [.int y1.1]) (L0 := [some (.ref 19), some (.int y1.1)]) okX7_finds ovX7_finds mlX7_158 clX7 so19 rfl rfl (Nat.le_of_ble_eq_true rfl) dX7_lets_13 rfl (Nat.le_of_ble_eq_true rfl) (jX7_finds (X := X) (d + 14) y1.2 y1.1 hy4) ?_
    obtain rfl := Option.some.inj hh
    obtain ⟨rfl, rfl⟩ := hk
    exact J_ret (w := some (.int y4.1)) ⟨dX7_lets_16, _, rfl, rfl⟩
theorem jX7_lets {X : Scr} (d : Nat) (s : Mem) (p0 : Int32) (p1 : Int32) {r : (Int32 × Mem)} (hh : fX7_lets s p0 p1 = some r) : J X MX7_lets (d + 15) 0 [some (.ref 19), some (.int p0), some (.int p1), none] [] s (some (.int r.1)) r.2 := jjX7_lets d s p0 p1 hh ⟨rfl, rfl⟩
theorem dX7_ways_0 : decode cX7_ways 0 = .ok (.iload_n 1, 1) := by decide +kernel
theorem dX7_ways_1 : decode cX7_ways 1 = .ok (.invokestatic 139, 3) := by decide +kernel
theorem dX7_ways_4 : decode cX7_ways 4 = .ok (.ifCond .ne 9, 3) := by decide +kernel
theorem dX7_ways_7 : decode cX7_ways 7 = .ok (.aload_n 0, 1) := by decide +kernel
theorem dX7_ways_8 : decode cX7_ways 8 = .ok (.iconst 0, 1) := by decide +kernel
theorem dX7_ways_9 : decode cX7_ways 9 = .ok (.invokevirtual 293, 3) := by decide +kernel
theorem dX7_ways_12 : decode cX7_ways 12 = .ok (.lreturn, 1) := by decide +kernel
theorem dX7_ways_13 : decode cX7_ways 13 = .ok (.aload_n 0, 1) := by decide +kernel
theorem dX7_ways_14 : decode cX7_ways 14 = .ok (.iload_n 1, 1) := by decide +kernel
theorem dX7_ways_15 : decode cX7_ways 15 = .ok (.iconst 0, 1) := by decide +kernel
theorem dX7_ways_16 : decode cX7_ways 16 = .ok (.iconst (-1), 1) := by decide +kernel
theorem dX7_ways_17 : decode cX7_ways 17 = .ok (.invokevirtual 283, 3) := by decide +kernel
theorem dX7_ways_20 : decode cX7_ways 20 = .ok (.aload_n 0, 1) := by decide +kernel
theorem dX7_ways_21 : decode cX7_ways 21 = .ok (.getfield 243, 3) := by decide +kernel
theorem dX7_ways_24 : decode cX7_ways 24 = .ok (.lreturn, 1) := by decide +kernel
def fX7_ways (s : Mem) (p0 : Int32) : Option (Int64 × Mem) :=
  (fX7_isCourse p0).bind (fun y1 => if y1 = (0 : Int32) then (fX7_findsLong s (0 : Int32)).bind (fun y3 => some ((y3.1, y3.2))) else (fX7_seats s p0 (0 : Int32) (-1 : Int32)).bind (fun y2 => some ((y2.2 19 11, y2))))
set_option maxRecDepth 4000 in
theorem jjX7_ways {X : Scr} (d : Nat) (s : Mem) (p0 : Int32) {r : (Int64 × Mem)} {w : Option Value} {s' : Mem} (hh : fX7_ways s p0 = some r) (hk : w = some (.long r.1) ∧ r.2 = s') : J X MX7_ways (d + 14) 0 [some (.ref 19), some (.int p0)] [] s w s' := by
  unfold fX7_ways at hh
  refine J_iload_n (pc := 0) dX7_ways_0 rfl ?_
  obtain ⟨y1, hy1, hh⟩ := bd_some hh
  refine J_callSi (pc := 1) (M' := MX7_isCourse) (rest := []) (As := [.int p0]) (L0 := [some (.int p0)]) okX7_isCourse osX7_isCourse mlX7_139 rfl rfl (Nat.le_of_ble_eq_true rfl) dX7_ways_1 rfl (Nat.le_of_ble_eq_true rfl) (jX7_isCourse (X := X) (d + 12) s p0 hy1) ?_
  refine J_if_ne (pc := 4) 13 dX7_ways_4 (by decide) (fun c4 => ?_) (fun c4 => ?_)
  · replace hh := (if_neg c4).symm.trans hh
    refine J_aload_n (pc := 13) dX7_ways_13 rfl ?_
    refine J_iload_n (pc := 14) dX7_ways_14 rfl ?_
    refine J_iconst (pc := 15) dX7_ways_15 ci_0 ?_
    refine J_iconst (pc := 16) dX7_ways_16 ci_m1 ?_
    obtain ⟨y2, hy2, hh⟩ := bd_some hh
    refine J_callV0 (pc := 17) (M' := MX7_seats) (a := 19) (rest := []) (As := [.int p0, .int (0 : Int32), .int (-1 : Int32)]) (L0 := [some (.ref 19), some (.int p0), some (.int (0 : Int32)), some (.int (-1 : Int32)), none, none]) okX7_seats ovX7_seats mlX7_283 clX7 so19 rfl rfl (Nat.le_of_ble_eq_true rfl) dX7_ways_17 rfl (Nat.le_of_ble_eq_true rfl) (jX7_seats (X := X) d s p0 (0 : Int32) (-1 : Int32) hy2) ?_
    refine J_aload_n (pc := 20) dX7_ways_20 rfl ?_
    refine J_getJ (pc := 21) (k := 11) flX7_243 so19 fk19_11 dX7_ways_21 ?_
    obtain rfl := Option.some.inj hh
    obtain ⟨rfl, rfl⟩ := hk
    exact J_ret (w := some (.long (y2.2 19 11))) ⟨dX7_ways_24, rfl⟩
  · replace hh := (if_pos c4).symm.trans hh
    refine J_aload_n (pc := 7) dX7_ways_7 rfl ?_
    refine J_iconst (pc := 8) dX7_ways_8 ci_0 ?_
    obtain ⟨y3, hy3, hh⟩ := bd_some hh
    refine J_callVi (pc := 9) (M' := MX7_findsLong) (a := 19) (rest := []) (As := [.int (0 : Int32)]) (L0 := [some (.ref 19), some (.int (0 : Int32))]) okX7_findsLong ovX7_findsLong mlX7_293 clX7 so19 rfl rfl (Nat.le_of_ble_eq_true rfl) dX7_ways_9 rfl (Nat.le_of_ble_eq_true rfl) (jX7_findsLong (X := X) (d + 13) s (0 : Int32) hy3) ?_
    obtain rfl := Option.some.inj hh
    obtain ⟨rfl, rfl⟩ := hk
    exact J_ret (w := some (.long y3.1)) ⟨dX7_ways_12, rfl⟩
theorem jX7_ways {X : Scr} (d : Nat) (s : Mem) (p0 : Int32) {r : (Int64 × Mem)} (hh : fX7_ways s p0 = some r) : J X MX7_ways (d + 14) 0 [some (.ref 19), some (.int p0)] [] s (some (.long r.1)) r.2 := jjX7_ways d s p0 hh ⟨rfl, rfl⟩
theorem dX7_isSheet_0 : decode cX7_isSheet 0 = .ok (.iload_n 0, 1) := by decide +kernel
theorem dX7_isSheet_1 : decode cX7_isSheet 1 = .ok (.i2l, 1) := by decide +kernel
theorem dX7_isSheet_2 : decode cX7_isSheet 2 = .ok (.lconst 0, 1) := by decide +kernel
theorem dX7_isSheet_3 : decode cX7_isSheet 3 = .ok (.ldc2_w 101, 3) := by decide +kernel
theorem dX7_isSheet_6 : decode cX7_isSheet 6 = .ok (.invokestatic 63, 3) := by decide +kernel
theorem dX7_isSheet_9 : decode cX7_isSheet 9 = .ok (.ireturn, 1) := by decide +kernel
def fX7_isSheet (p0 : Int32) : Option Int32 :=
  (fX7_in (p0.toInt64) (0 : Int64) (3 : Int64)).bind (fun y1 => gz y1 (some y1))
set_option maxRecDepth 4000 in
theorem jjX7_isSheet {X : Scr} (d : Nat) {s : Mem} (p0 : Int32) {r : Int32} {w : Option Value} {s' : Mem} (hh : fX7_isSheet p0 = some r) (hk : w = some (.int r) ∧ s = s') : J X MX7_isSheet (d + 1) 0 [some (.int p0)] [] s w s' := by
  unfold fX7_isSheet at hh
  refine J_iload_n (pc := 0) dX7_isSheet_0 rfl ?_
  refine J_i2l (pc := 1) dX7_isSheet_1 ?_
  refine J_lconst (pc := 2) (v := 0) dX7_isSheet_2 rfl ?_
  refine J_ldc2 (pc := 3) klX7_101 dX7_isSheet_3 ?_
  obtain ⟨y1, hy1, hh⟩ := bd_some hh
  refine J_callSi (pc := 6) (M' := MX7_in) (rest := []) (As := [.long (p0.toInt64), .long (0 : Int64), .long (3 : Int64)]) (L0 := [some (.long (p0.toInt64)), none, some (.long (0 : Int64)), none, some (.long (3 : Int64)), none]) okX7_in osX7_in mlX7_63 rfl rfl (Nat.le_of_ble_eq_true rfl) dX7_isSheet_6 rfl (Nat.le_of_ble_eq_true rfl) (jX7_in (X := X) d s (p0.toInt64) (0 : Int64) (3 : Int64) hy1) ?_
  obtain ⟨hz2, hh⟩ := gz_some hh
  obtain rfl := Option.some.inj hh
  obtain ⟨rfl, rfl⟩ := hk
  exact J_ret (w := some (.int y1)) ⟨dX7_isSheet_9, _, rfl, (nz_bool hz2)⟩
theorem jX7_isSheet {X : Scr} (d : Nat) (s : Mem) (p0 : Int32) {r : Int32} (hh : fX7_isSheet p0 = some r) : J X MX7_isSheet (d + 1) 0 [some (.int p0)] [] s (some (.int r)) s := jjX7_isSheet d p0 hh ⟨rfl, rfl⟩
theorem dX7_isInt_0 : decode cX7_isInt 0 = .ok (.lload_n 0, 1) := by decide +kernel
theorem dX7_isInt_1 : decode cX7_isInt 1 = .ok (.lload_n 0, 1) := by decide +kernel
theorem dX7_isInt_2 : decode cX7_isInt 2 = .ok (.l2i, 1) := by decide +kernel
theorem dX7_isInt_3 : decode cX7_isInt 3 = .ok (.i2l, 1) := by decide +kernel
theorem dX7_isInt_4 : decode cX7_isInt 4 = .ok (.lcmp, 1) := by decide +kernel
theorem dX7_isInt_5 : decode cX7_isInt 5 = .ok (.ifCond .ne 7, 3) := by decide +kernel
theorem dX7_isInt_8 : decode cX7_isInt 8 = .ok (.iconst 1, 1) := by decide +kernel
theorem dX7_isInt_9 : decode cX7_isInt 9 = .ok (.goto 4, 3) := by decide +kernel
theorem dX7_isInt_12 : decode cX7_isInt 12 = .ok (.iconst 0, 1) := by decide +kernel
theorem dX7_isInt_13 : decode cX7_isInt 13 = .ok (.ireturn, 1) := by decide +kernel
def fX7_isInt (p0 : Int64) : Option Int32 :=
  if (lg_cmp p0 ((p0.toInt32).toInt64)) = (0 : Int32) then some (1 : Int32) else some (0 : Int32)
set_option maxRecDepth 4000 in
theorem jjX7_isInt {X : Scr} (d : Nat) {s : Mem} (p0 : Int64) {r : Int32} {w : Option Value} {s' : Mem} (hh : fX7_isInt p0 = some r) (hk : w = some (.int r) ∧ s = s') : J X MX7_isInt (d + 0) 0 [some (.long p0), none] [] s w s' := by
  unfold fX7_isInt at hh
  refine J_lload_n (pc := 0) dX7_isInt_0 rfl ?_
  refine J_lload_n (pc := 1) dX7_isInt_1 rfl ?_
  refine J_l2i (pc := 2) dX7_isInt_2 ?_
  refine J_i2l (pc := 3) dX7_isInt_3 ?_
  refine J_lcmp (pc := 4) dX7_isInt_4 ?_
  refine J_if_ne (pc := 5) 12 dX7_isInt_5 (by decide) (fun c1 => ?_) (fun c1 => ?_)
  · replace hh := (if_neg c1).symm.trans hh
    refine J_iconst (pc := 12) dX7_isInt_12 ci_0 ?_
    obtain rfl := Option.some.inj hh
    obtain ⟨rfl, rfl⟩ := hk
    exact J_ret (w := some (.int (0 : Int32))) ⟨dX7_isInt_13, _, rfl, rfl⟩
  · replace hh := (if_pos c1).symm.trans hh
    refine J_iconst (pc := 8) dX7_isInt_8 ci_1 ?_
    refine J_goto (pc := 9) 13 dX7_isInt_9 (by decide) ?_
    obtain rfl := Option.some.inj hh
    obtain ⟨rfl, rfl⟩ := hk
    exact J_ret (w := some (.int (1 : Int32))) ⟨dX7_isInt_13, _, rfl, rfl⟩
theorem jX7_isInt {X : Scr} (d : Nat) (s : Mem) (p0 : Int64) {r : Int32} (hh : fX7_isInt p0 = some r) : J X MX7_isInt (d + 0) 0 [some (.long p0), none] [] s (some (.int r)) s := jjX7_isInt d p0 hh ⟨rfl, rfl⟩
theorem dX7_orders_0 : decode cX7_orders 0 = .ok (.iload_n 1, 1) := by decide +kernel
theorem dX7_orders_1 : decode cX7_orders 1 = .ok (.invokestatic 297, 3) := by decide +kernel
theorem dX7_orders_4 : decode cX7_orders 4 = .ok (.ifCond .ne 9, 3) := by decide +kernel
theorem dX7_orders_7 : decode cX7_orders 7 = .ok (.aload_n 0, 1) := by decide +kernel
theorem dX7_orders_8 : decode cX7_orders 8 = .ok (.iconst 0, 1) := by decide +kernel
theorem dX7_orders_9 : decode cX7_orders 9 = .ok (.invokevirtual 158, 3) := by decide +kernel
theorem dX7_orders_12 : decode cX7_orders 12 = .ok (.ireturn, 1) := by decide +kernel
theorem dX7_orders_13 : decode cX7_orders 13 = .ok (.aload_n 0, 1) := by decide +kernel
theorem dX7_orders_14 : decode cX7_orders 14 = .ok (.getfield 43, 3) := by decide +kernel
theorem dX7_orders_17 : decode cX7_orders 17 = .ok (.iload_n 1, 1) := by decide +kernel
theorem dX7_orders_18 : decode cX7_orders 18 = .ok (.iaload, 1) := by decide +kernel
theorem dX7_orders_19 : decode cX7_orders 19 = .ok (.ifCond .ge 9, 3) := by decide +kernel
theorem dX7_orders_22 : decode cX7_orders 22 = .ok (.aload_n 0, 1) := by decide +kernel
theorem dX7_orders_23 : decode cX7_orders 23 = .ok (.iconst 5, 1) := by decide +kernel
theorem dX7_orders_24 : decode cX7_orders 24 = .ok (.invokevirtual 158, 3) := by decide +kernel
theorem dX7_orders_27 : decode cX7_orders 27 = .ok (.ireturn, 1) := by decide +kernel
theorem dX7_orders_28 : decode cX7_orders 28 = .ok (.aload_n 0, 1) := by decide +kernel
theorem dX7_orders_29 : decode cX7_orders 29 = .ok (.invokevirtual 161, 3) := by decide +kernel
theorem dX7_orders_32 : decode cX7_orders 32 = .ok (.iconst 0, 1) := by decide +kernel
theorem dX7_orders_33 : decode cX7_orders 33 = .ok (.istore_n 2, 1) := by decide +kernel
theorem dX7_orders_34 : decode cX7_orders 34 = .ok (.iconst 0, 1) := by decide +kernel
theorem dX7_orders_35 : decode cX7_orders 35 = .ok (.istore_n 3, 1) := by decide +kernel
theorem dX7_orders_36 : decode cX7_orders 36 = .ok (.iload_n 3, 1) := by decide +kernel
theorem dX7_orders_37 : decode cX7_orders 37 = .ok (.iconst 2, 1) := by decide +kernel
theorem dX7_orders_38 : decode cX7_orders 38 = .ok (.iadd, 1) := by decide +kernel
theorem dX7_orders_39 : decode cX7_orders 39 = .ok (.aload_n 0, 1) := by decide +kernel
theorem dX7_orders_40 : decode cX7_orders 40 = .ok (.getfield 46, 3) := by decide +kernel
theorem dX7_orders_43 : decode cX7_orders 43 = .ok (.iload_n 1, 1) := by decide +kernel
theorem dX7_orders_44 : decode cX7_orders 44 = .ok (.iaload, 1) := by decide +kernel
theorem dX7_orders_45 : decode cX7_orders 45 = .ok (.if_icmp .ge 91, 3) := by decide +kernel
theorem dX7_orders_48 : decode cX7_orders 48 = .ok (.aload_n 0, 1) := by decide +kernel
theorem dX7_orders_49 : decode cX7_orders 49 = .ok (.getfield 51, 3) := by decide +kernel
theorem dX7_orders_52 : decode cX7_orders 52 = .ok (.iload_n 1, 1) := by decide +kernel
theorem dX7_orders_53 : decode cX7_orders 53 = .ok (.aaload, 1) := by decide +kernel
theorem dX7_orders_54 : decode cX7_orders 54 = .ok (.iload_n 3, 1) := by decide +kernel
theorem dX7_orders_55 : decode cX7_orders 55 = .ok (.laload, 1) := by decide +kernel
theorem dX7_orders_56 : decode cX7_orders 56 = .ok (.lstore 4, 2) := by decide +kernel
theorem dX7_orders_58 : decode cX7_orders 58 = .ok (.aload_n 0, 1) := by decide +kernel
theorem dX7_orders_59 : decode cX7_orders 59 = .ok (.getfield 51, 3) := by decide +kernel
theorem dX7_orders_62 : decode cX7_orders 62 = .ok (.iload_n 1, 1) := by decide +kernel
theorem dX7_orders_63 : decode cX7_orders 63 = .ok (.aaload, 1) := by decide +kernel
theorem dX7_orders_64 : decode cX7_orders 64 = .ok (.iload_n 3, 1) := by decide +kernel
theorem dX7_orders_65 : decode cX7_orders 65 = .ok (.iconst 1, 1) := by decide +kernel
theorem dX7_orders_66 : decode cX7_orders 66 = .ok (.iadd, 1) := by decide +kernel
theorem dX7_orders_67 : decode cX7_orders 67 = .ok (.laload, 1) := by decide +kernel
theorem dX7_orders_68 : decode cX7_orders 68 = .ok (.lstore 6, 2) := by decide +kernel
theorem dX7_orders_70 : decode cX7_orders 70 = .ok (.aload_n 0, 1) := by decide +kernel
theorem dX7_orders_71 : decode cX7_orders 71 = .ok (.getfield 51, 3) := by decide +kernel
theorem dX7_orders_74 : decode cX7_orders 74 = .ok (.iload_n 1, 1) := by decide +kernel
theorem dX7_orders_75 : decode cX7_orders 75 = .ok (.aaload, 1) := by decide +kernel
theorem dX7_orders_76 : decode cX7_orders 76 = .ok (.iload_n 3, 1) := by decide +kernel
theorem dX7_orders_77 : decode cX7_orders 77 = .ok (.iconst 2, 1) := by decide +kernel
theorem dX7_orders_78 : decode cX7_orders 78 = .ok (.iadd, 1) := by decide +kernel
theorem dX7_orders_79 : decode cX7_orders 79 = .ok (.laload, 1) := by decide +kernel
theorem dX7_orders_80 : decode cX7_orders 80 = .ok (.lstore 8, 2) := by decide +kernel
theorem dX7_orders_82 : decode cX7_orders 82 = .ok (.iload_n 2, 1) := by decide +kernel
theorem dX7_orders_83 : decode cX7_orders 83 = .ok (.lload 4, 2) := by decide +kernel
theorem dX7_orders_85 : decode cX7_orders 85 = .ok (.invokestatic 300, 3) := by decide +kernel
theorem dX7_orders_88 : decode cX7_orders 88 = .ok (.ifCond .eq 39, 3) := by decide +kernel
theorem dX7_orders_91 : decode cX7_orders 91 = .ok (.lload 6, 2) := by decide +kernel
theorem dX7_orders_93 : decode cX7_orders 93 = .ok (.invokestatic 300, 3) := by decide +kernel
theorem dX7_orders_96 : decode cX7_orders 96 = .ok (.ifCond .eq 31, 3) := by decide +kernel
theorem dX7_orders_99 : decode cX7_orders 99 = .ok (.lload 8, 2) := by decide +kernel
theorem dX7_orders_101 : decode cX7_orders 101 = .ok (.invokestatic 300, 3) := by decide +kernel
theorem dX7_orders_104 : decode cX7_orders 104 = .ok (.ifCond .eq 23, 3) := by decide +kernel
theorem dX7_orders_107 : decode cX7_orders 107 = .ok (.aload_n 0, 1) := by decide +kernel
theorem dX7_orders_108 : decode cX7_orders 108 = .ok (.lload 4, 2) := by decide +kernel
theorem dX7_orders_110 : decode cX7_orders 110 = .ok (.l2i, 1) := by decide +kernel
theorem dX7_orders_111 : decode cX7_orders 111 = .ok (.lload 6, 2) := by decide +kernel
theorem dX7_orders_113 : decode cX7_orders 113 = .ok (.l2i, 1) := by decide +kernel
theorem dX7_orders_114 : decode cX7_orders 114 = .ok (.lload 8, 2) := by decide +kernel
theorem dX7_orders_116 : decode cX7_orders 116 = .ok (.l2i, 1) := by decide +kernel
theorem dX7_orders_117 : decode cX7_orders 117 = .ok (.invokevirtual 240, 3) := by decide +kernel
theorem dX7_orders_120 : decode cX7_orders 120 = .ok (.ifCond .eq 7, 3) := by decide +kernel
theorem dX7_orders_123 : decode cX7_orders 123 = .ok (.iconst 1, 1) := by decide +kernel
theorem dX7_orders_124 : decode cX7_orders 124 = .ok (.goto 4, 3) := by decide +kernel
theorem dX7_orders_127 : decode cX7_orders 127 = .ok (.iconst 0, 1) := by decide +kernel
theorem dX7_orders_128 : decode cX7_orders 128 = .ok (.iadd, 1) := by decide +kernel
theorem dX7_orders_129 : decode cX7_orders 129 = .ok (.istore_n 2, 1) := by decide +kernel
theorem dX7_orders_130 : decode cX7_orders 130 = .ok (.iinc 3 3, 3) := by decide +kernel
theorem dX7_orders_133 : decode cX7_orders 133 = .ok (.goto (-97), 3) := by decide +kernel
theorem dX7_orders_136 : decode cX7_orders 136 = .ok (.aload_n 0, 1) := by decide +kernel
theorem dX7_orders_137 : decode cX7_orders 137 = .ok (.invokevirtual 168, 3) := by decide +kernel
theorem dX7_orders_140 : decode cX7_orders 140 = .ok (.iload_n 2, 1) := by decide +kernel
theorem dX7_orders_141 : decode cX7_orders 141 = .ok (.ireturn, 1) := by decide +kernel
def gX7_orders_127 (s : Mem) (v1 : Int32) (v3 : Int32) (k0 : Int32) : Option ((Int32 × Mem) ⊕ (Int32 × Int32 × Mem)) :=
  lt (k0 + (0 : Int32)) (fun x15 => lt (v3 + (3 : Int32)) (fun x16 => some (Sum.inr (x15, x16, s))))
set_option maxRecDepth 4000 in
theorem jgX7_orders_127 {X : Scr} (d : Nat) (s : Mem) (v1 : Int32) (v3 : Int32) (k0 : Int32) {r : ((Int32 × Mem) ⊕ (Int32 × Int32 × Mem))} {w : Option Value} {s' : Mem} (hh : gX7_orders_127 s v1 v3 k0 = some r) (hk : Sum.elim (fun t : (Int32 × Mem) => J X MX7_orders (d + 11) 136 [some (.ref 19), none, some (.int t.1), none, none, none, none, none, none, none] [] t.2 w s') (fun a : (Int32 × Int32 × Mem) => J X MX7_orders (d + 11) 36 [some (.ref 19), some (.int v1), some (.int a.1), some (.int a.2.1), none, none, none, none, none, none] [] a.2.2 w s') r) : J X MX7_orders (d + 11) 127 [some (.ref 19), some (.int v1), none, some (.int v3), none, none, none, none, none, none] [.int k0] s w s' := by
  unfold gX7_orders_127 at hh
  refine J_iconst (pc := 127) dX7_orders_127 ci_0 ?_
  refine J_iadd (pc := 128) dX7_orders_128 ?_
  refine J_istoreL_n (pc := 129) (fun x15 => [some (.ref 19), some (.int v1), some (.int x15), some (.int v3), none, none, none, none, none, none]) dX7_orders_129 rfl (Nat.le_of_ble_eq_true rfl) (fun _ => rfl) hh (fun x15 hh => ?_)
  refine J_iincL (pc := 130) (v := v3 + (3 : Int32)) (fun x16 => [some (.ref 19), some (.int v1), some (.int x15), some (.int x16), none, none, none, none, none, none]) dX7_orders_130 rfl rfl (Nat.le_of_ble_eq_true rfl) (congrArg _ ci_3) (fun _ => rfl) hh (fun x16 hh => ?_)
  refine J_goto (pc := 133) 36 dX7_orders_133 (by decide) ?_
  obtain rfl := Option.some.inj hh
  exact hk
def bX7_orders_36 (s : Mem) (v1 : Int32) (v2 : Int32) (v3 : Int32) : Option ((Int32 × Mem) ⊕ (Int32 × Int32 × Mem)) :=
  gd v1 4 (if (s.1 30 v1.toNatClampNeg) ≤ (v3 + (2 : Int32)) then some (Sum.inl (v2, s)) else gd v1 4 (gd v3 40 (lt (s.2 (33 + v1.toNatClampNeg) v3.toNatClampNeg) (fun x7 => gd v1 4 (gd (v3 + (1 : Int32)) 40 (lt (s.2 (33 + v1.toNatClampNeg) (v3 + (1 : Int32)).toNatClampNeg) (fun x10 => gd v1 4 (gd (v3 + (2 : Int32)) 40 (lt (s.2 (33 + v1.toNatClampNeg) (v3 + (2 : Int32)).toNatClampNeg) (fun x13 => (fX7_isInt x7).bind (fun y14 => if y14 = (0 : Int32) then gX7_orders_127 s v1 v3 v2 else (fX7_isInt x10).bind (fun y17 => if y17 = (0 : Int32) then gX7_orders_127 s v1 v3 v2 else (fX7_isInt x13).bind (fun y18 => if y18 = (0 : Int32) then gX7_orders_127 s v1 v3 v2 else (fX7_isPicked s (x7.toInt32) (x10.toInt32) (x13.toInt32)).bind (fun y19 => if y19.1 = (0 : Int32) then gX7_orders_127 y19.2 v1 v3 v2 else lt (v2 + (1 : Int32)) (fun x20 => lt (v3 + (3 : Int32)) (fun x21 => some (Sum.inr (x20, x21, y19.2))))))))))))))))))
set_option maxRecDepth 4000 in
theorem jbX7_orders_36 {X : Scr} (d : Nat) (s : Mem) (v1 : Int32) (v2 : Int32) (v3 : Int32) {r : ((Int32 × Mem) ⊕ (Int32 × Int32 × Mem))} {w : Option Value} {s' : Mem} (hh : bX7_orders_36 s v1 v2 v3 = some r) (hk : Sum.elim (fun t : (Int32 × Mem) => J X MX7_orders (d + 11) 136 [some (.ref 19), none, some (.int t.1), none, none, none, none, none, none, none] [] t.2 w s') (fun a : (Int32 × Int32 × Mem) => J X MX7_orders (d + 11) 36 [some (.ref 19), some (.int v1), some (.int a.1), some (.int a.2.1), none, none, none, none, none, none] [] a.2.2 w s') r) : J X MX7_orders (d + 11) 36 [some (.ref 19), some (.int v1), some (.int v2), some (.int v3), none, none, none, none, none, none] [] s w s' := by
  unfold bX7_orders_36 at hh
  refine J_iload_n (pc := 36) dX7_orders_36 rfl ?_
  refine J_iconst (pc := 37) dX7_orders_37 ci_2 ?_
  refine J_iadd (pc := 38) dX7_orders_38 ?_
  refine J_aload_n (pc := 39) dX7_orders_39 rfl ?_
  refine J_getR (pc := 40) (k := 26) flX7_46 so19 fk19_26 dX7_orders_40 ?_
  refine J_iload_n (pc := 43) dX7_orders_43 rfl ?_
  obtain ⟨h4, hh⟩ := gd_some hh
  refine J_iald (pc := 44) dX7_orders_44 sa30 h4 ?_
  refine J_icmp_ge (pc := 45) 136 dX7_orders_45 (by decide) (fun c26 => ?_) (fun c26 => ?_)
  · replace hh := (if_pos c26).symm.trans hh
    refine J_drop 1 (L' := [some (.ref 19), none, some (.int v2), some (.int v3), none, none, none, none, none, none]) rfl ?_
    refine J_drop 3 (L' := [some (.ref 19), none, some (.int v2), none, none, none, none, none, none, none]) rfl ?_
    obtain rfl := Option.some.inj hh
    exact hk
  · replace hh := (if_neg c26).symm.trans hh
    refine J_aload_n (pc := 48) dX7_orders_48 rfl ?_
    refine J_getR (pc := 49) (k := 27) flX7_51 so19 fk19_27 dX7_orders_49 ?_
    refine J_iload_n (pc := 52) dX7_orders_52 rfl ?_
    obtain ⟨h5, hh⟩ := gd_some hh
    refine J_aald (pc := 53) dX7_orders_53 (Or.inr rfl) sa31 h5 ?_
    refine J_iload_n (pc := 54) dX7_orders_54 rfl ?_
    obtain ⟨h6, hh⟩ := gd_some hh
    refine J_lald (pc := 55) dX7_orders_55 (sh_cells h5) h6 ?_
    refine J_lstoreL (pc := 56) (fun x7 => [some (.ref 19), some (.int v1), some (.int v2), some (.int v3), some (.long x7), none, none, none, none, none]) dX7_orders_56 rfl (Nat.le_of_ble_eq_true rfl) (fun _ => rfl) hh (fun x7 hh => ?_)
    refine J_aload_n (pc := 58) dX7_orders_58 rfl ?_
    refine J_getR (pc := 59) (k := 27) flX7_51 so19 fk19_27 dX7_orders_59 ?_
    refine J_iload_n (pc := 62) dX7_orders_62 rfl ?_
    obtain ⟨h8, hh⟩ := gd_some hh
    refine J_aald (pc := 63) dX7_orders_63 (Or.inr rfl) sa31 h8 ?_
    refine J_iload_n (pc := 64) dX7_orders_64 rfl ?_
    refine J_iconst (pc := 65) dX7_orders_65 ci_1 ?_
    refine J_iadd (pc := 66) dX7_orders_66 ?_
    obtain ⟨h9, hh⟩ := gd_some hh
    refine J_lald (pc := 67) dX7_orders_67 (sh_cells h8) h9 ?_
    refine J_lstoreL (pc := 68) (fun x10 => [some (.ref 19), some (.int v1), some (.int v2), some (.int v3), some (.long x7), none, some (.long x10), none, none, none]) dX7_orders_68 rfl (Nat.le_of_ble_eq_true rfl) (fun _ => rfl) hh (fun x10 hh => ?_)
    refine J_aload_n (pc := 70) dX7_orders_70 rfl ?_
    refine J_getR (pc := 71) (k := 27) flX7_51 so19 fk19_27 dX7_orders_71 ?_
    refine J_iload_n (pc := 74) dX7_orders_74 rfl ?_
    obtain ⟨h11, hh⟩ := gd_some hh
    refine J_aald (pc := 75) dX7_orders_75 (Or.inr rfl) sa31 h11 ?_
    refine J_iload_n (pc := 76) dX7_orders_76 rfl ?_
    refine J_iconst (pc := 77) dX7_orders_77 ci_2 ?_
    refine J_iadd (pc := 78) dX7_orders_78 ?_
    obtain ⟨h12, hh⟩ := gd_some hh
    refine J_lald (pc := 79) dX7_orders_79 (sh_cells h11) h12 ?_
    refine J_lstoreL (pc := 80) (fun x13 => [some (.ref 19), some (.int v1), some (.int v2), some (.int v3), some (.long x7), none, some (.long x10), none, some (.long x13), none]) dX7_orders_80 rfl (Nat.le_of_ble_eq_true rfl) (fun _ => rfl) hh (fun x13 hh => ?_)
    refine J_iload_n (pc := 82) dX7_orders_82 rfl ?_
    refine J_lload (pc := 83) dX7_orders_83 rfl ?_
    obtain ⟨y14, hy14, hh⟩ := bd_some hh
    refine J_callSi (pc := 85) (M' := MX7_isInt) (rest := [.int v2]) (As := [.long x7]) (L0 := [some (.long x7), none]) okX7_isInt osX7_isInt mlX7_300 rfl rfl (Nat.le_of_ble_eq_true rfl) dX7_orders_85 rfl (Nat.le_of_ble_eq_true rfl) (jX7_isInt (X := X) (d + 10) s x7 hy14) ?_
    refine J_if_eq (pc := 88) 127 dX7_orders_88 (by decide) (fun c25 => ?_) (fun c25 => ?_)
    · replace hh := (if_pos c25).symm.trans hh
      refine J_drop 2 (L' := [some (.ref 19), some (.int v1), none, some (.int v3), some (.long x7), none, some (.long x10), none, some (.long x13), none]) rfl ?_
      refine J_drop 4 (L' := [some (.ref 19), some (.int v1), none, some (.int v3), none, none, some (.long x10), none, some (.long x13), none]) rfl ?_
      refine J_drop 6 (L' := [some (.ref 19), some (.int v1), none, some (.int v3), none, none, none, none, some (.long x13), none]) rfl ?_
      refine J_drop 8 (L' := [some (.ref 19), some (.int v1), none, some (.int v3), none, none, none, none, none, none]) rfl ?_
      exact jgX7_orders_127 d s v1 v3 v2 hh hk
    · replace hh := (if_neg c25).symm.trans hh
      refine J_lload (pc := 91) dX7_orders_91 rfl ?_
      obtain ⟨y17, hy17, hh⟩ := bd_some hh
      refine J_callSi (pc := 93) (M' := MX7_isInt) (rest := [.int v2]) (As := [.long x10]) (L0 := [some (.long x10), none]) okX7_isInt osX7_isInt mlX7_300 rfl rfl (Nat.le_of_ble_eq_true rfl) dX7_orders_93 rfl (Nat.le_of_ble_eq_true rfl) (jX7_isInt (X := X) (d + 10) s x10 hy17) ?_
      refine J_if_eq (pc := 96) 127 dX7_orders_96 (by decide) (fun c24 => ?_) (fun c24 => ?_)
      · replace hh := (if_pos c24).symm.trans hh
        refine J_drop 2 (L' := [some (.ref 19), some (.int v1), none, some (.int v3), some (.long x7), none, some (.long x10), none, some (.long x13), none]) rfl ?_
        refine J_drop 4 (L' := [some (.ref 19), some (.int v1), none, some (.int v3), none, none, some (.long x10), none, some (.long x13), none]) rfl ?_
        refine J_drop 6 (L' := [some (.ref 19), some (.int v1), none, some (.int v3), none, none, none, none, some (.long x13), none]) rfl ?_
        refine J_drop 8 (L' := [some (.ref 19), some (.int v1), none, some (.int v3), none, none, none, none, none, none]) rfl ?_
        exact jgX7_orders_127 d s v1 v3 v2 hh hk
      · replace hh := (if_neg c24).symm.trans hh
        refine J_lload (pc := 99) dX7_orders_99 rfl ?_
        obtain ⟨y18, hy18, hh⟩ := bd_some hh
        refine J_callSi (pc := 101) (M' := MX7_isInt) (rest := [.int v2]) (As := [.long x13]) (L0 := [some (.long x13), none]) okX7_isInt osX7_isInt mlX7_300 rfl rfl (Nat.le_of_ble_eq_true rfl) dX7_orders_101 rfl (Nat.le_of_ble_eq_true rfl) (jX7_isInt (X := X) (d + 10) s x13 hy18) ?_
        refine J_if_eq (pc := 104) 127 dX7_orders_104 (by decide) (fun c23 => ?_) (fun c23 => ?_)
        · replace hh := (if_pos c23).symm.trans hh
          refine J_drop 2 (L' := [some (.ref 19), some (.int v1), none, some (.int v3), some (.long x7), none, some (.long x10), none, some (.long x13), none]) rfl ?_
          refine J_drop 4 (L' := [some (.ref 19), some (.int v1), none, some (.int v3), none, none, some (.long x10), none, some (.long x13), none]) rfl ?_
          refine J_drop 6 (L' := [some (.ref 19), some (.int v1), none, some (.int v3), none, none, none, none, some (.long x13), none]) rfl ?_
          refine J_drop 8 (L' := [some (.ref 19), some (.int v1), none, some (.int v3), none, none, none, none, none, none]) rfl ?_
          exact jgX7_orders_127 d s v1 v3 v2 hh hk
        · replace hh := (if_neg c23).symm.trans hh
          refine J_aload_n (pc := 107) dX7_orders_107 rfl ?_
          refine J_lload (pc := 108) dX7_orders_108 rfl ?_
          refine J_l2i (pc := 110) dX7_orders_110 ?_
          refine J_lload (pc := 111) dX7_orders_111 rfl ?_
          refine J_l2i (pc := 113) dX7_orders_113 ?_
          refine J_lload (pc := 114) dX7_orders_114 rfl ?_
          refine J_l2i (pc := 116) dX7_orders_116 ?_
          obtain ⟨y19, hy19, hh⟩ := bd_some hh
          refine J_callVi (pc := 117) (M' := MX7_isPicked) (a := 19) (rest := [.int v2]) (As := [.int (x7.toInt32), .int (x10.toInt32), .int (x13.toInt32)]) (L0 := [some (.ref 19), some (.int (x7.toInt32)), some (.int (x10.toInt32)), some (.int (x13.toInt32))]) okX7_isPicked ovX7_isPicked mlX7_240 clX7 so19 rfl rfl (Nat.le_of_ble_eq_true rfl) dX7_orders_117 rfl (Nat.le_of_ble_eq_true rfl) (jX7_isPicked (X := X) d s (x7.toInt32) (x10.toInt32) (x13.toInt32) hy19) ?_
          refine J_if_eq (pc := 120) 127 dX7_orders_120 (by decide) (fun c22 => ?_) (fun c22 => ?_)
          · replace hh := (if_pos c22).symm.trans hh
            refine J_drop 2 (L' := [some (.ref 19), some (.int v1), none, some (.int v3), some (.long x7), none, some (.long x10), none, some (.long x13), none]) rfl ?_
            refine J_drop 4 (L' := [some (.ref 19), some (.int v1), none, some (.int v3), none, none, some (.long x10), none, some (.long x13), none]) rfl ?_
            refine J_drop 6 (L' := [some (.ref 19), some (.int v1), none, some (.int v3), none, none, none, none, some (.long x13), none]) rfl ?_
            refine J_drop 8 (L' := [some (.ref 19), some (.int v1), none, some (.int v3), none, none, none, none, none, none]) rfl ?_
            exact jgX7_orders_127 d y19.2 v1 v3 v2 hh hk
          · replace hh := (if_neg c22).symm.trans hh
            refine J_iconst (pc := 123) dX7_orders_123 ci_1 ?_
            refine J_goto (pc := 124) 128 dX7_orders_124 (by decide) ?_
            refine J_iadd (pc := 128) dX7_orders_128 ?_
            refine J_istoreL_n (pc := 129) (fun x20 => [some (.ref 19), some (.int v1), some (.int x20), some (.int v3), some (.long x7), none, some (.long x10), none, some (.long x13), none]) dX7_orders_129 rfl (Nat.le_of_ble_eq_true rfl) (fun _ => rfl) hh (fun x20 hh => ?_)
            refine J_iincL (pc := 130) (v := v3 + (3 : Int32)) (fun x21 => [some (.ref 19), some (.int v1), some (.int x20), some (.int x21), some (.long x7), none, some (.long x10), none, some (.long x13), none]) dX7_orders_130 rfl rfl (Nat.le_of_ble_eq_true rfl) (congrArg _ ci_3) (fun _ => rfl) hh (fun x21 hh => ?_)
            refine J_goto (pc := 133) 36 dX7_orders_133 (by decide) ?_
            refine J_drop 4 (L' := [some (.ref 19), some (.int v1), some (.int x20), some (.int x21), none, none, some (.long x10), none, some (.long x13), none]) rfl ?_
            refine J_drop 6 (L' := [some (.ref 19), some (.int v1), some (.int x20), some (.int x21), none, none, none, none, some (.long x13), none]) rfl ?_
            refine J_drop 8 (L' := [some (.ref 19), some (.int v1), some (.int x20), some (.int x21), none, none, none, none, none, none]) rfl ?_
            obtain rfl := Option.some.inj hh
            exact hk
def fX7_orders (s : Mem) (p0 : Int32) : Option (Int32 × Mem) :=
  (fX7_isSheet p0).bind (fun y1 => if y1 = (0 : Int32) then (fX7_finds s (0 : Int32)).bind (fun y31 => some ((y31.1, y31.2))) else gd p0 4 (if (0 : Int32) ≤ (s.1 29 p0.toNatClampNeg) then (fX7_laysAside s).bind (fun y3 => (lp (fun a => bX7_orders_36 a.2.2 p0 a.1 a.2.1) 600 ((0 : Int32), (0 : Int32), y3)).bind (fun y27 => (fX7_changes y27.2).bind (fun y28 => some ((y27.1, y28))))) else (fX7_finds s (5 : Int32)).bind (fun y29 => some ((y29.1, y29.2)))))
set_option maxRecDepth 4000 in
theorem jjX7_orders {X : Scr} (d : Nat) (s : Mem) (p0 : Int32) {r : (Int32 × Mem)} {w : Option Value} {s' : Mem} (hh : fX7_orders s p0 = some r) (hk : w = some (.int r.1) ∧ r.2 = s') : J X MX7_orders (d + 11) 0 [some (.ref 19), some (.int p0), none, none, none, none, none, none, none, none] [] s w s' := by
  unfold fX7_orders at hh
  refine J_iload_n (pc := 0) dX7_orders_0 rfl ?_
  obtain ⟨y1, hy1, hh⟩ := bd_some hh
  refine J_callSi (pc := 1) (M' := MX7_isSheet) (rest := []) (As := [.int p0]) (L0 := [some (.int p0)]) okX7_isSheet osX7_isSheet mlX7_297 rfl rfl (Nat.le_of_ble_eq_true rfl) dX7_orders_1 rfl (Nat.le_of_ble_eq_true rfl) (jX7_isSheet (X := X) (d + 9) s p0 hy1) ?_
  refine J_if_ne (pc := 4) 13 dX7_orders_4 (by decide) (fun c32 => ?_) (fun c32 => ?_)
  · replace hh := (if_neg c32).symm.trans hh
    refine J_aload_n (pc := 13) dX7_orders_13 rfl ?_
    refine J_getR (pc := 14) (k := 25) flX7_43 so19 fk19_25 dX7_orders_14 ?_
    refine J_iload_n (pc := 17) dX7_orders_17 rfl ?_
    obtain ⟨h2, hh⟩ := gd_some hh
    refine J_iald (pc := 18) dX7_orders_18 sa29 h2 ?_
    refine J_if_ge (pc := 19) 28 dX7_orders_19 (by decide) (fun c30 => ?_) (fun c30 => ?_)
    · replace hh := (if_pos c30).symm.trans hh
      refine J_aload_n (pc := 28) dX7_orders_28 rfl ?_
      obtain ⟨y3, hy3, hh⟩ := bd_some hh
      refine J_callV0 (pc := 29) (M' := MX7_laysAside) (a := 19) (rest := []) (As := []) (L0 := [some (.ref 19), none]) okX7_laysAside ovX7_laysAside mlX7_161 clX7 so19 rfl rfl (Nat.le_of_ble_eq_true rfl) dX7_orders_29 rfl (Nat.le_of_ble_eq_true rfl) (jX7_laysAside (X := X) (d + 10) s hy3) ?_
      refine J_iconst (pc := 32) dX7_orders_32 ci_0 ?_
      refine J_istore_n (pc := 33) (L' := [some (.ref 19), some (.int p0), some (.int (0 : Int32)), none, none, none, none, none, none, none]) dX7_orders_33 rfl (Nat.le_of_ble_eq_true rfl) rfl ?_
      refine J_iconst (pc := 34) dX7_orders_34 ci_0 ?_
      refine J_istore_n (pc := 35) (L' := [some (.ref 19), some (.int p0), some (.int (0 : Int32)), some (.int (0 : Int32)), none, none, none, none, none, none]) dX7_orders_35 rfl (Nat.le_of_ble_eq_true rfl) rfl ?_
      obtain ⟨y27, hy27, hh⟩ := bd_some hh
      refine J_lp (a := ((0 : Int32), (0 : Int32), y3)) (fun a : (Int32 × Int32 × Mem) => J X MX7_orders (d + 11) 36 [some (.ref 19), some (.int p0), some (.int a.1), some (.int a.2.1), none, none, none, none, none, none] [] a.2.2 w s') (fun t : (Int32 × Mem) => J X MX7_orders (d + 11) 136 [some (.ref 19), none, some (.int t.1), none, none, none, none, none, none, none] [] t.2 w s') (fun a q h1 h2 => jbX7_orders_36 d a.2.2 p0 a.1 a.2.1 h1 h2) hy27 ?_
      refine J_aload_n (pc := 136) dX7_orders_136 rfl ?_
      obtain ⟨y28, hy28, hh⟩ := bd_some hh
      refine J_callV0 (pc := 137) (M' := MX7_changes) (a := 19) (rest := []) (As := []) (L0 := [some (.ref 19), none, none]) okX7_changes ovX7_changes mlX7_168 clX7 so19 rfl rfl (Nat.le_of_ble_eq_true rfl) dX7_orders_137 rfl (Nat.le_of_ble_eq_true rfl) (jX7_changes (X := X) (d + 10) y27.2 hy28) ?_
      refine J_iload_n (pc := 140) dX7_orders_140 rfl ?_
      obtain rfl := Option.some.inj hh
      obtain ⟨rfl, rfl⟩ := hk
      exact J_ret (w := some (.int y27.1)) ⟨dX7_orders_141, _, rfl, rfl⟩
    · replace hh := (if_neg c30).symm.trans hh
      refine J_aload_n (pc := 22) dX7_orders_22 rfl ?_
      refine J_iconst (pc := 23) dX7_orders_23 ci_5 ?_
      obtain ⟨y29, hy29, hh⟩ := bd_some hh
      refine J_callVi (pc := 24) (M' := MX7_finds) (a := 19) (rest := []) (As := [.int (5 : Int32)]) (L0 := [some (.ref 19), some (.int (5 : Int32))]) okX7_finds ovX7_finds mlX7_158 clX7 so19 rfl rfl (Nat.le_of_ble_eq_true rfl) dX7_orders_24 rfl (Nat.le_of_ble_eq_true rfl) (jX7_finds (X := X) (d + 10) s (5 : Int32) hy29) ?_
      obtain rfl := Option.some.inj hh
      obtain ⟨rfl, rfl⟩ := hk
      exact J_ret (w := some (.int y29.1)) ⟨dX7_orders_27, _, rfl, rfl⟩
  · replace hh := (if_pos c32).symm.trans hh
    refine J_aload_n (pc := 7) dX7_orders_7 rfl ?_
    refine J_iconst (pc := 8) dX7_orders_8 ci_0 ?_
    obtain ⟨y31, hy31, hh⟩ := bd_some hh
    refine J_callVi (pc := 9) (M' := MX7_finds) (a := 19) (rest := []) (As := [.int (0 : Int32)]) (L0 := [some (.ref 19), some (.int (0 : Int32))]) okX7_finds ovX7_finds mlX7_158 clX7 so19 rfl rfl (Nat.le_of_ble_eq_true rfl) dX7_orders_9 rfl (Nat.le_of_ble_eq_true rfl) (jX7_finds (X := X) (d + 10) s (0 : Int32) hy31) ?_
    obtain rfl := Option.some.inj hh
    obtain ⟨rfl, rfl⟩ := hk
    exact J_ret (w := some (.int y31.1)) ⟨dX7_orders_12, _, rfl, rfl⟩
theorem jX7_orders {X : Scr} (d : Nat) (s : Mem) (p0 : Int32) {r : (Int32 × Mem)} (hh : fX7_orders s p0 = some r) : J X MX7_orders (d + 11) 0 [some (.ref 19), some (.int p0), none, none, none, none, none, none, none, none] [] s (some (.int r.1)) r.2 := jjX7_orders d s p0 hh ⟨rfl, rfl⟩
theorem dX7_drawn_0 : decode cX7_drawn 0 = .ok (.aload_n 0, 1) := by decide +kernel
theorem dX7_drawn_1 : decode cX7_drawn 1 = .ok (.aload_n 0, 1) := by decide +kernel
theorem dX7_drawn_2 : decode cX7_drawn 2 = .ok (.getfield 18, 3) := by decide +kernel
theorem dX7_drawn_5 : decode cX7_drawn 5 = .ok (.ldc_w 304, 3) := by decide +kernel
theorem dX7_drawn_8 : decode cX7_drawn 8 = .ok (.imul, 1) := by decide +kernel
theorem dX7_drawn_9 : decode cX7_drawn 9 = .ok (.sipush 12345, 3) := by decide +kernel
theorem dX7_drawn_12 : decode cX7_drawn 12 = .ok (.iadd, 1) := by decide +kernel
theorem dX7_drawn_13 : decode cX7_drawn 13 = .ok (.putfield 18, 3) := by decide +kernel
theorem dX7_drawn_16 : decode cX7_drawn 16 = .ok (.aload_n 0, 1) := by decide +kernel
theorem dX7_drawn_17 : decode cX7_drawn 17 = .ok (.getfield 18, 3) := by decide +kernel
theorem dX7_drawn_20 : decode cX7_drawn 20 = .ok (.bipush 8, 2) := by decide +kernel
theorem dX7_drawn_22 : decode cX7_drawn 22 = .ok (.iushr, 1) := by decide +kernel
theorem dX7_drawn_23 : decode cX7_drawn 23 = .ok (.iload_n 1, 1) := by decide +kernel
theorem dX7_drawn_24 : decode cX7_drawn 24 = .ok (.irem, 1) := by decide +kernel
theorem dX7_drawn_25 : decode cX7_drawn 25 = .ok (.ireturn, 1) := by decide +kernel
def fX7_drawn (s : Mem) (p0 : Int32) : Option (Int32 × Mem) :=
  lt (up2 s 19 4 (((s.1 19 4) * (1103515245 : Int32)) + (12345 : Int32))) (fun s1 => gn p0 (some (((((s1.1 19 4).toUInt32 >>> ((8 : Int32).toUInt32 &&& Int32.toUInt32 31)).toInt32) - (((s1.1 19 4).toUInt32 >>> ((8 : Int32).toUInt32 &&& Int32.toUInt32 31)).toInt32) / p0 * p0, s1))))
set_option maxRecDepth 4000 in
theorem jjX7_drawn {X : Scr} (d : Nat) (s : Mem) (p0 : Int32) {r : (Int32 × Mem)} {w : Option Value} {s' : Mem} (hh : fX7_drawn s p0 = some r) (hk : w = some (.int r.1) ∧ r.2 = s') : J X MX7_drawn (d + 0) 0 [some (.ref 19), some (.int p0)] [] s w s' := by
  unfold fX7_drawn at hh
  refine J_aload_n (pc := 0) dX7_drawn_0 rfl ?_
  refine J_aload_n (pc := 1) dX7_drawn_1 rfl ?_
  refine J_getI (pc := 2) (k := 4) flX7_18 so19 fk19_4 dX7_drawn_2 ?_
  refine J_ldcw (pc := 5) kcX7_304 dX7_drawn_5 ?_
  refine J_imul (pc := 8) dX7_drawn_8 ?_
  refine J_sipush (pc := 9) dX7_drawn_9 cs_12345 ?_
  refine J_iadd (pc := 12) dX7_drawn_12 ?_
  refine J_putIL (pc := 13) (k := 4) fpX7_18 so19 fk19_4 rfl rfl dX7_drawn_13 hh (fun s1 hh => ?_)
  refine J_aload_n (pc := 16) dX7_drawn_16 rfl ?_
  refine J_getI (pc := 17) (k := 4) flX7_18 so19 fk19_4 dX7_drawn_17 ?_
  refine J_bipush (pc := 20) dX7_drawn_20 cb_8 ?_
  refine J_iushr (pc := 22) dX7_drawn_22 ?_
  refine J_iload_n (pc := 23) dX7_drawn_23 rfl ?_
  obtain ⟨hz2, hh⟩ := gn_some hh
  refine J_irem (pc := 24) dX7_drawn_24 hz2 ?_
  obtain rfl := Option.some.inj hh
  obtain ⟨rfl, rfl⟩ := hk
  exact J_ret (w := some (.int ((((s1.1 19 4).toUInt32 >>> ((8 : Int32).toUInt32 &&& Int32.toUInt32 31)).toInt32) - (((s1.1 19 4).toUInt32 >>> ((8 : Int32).toUInt32 &&& Int32.toUInt32 31)).toInt32) / p0 * p0))) ⟨dX7_drawn_25, _, rfl, rfl⟩
theorem jX7_drawn {X : Scr} (d : Nat) (s : Mem) (p0 : Int32) {r : (Int32 × Mem)} (hh : fX7_drawn s p0 = some r) : J X MX7_drawn (d + 0) 0 [some (.ref 19), some (.int p0)] [] s (some (.int r.1)) r.2 := jjX7_drawn d s p0 hh ⟨rfl, rfl⟩
theorem dX7_loose_0 : decode cX7_loose 0 = .ok (.iload_n 1, 1) := by decide +kernel
theorem dX7_loose_1 : decode cX7_loose 1 = .ok (.i2l, 1) := by decide +kernel
theorem dX7_loose_2 : decode cX7_loose 2 = .ok (.lconst 1, 1) := by decide +kernel
theorem dX7_loose_3 : decode cX7_loose 3 = .ok (.ldc2_w 305, 3) := by decide +kernel
theorem dX7_loose_6 : decode cX7_loose 6 = .ok (.invokestatic 63, 3) := by decide +kernel
theorem dX7_loose_9 : decode cX7_loose 9 = .ok (.ifCond .ne 9, 3) := by decide +kernel
theorem dX7_loose_12 : decode cX7_loose 12 = .ok (.aload_n 0, 1) := by decide +kernel
theorem dX7_loose_13 : decode cX7_loose 13 = .ok (.iconst 0, 1) := by decide +kernel
theorem dX7_loose_14 : decode cX7_loose 14 = .ok (.invokevirtual 158, 3) := by decide +kernel
theorem dX7_loose_17 : decode cX7_loose 17 = .ok (.ireturn, 1) := by decide +kernel
theorem dX7_loose_18 : decode cX7_loose 18 = .ok (.aload_n 0, 1) := by decide +kernel
theorem dX7_loose_19 : decode cX7_loose 19 = .ok (.invokevirtual 161, 3) := by decide +kernel
theorem dX7_loose_22 : decode cX7_loose 22 = .ok (.iconst 0, 1) := by decide +kernel
theorem dX7_loose_23 : decode cX7_loose 23 = .ok (.istore_n 2, 1) := by decide +kernel
theorem dX7_loose_24 : decode cX7_loose 24 = .ok (.iconst 0, 1) := by decide +kernel
theorem dX7_loose_25 : decode cX7_loose 25 = .ok (.istore_n 3, 1) := by decide +kernel
theorem dX7_loose_26 : decode cX7_loose 26 = .ok (.iload_n 3, 1) := by decide +kernel
theorem dX7_loose_27 : decode cX7_loose 27 = .ok (.iload_n 1, 1) := by decide +kernel
theorem dX7_loose_28 : decode cX7_loose 28 = .ok (.if_icmp .ge 52, 3) := by decide +kernel
theorem dX7_loose_31 : decode cX7_loose 31 = .ok (.aload_n 0, 1) := by decide +kernel
theorem dX7_loose_32 : decode cX7_loose 32 = .ok (.bipush 6, 2) := by decide +kernel
theorem dX7_loose_34 : decode cX7_loose 34 = .ok (.invokevirtual 307, 3) := by decide +kernel
theorem dX7_loose_37 : decode cX7_loose 37 = .ok (.istore 4, 2) := by decide +kernel
theorem dX7_loose_39 : decode cX7_loose 39 = .ok (.aload_n 0, 1) := by decide +kernel
theorem dX7_loose_40 : decode cX7_loose 40 = .ok (.iconst 4, 1) := by decide +kernel
theorem dX7_loose_41 : decode cX7_loose 41 = .ok (.invokevirtual 307, 3) := by decide +kernel
theorem dX7_loose_44 : decode cX7_loose 44 = .ok (.istore 5, 2) := by decide +kernel
theorem dX7_loose_46 : decode cX7_loose 46 = .ok (.aload_n 0, 1) := by decide +kernel
theorem dX7_loose_47 : decode cX7_loose 47 = .ok (.iconst 5, 1) := by decide +kernel
theorem dX7_loose_48 : decode cX7_loose 48 = .ok (.invokevirtual 307, 3) := by decide +kernel
theorem dX7_loose_51 : decode cX7_loose 51 = .ok (.istore 6, 2) := by decide +kernel
theorem dX7_loose_53 : decode cX7_loose 53 = .ok (.iload_n 2, 1) := by decide +kernel
theorem dX7_loose_54 : decode cX7_loose 54 = .ok (.aload_n 0, 1) := by decide +kernel
theorem dX7_loose_55 : decode cX7_loose 55 = .ok (.iload 4, 2) := by decide +kernel
theorem dX7_loose_57 : decode cX7_loose 57 = .ok (.iload 5, 2) := by decide +kernel
theorem dX7_loose_59 : decode cX7_loose 59 = .ok (.iload 6, 2) := by decide +kernel
theorem dX7_loose_61 : decode cX7_loose 61 = .ok (.invokevirtual 240, 3) := by decide +kernel
theorem dX7_loose_64 : decode cX7_loose 64 = .ok (.ifCond .eq 7, 3) := by decide +kernel
theorem dX7_loose_67 : decode cX7_loose 67 = .ok (.iconst 1, 1) := by decide +kernel
theorem dX7_loose_68 : decode cX7_loose 68 = .ok (.goto 4, 3) := by decide +kernel
theorem dX7_loose_71 : decode cX7_loose 71 = .ok (.iconst 0, 1) := by decide +kernel
theorem dX7_loose_72 : decode cX7_loose 72 = .ok (.iadd, 1) := by decide +kernel
theorem dX7_loose_73 : decode cX7_loose 73 = .ok (.istore_n 2, 1) := by decide +kernel
theorem dX7_loose_74 : decode cX7_loose 74 = .ok (.iinc 3 1, 3) := by decide +kernel
theorem dX7_loose_77 : decode cX7_loose 77 = .ok (.goto (-51), 3) := by decide +kernel
theorem dX7_loose_80 : decode cX7_loose 80 = .ok (.aload_n 0, 1) := by decide +kernel
theorem dX7_loose_81 : decode cX7_loose 81 = .ok (.invokevirtual 168, 3) := by decide +kernel
theorem dX7_loose_84 : decode cX7_loose 84 = .ok (.iload_n 2, 1) := by decide +kernel
theorem dX7_loose_85 : decode cX7_loose 85 = .ok (.ireturn, 1) := by decide +kernel
def bX7_loose_26 (s : Mem) (v1 : Int32) (v2 : Int32) (v3 : Int32) : Option ((Int32 × Mem) ⊕ (Int32 × Int32 × Mem)) :=
  if v1 ≤ v3 then some (Sum.inl (v2, s)) else (fX7_drawn s (6 : Int32)).bind (fun y3 => (fX7_drawn y3.2 (4 : Int32)).bind (fun y4 => (fX7_drawn y4.2 (5 : Int32)).bind (fun y5 => (fX7_isPicked y5.2 y3.1 y4.1 y5.1).bind (fun y6 => if y6.1 = (0 : Int32) then lt (v2 + (0 : Int32)) (fun x7 => lt (v3 + (1 : Int32)) (fun x8 => some (Sum.inr (x7, x8, y6.2)))) else lt (v2 + (1 : Int32)) (fun x9 => lt (v3 + (1 : Int32)) (fun x10 => some (Sum.inr (x9, x10, y6.2))))))))
set_option maxRecDepth 4000 in
theorem jbX7_loose_26 {X : Scr} (d : Nat) (s : Mem) (v1 : Int32) (v2 : Int32) (v3 : Int32) {r : ((Int32 × Mem) ⊕ (Int32 × Int32 × Mem))} {w : Option Value} {s' : Mem} (hh : bX7_loose_26 s v1 v2 v3 = some r) (hk : Sum.elim (fun t : (Int32 × Mem) => J X MX7_loose (d + 11) 80 [some (.ref 19), none, some (.int t.1), none, none, none, none] [] t.2 w s') (fun a : (Int32 × Int32 × Mem) => J X MX7_loose (d + 11) 26 [some (.ref 19), some (.int v1), some (.int a.1), some (.int a.2.1), none, none, none] [] a.2.2 w s') r) : J X MX7_loose (d + 11) 26 [some (.ref 19), some (.int v1), some (.int v2), some (.int v3), none, none, none] [] s w s' := by
  unfold bX7_loose_26 at hh
  refine J_iload_n (pc := 26) dX7_loose_26 rfl ?_
  refine J_iload_n (pc := 27) dX7_loose_27 rfl ?_
  refine J_icmp_ge (pc := 28) 80 dX7_loose_28 (by decide) (fun c12 => ?_) (fun c12 => ?_)
  · replace hh := (if_pos c12).symm.trans hh
    refine J_drop 1 (L' := [some (.ref 19), none, some (.int v2), some (.int v3), none, none, none]) rfl ?_
    refine J_drop 3 (L' := [some (.ref 19), none, some (.int v2), none, none, none, none]) rfl ?_
    obtain rfl := Option.some.inj hh
    exact hk
  · replace hh := (if_neg c12).symm.trans hh
    refine J_aload_n (pc := 31) dX7_loose_31 rfl ?_
    refine J_bipush (pc := 32) dX7_loose_32 cb_6 ?_
    obtain ⟨y3, hy3, hh⟩ := bd_some hh
    refine J_callVi (pc := 34) (M' := MX7_drawn) (a := 19) (rest := []) (As := [.int (6 : Int32)]) (L0 := [some (.ref 19), some (.int (6 : Int32))]) okX7_drawn ovX7_drawn mlX7_307 clX7 so19 rfl rfl (Nat.le_of_ble_eq_true rfl) dX7_loose_34 rfl (Nat.le_of_ble_eq_true rfl) (jX7_drawn (X := X) (d + 10) s (6 : Int32) hy3) ?_
    refine J_istore (pc := 37) (L' := [some (.ref 19), some (.int v1), some (.int v2), some (.int v3), some (.int y3.1), none, none]) dX7_loose_37 rfl (Nat.le_of_ble_eq_true rfl) rfl ?_
    refine J_aload_n (pc := 39) dX7_loose_39 rfl ?_
    refine J_iconst (pc := 40) dX7_loose_40 ci_4 ?_
    obtain ⟨y4, hy4, hh⟩ := bd_some hh
    refine J_callVi (pc := 41) (M' := MX7_drawn) (a := 19) (rest := []) (As := [.int (4 : Int32)]) (L0 := [some (.ref 19), some (.int (4 : Int32))]) okX7_drawn ovX7_drawn mlX7_307 clX7 so19 rfl rfl (Nat.le_of_ble_eq_true rfl) dX7_loose_41 rfl (Nat.le_of_ble_eq_true rfl) (jX7_drawn (X := X) (d + 10) y3.2 (4 : Int32) hy4) ?_
    refine J_istore (pc := 44) (L' := [some (.ref 19), some (.int v1), some (.int v2), some (.int v3), some (.int y3.1), some (.int y4.1), none]) dX7_loose_44 rfl (Nat.le_of_ble_eq_true rfl) rfl ?_
    refine J_aload_n (pc := 46) dX7_loose_46 rfl ?_
    refine J_iconst (pc := 47) dX7_loose_47 ci_5 ?_
    obtain ⟨y5, hy5, hh⟩ := bd_some hh
    refine J_callVi (pc := 48) (M' := MX7_drawn) (a := 19) (rest := []) (As := [.int (5 : Int32)]) (L0 := [some (.ref 19), some (.int (5 : Int32))]) okX7_drawn ovX7_drawn mlX7_307 clX7 so19 rfl rfl (Nat.le_of_ble_eq_true rfl) dX7_loose_48 rfl (Nat.le_of_ble_eq_true rfl) (jX7_drawn (X := X) (d + 10) y4.2 (5 : Int32) hy5) ?_
    refine J_istore (pc := 51) (L' := [some (.ref 19), some (.int v1), some (.int v2), some (.int v3), some (.int y3.1), some (.int y4.1), some (.int y5.1)]) dX7_loose_51 rfl (Nat.le_of_ble_eq_true rfl) rfl ?_
    refine J_iload_n (pc := 53) dX7_loose_53 rfl ?_
    refine J_aload_n (pc := 54) dX7_loose_54 rfl ?_
    refine J_iload (pc := 55) dX7_loose_55 rfl ?_
    refine J_iload (pc := 57) dX7_loose_57 rfl ?_
    refine J_iload (pc := 59) dX7_loose_59 rfl ?_
    obtain ⟨y6, hy6, hh⟩ := bd_some hh
    refine J_callVi (pc := 61) (M' := MX7_isPicked) (a := 19) (rest := [.int v2]) (As := [.int y3.1, .int y4.1, .int y5.1]) (L0 := [some (.ref 19), some (.int y3.1), some (.int y4.1), some (.int y5.1)]) okX7_isPicked ovX7_isPicked mlX7_240 clX7 so19 rfl rfl (Nat.le_of_ble_eq_true rfl) dX7_loose_61 rfl (Nat.le_of_ble_eq_true rfl) (jX7_isPicked (X := X) d y5.2 y3.1 y4.1 y5.1 hy6) ?_
    refine J_if_eq (pc := 64) 71 dX7_loose_64 (by decide) (fun c11 => ?_) (fun c11 => ?_)
    · replace hh := (if_pos c11).symm.trans hh
      refine J_iconst (pc := 71) dX7_loose_71 ci_0 ?_
      refine J_iadd (pc := 72) dX7_loose_72 ?_
      refine J_istoreL_n (pc := 73) (fun x7 => [some (.ref 19), some (.int v1), some (.int x7), some (.int v3), some (.int y3.1), some (.int y4.1), some (.int y5.1)]) dX7_loose_73 rfl (Nat.le_of_ble_eq_true rfl) (fun _ => rfl) hh (fun x7 hh => ?_)
      refine J_iincL (pc := 74) (v := v3 + (1 : Int32)) (fun x8 => [some (.ref 19), some (.int v1), some (.int x7), some (.int x8), some (.int y3.1), some (.int y4.1), some (.int y5.1)]) dX7_loose_74 rfl rfl (Nat.le_of_ble_eq_true rfl) (congrArg _ ci_1) (fun _ => rfl) hh (fun x8 hh => ?_)
      refine J_goto (pc := 77) 26 dX7_loose_77 (by decide) ?_
      refine J_drop 4 (L' := [some (.ref 19), some (.int v1), some (.int x7), some (.int x8), none, some (.int y4.1), some (.int y5.1)]) rfl ?_
      refine J_drop 5 (L' := [some (.ref 19), some (.int v1), some (.int x7), some (.int x8), none, none, some (.int y5.1)]) rfl ?_
      refine J_drop 6 (L' := [some (.ref 19), some (.int v1), some (.int x7), some (.int x8), none, none, none]) rfl ?_
      obtain rfl := Option.some.inj hh
      exact hk
    · replace hh := (if_neg c11).symm.trans hh
      refine J_iconst (pc := 67) dX7_loose_67 ci_1 ?_
      refine J_goto (pc := 68) 72 dX7_loose_68 (by decide) ?_
      refine J_iadd (pc := 72) dX7_loose_72 ?_
      refine J_istoreL_n (pc := 73) (fun x9 => [some (.ref 19), some (.int v1), some (.int x9), some (.int v3), some (.int y3.1), some (.int y4.1), some (.int y5.1)]) dX7_loose_73 rfl (Nat.le_of_ble_eq_true rfl) (fun _ => rfl) hh (fun x9 hh => ?_)
      refine J_iincL (pc := 74) (v := v3 + (1 : Int32)) (fun x10 => [some (.ref 19), some (.int v1), some (.int x9), some (.int x10), some (.int y3.1), some (.int y4.1), some (.int y5.1)]) dX7_loose_74 rfl rfl (Nat.le_of_ble_eq_true rfl) (congrArg _ ci_1) (fun _ => rfl) hh (fun x10 hh => ?_)
      refine J_goto (pc := 77) 26 dX7_loose_77 (by decide) ?_
      refine J_drop 4 (L' := [some (.ref 19), some (.int v1), some (.int x9), some (.int x10), none, some (.int y4.1), some (.int y5.1)]) rfl ?_
      refine J_drop 5 (L' := [some (.ref 19), some (.int v1), some (.int x9), some (.int x10), none, none, some (.int y5.1)]) rfl ?_
      refine J_drop 6 (L' := [some (.ref 19), some (.int v1), some (.int x9), some (.int x10), none, none, none]) rfl ?_
      obtain rfl := Option.some.inj hh
      exact hk
def fX7_loose (s : Mem) (p0 : Int32) : Option (Int32 × Mem) :=
  (fX7_in (p0.toInt64) (1 : Int64) (20 : Int64)).bind (fun y1 => if y1 = (0 : Int32) then (fX7_finds s (0 : Int32)).bind (fun y15 => some ((y15.1, y15.2))) else (fX7_laysAside s).bind (fun y2 => (lp (fun a => bX7_loose_26 a.2.2 p0 a.1 a.2.1) 600 ((0 : Int32), (0 : Int32), y2)).bind (fun y13 => (fX7_changes y13.2).bind (fun y14 => some ((y13.1, y14))))))
set_option maxRecDepth 4000 in
theorem jjX7_loose {X : Scr} (d : Nat) (s : Mem) (p0 : Int32) {r : (Int32 × Mem)} {w : Option Value} {s' : Mem} (hh : fX7_loose s p0 = some r) (hk : w = some (.int r.1) ∧ r.2 = s') : J X MX7_loose (d + 11) 0 [some (.ref 19), some (.int p0), none, none, none, none, none] [] s w s' := by
  unfold fX7_loose at hh
  refine J_iload_n (pc := 0) dX7_loose_0 rfl ?_
  refine J_i2l (pc := 1) dX7_loose_1 ?_
  refine J_lconst (pc := 2) (v := 1) dX7_loose_2 rfl ?_
  refine J_ldc2 (pc := 3) klX7_305 dX7_loose_3 ?_
  obtain ⟨y1, hy1, hh⟩ := bd_some hh
  refine J_callSi (pc := 6) (M' := MX7_in) (rest := []) (As := [.long (p0.toInt64), .long (1 : Int64), .long (20 : Int64)]) (L0 := [some (.long (p0.toInt64)), none, some (.long (1 : Int64)), none, some (.long (20 : Int64)), none]) okX7_in osX7_in mlX7_63 rfl rfl (Nat.le_of_ble_eq_true rfl) dX7_loose_6 rfl (Nat.le_of_ble_eq_true rfl) (jX7_in (X := X) (d + 10) s (p0.toInt64) (1 : Int64) (20 : Int64) hy1) ?_
  refine J_if_ne (pc := 9) 18 dX7_loose_9 (by decide) (fun c16 => ?_) (fun c16 => ?_)
  · replace hh := (if_neg c16).symm.trans hh
    refine J_aload_n (pc := 18) dX7_loose_18 rfl ?_
    obtain ⟨y2, hy2, hh⟩ := bd_some hh
    refine J_callV0 (pc := 19) (M' := MX7_laysAside) (a := 19) (rest := []) (As := []) (L0 := [some (.ref 19), none]) okX7_laysAside ovX7_laysAside mlX7_161 clX7 so19 rfl rfl (Nat.le_of_ble_eq_true rfl) dX7_loose_19 rfl (Nat.le_of_ble_eq_true rfl) (jX7_laysAside (X := X) (d + 10) s hy2) ?_
    refine J_iconst (pc := 22) dX7_loose_22 ci_0 ?_
    refine J_istore_n (pc := 23) (L' := [some (.ref 19), some (.int p0), some (.int (0 : Int32)), none, none, none, none]) dX7_loose_23 rfl (Nat.le_of_ble_eq_true rfl) rfl ?_
    refine J_iconst (pc := 24) dX7_loose_24 ci_0 ?_
    refine J_istore_n (pc := 25) (L' := [some (.ref 19), some (.int p0), some (.int (0 : Int32)), some (.int (0 : Int32)), none, none, none]) dX7_loose_25 rfl (Nat.le_of_ble_eq_true rfl) rfl ?_
    obtain ⟨y13, hy13, hh⟩ := bd_some hh
    refine J_lp (a := ((0 : Int32), (0 : Int32), y2)) (fun a : (Int32 × Int32 × Mem) => J X MX7_loose (d + 11) 26 [some (.ref 19), some (.int p0), some (.int a.1), some (.int a.2.1), none, none, none] [] a.2.2 w s') (fun t : (Int32 × Mem) => J X MX7_loose (d + 11) 80 [some (.ref 19), none, some (.int t.1), none, none, none, none] [] t.2 w s') (fun a q h1 h2 => jbX7_loose_26 d a.2.2 p0 a.1 a.2.1 h1 h2) hy13 ?_
    refine J_aload_n (pc := 80) dX7_loose_80 rfl ?_
    obtain ⟨y14, hy14, hh⟩ := bd_some hh
    refine J_callV0 (pc := 81) (M' := MX7_changes) (a := 19) (rest := []) (As := []) (L0 := [some (.ref 19), none, none]) okX7_changes ovX7_changes mlX7_168 clX7 so19 rfl rfl (Nat.le_of_ble_eq_true rfl) dX7_loose_81 rfl (Nat.le_of_ble_eq_true rfl) (jX7_changes (X := X) (d + 10) y13.2 hy14) ?_
    refine J_iload_n (pc := 84) dX7_loose_84 rfl ?_
    obtain rfl := Option.some.inj hh
    obtain ⟨rfl, rfl⟩ := hk
    exact J_ret (w := some (.int y13.1)) ⟨dX7_loose_85, _, rfl, rfl⟩
  · replace hh := (if_pos c16).symm.trans hh
    refine J_aload_n (pc := 12) dX7_loose_12 rfl ?_
    refine J_iconst (pc := 13) dX7_loose_13 ci_0 ?_
    obtain ⟨y15, hy15, hh⟩ := bd_some hh
    refine J_callVi (pc := 14) (M' := MX7_finds) (a := 19) (rest := []) (As := [.int (0 : Int32)]) (L0 := [some (.ref 19), some (.int (0 : Int32))]) okX7_finds ovX7_finds mlX7_158 clX7 so19 rfl rfl (Nat.le_of_ble_eq_true rfl) dX7_loose_14 rfl (Nat.le_of_ble_eq_true rfl) (jX7_finds (X := X) (d + 10) s (0 : Int32) hy15) ?_
    obtain rfl := Option.some.inj hh
    obtain ⟨rfl, rfl⟩ := hk
    exact J_ret (w := some (.int y15.1)) ⟨dX7_loose_17, _, rfl, rfl⟩
theorem jX7_loose {X : Scr} (d : Nat) (s : Mem) (p0 : Int32) {r : (Int32 × Mem)} (hh : fX7_loose s p0 = some r) : J X MX7_loose (d + 11) 0 [some (.ref 19), some (.int p0), none, none, none, none, none] [] s (some (.int r.1)) r.2 := jjX7_loose d s p0 hh ⟨rfl, rfl⟩
