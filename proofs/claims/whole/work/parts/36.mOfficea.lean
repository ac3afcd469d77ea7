theorem dX6_within_0 : decode cX6_within 0 = .ok (.lload_n 0, 1) := by decide +kernel
theorem dX6_within_1 : decode cX6_within 1 = .ok (.lload_n 2, 1) := by decide +kernel
theorem dX6_within_2 : decode cX6_within 2 = .ok (.lcmp, 1) := by decide +kernel
theorem dX6_within_3 : decode cX6_within 3 = .ok (.ifCond .lt 14, 3) := by decide +kernel
theorem dX6_within_6 : decode cX6_within 6 = .ok (.lload_n 0, 1) := by decide +kernel
theorem dX6_within_7 : decode cX6_within 7 = .ok (.lload 4, 2) := by decide +kernel
theorem dX6_within_9 : decode cX6_within 9 = .ok (.lcmp, 1) := by decide +kernel
theorem dX6_within_10 : decode cX6_within 10 = .ok (.ifCond .gt 7, 3) := by decide +kernel
theorem dX6_within_13 : decode cX6_within 13 = .ok (.iconst 1, 1) := by decide +kernel
theorem dX6_within_14 : decode cX6_within 14 = .ok (.goto 4, 3) := by decide +kernel
theorem dX6_within_17 : decode cX6_within 17 = .ok (.iconst 0, 1) := by decide +kernel
theorem dX6_within_18 : decode cX6_within 18 = .ok (.ireturn, 1) := by decide +kernel
def fX6_within (p0 : Int64) (p1 : Int64) (p2 : Int64) : Option Int32 :=
  if (lg_cmp p0 p1) < (0 : Int32) then some (0 : Int32) else if (0 : Int32) < (lg_cmp p0 p2) then some (0 : Int32) else some (1 : Int32)
set_option maxRecDepth 4000 in
theorem jjX6_within {X : Scr} (d : Nat) {s : Mem} (p0 : Int64) (p1 : Int64) (p2 : Int64) {r : Int32} {w : Option Value} {s' : Mem} (hh : fX6_within p0 p1 p2 = some r) (hk : w = some (.int r) ∧ s = s') : J X MX6_within (d + 0) 0 [some (.long p0), none, some (.long p1), none, some (.long p2), none] [] s w s' := by
  unfold fX6_within at hh
  refine J_lload_n (pc := 0) dX6_within_0 rfl ?_
  refine J_lload_n (pc := 1) dX6_within_1 rfl ?_
  refine J_lcmp (pc := 2) dX6_within_2 ?_
  refine J_if_lt (pc := 3) 17 dX6_within_3 (by decide) (fun c2 => ?_) (fun c2 => ?_)
  · replace hh := (if_pos c2).symm.trans hh
    refine J_iconst (pc := 17) dX6_within_17 ci_0 ?_
    obtain rfl := Option.some.inj hh
    obtain ⟨rfl, rfl⟩ := hk
    exact J_ret (w := some (.int (0 : Int32))) ⟨dX6_within_18, _, rfl, rfl⟩
  · replace hh := (if_neg c2).symm.trans hh
    refine J_lload_n (pc := 6) dX6_within_6 rfl ?_
    refine J_lload (pc := 7) dX6_within_7 rfl ?_
    refine J_lcmp (pc := 9) dX6_within_9 ?_
    refine J_if_gt (pc := 10) 17 dX6_within_10 (by decide) (fun c1 => ?_) (fun c1 => ?_)
    · replace hh := (if_pos c1).symm.trans hh
      refine J_iconst (pc := 17) dX6_within_17 ci_0 ?_
      obtain rfl := Option.some.inj hh
      obtain ⟨rfl, rfl⟩ := hk
      exact J_ret (w := some (.int (0 : Int32))) ⟨dX6_within_18, _, rfl, rfl⟩
    · replace hh := (if_neg c1).symm.trans hh
      refine J_iconst (pc := 13) dX6_within_13 ci_1 ?_
      refine J_goto (pc := 14) 18 dX6_within_14 (by decide) ?_
      obtain rfl := Option.some.inj hh
      obtain ⟨rfl, rfl⟩ := hk
      exact J_ret (w := some (.int (1 : Int32))) ⟨dX6_within_18, _, rfl, rfl⟩
theorem jX6_within {X : Scr} (d : Nat) (s : Mem) (p0 : Int64) (p1 : Int64) (p2 : Int64) {r : Int32} (hh : fX6_within p0 p1 p2 = some r) : J X MX6_within (d + 0) 0 [some (.long p0), none, some (.long p1), none, some (.long p2), none] [] s (some (.int r)) s := jjX6_within d p0 p1 p2 hh ⟨rfl, rfl⟩
theorem dX6_isCourse_0 : decode cX6_isCourse 0 = .ok (.iload_n 0, 1) := by decide +kernel
theorem dX6_isCourse_1 : decode cX6_isCourse 1 = .ok (.i2l, 1) := by decide +kernel
theorem dX6_isCourse_2 : decode cX6_isCourse 2 = .ok (.lconst 0, 1) := by decide +kernel
theorem dX6_isCourse_3 : decode cX6_isCourse 3 = .ok (.ldc2_w 357, 3) := by decide +kernel
theorem dX6_isCourse_6 : decode cX6_isCourse 6 = .ok (.invokestatic 62, 3) := by decide +kernel
theorem dX6_isCourse_9 : decode cX6_isCourse 9 = .ok (.ireturn, 1) := by decide +kernel
def fX6_isCourse (p0 : Int32) : Option Int32 :=
  (fX6_within (p0.toInt64) (0 : Int64) (3 : Int64)).bind (fun y1 => gz y1 (some y1))
set_option maxRecDepth 4000 in
theorem jjX6_isCourse {X : Scr} (d : Nat) {s : Mem} (p0 : Int32) {r : Int32} {w : Option Value} {s' : Mem} (hh : fX6_isCourse p0 = some r) (hk : w = some (.int r) ∧ s = s') : J X MX6_isCourse (d + 1) 0 [some (.int p0)] [] s w s' := by
  unfold fX6_isCourse at hh
  refine J_iload_n (pc := 0) dX6_isCourse_0 rfl ?_
  refine J_i2l (pc := 1) dX6_isCourse_1 ?_
  refine J_lconst (pc := 2) (v := 0) dX6_isCourse_2 rfl ?_
  refine J_ldc2 (pc := 3) klX6_357 dX6_isCourse_3 ?_
  obtain ⟨y1, hy1, hh⟩ := bd_some hh
  refine J_callSi (pc := 6) (M' := MX6_within) (rest := []) (As := [.long (p0.toInt64), .long (0 : Int64), .long (3 : Int64)]) (L0 := [some (.long (p0.toInt64)), none, some (.long (0 : Int64)), none, some (.long (3 : Int64)), none]) okX6_within osX6_within mlX6_62 rfl rfl (Nat.le_of_ble_eq_true rfl) dX6_isCourse_6 rfl (Nat.le_of_ble_eq_true rfl) (jX6_within (X := X) d s (p0.toInt64) (0 : Int64) (3 : Int64) hy1) ?_
  obtain ⟨hz2, hh⟩ := gz_some hh
  obtain rfl := Option.some.inj hh
  obtain ⟨rfl, rfl⟩ := hk
  exact J_ret (w := some (.int y1)) ⟨dX6_isCourse_9, _, rfl, (nz_bool hz2)⟩
theorem jX6_isCourse {X : Scr} (d : Nat) (s : Mem) (p0 : Int32) {r : Int32} (hh : fX6_isCourse p0 = some r) : J X MX6_isCourse (d + 1) 0 [some (.int p0)] [] s (some (.int r)) s := jjX6_isCourse d p0 hh ⟨rfl, rfl⟩
theorem dX6_isSection_0 : decode cX6_isSection 0 = .ok (.iload_n 0, 1) := by decide +kernel
theorem dX6_isSection_1 : decode cX6_isSection 1 = .ok (.invokestatic 108, 3) := by decide +kernel
theorem dX6_isSection_4 : decode cX6_isSection 4 = .ok (.ifCond .eq 29, 3) := by decide +kernel
theorem dX6_isSection_7 : decode cX6_isSection 7 = .ok (.iload_n 1, 1) := by decide +kernel
theorem dX6_isSection_8 : decode cX6_isSection 8 = .ok (.i2l, 1) := by decide +kernel
theorem dX6_isSection_9 : decode cX6_isSection 9 = .ok (.lconst 0, 1) := by decide +kernel
theorem dX6_isSection_10 : decode cX6_isSection 10 = .ok (.ldc2_w 263, 3) := by decide +kernel
theorem dX6_isSection_13 : decode cX6_isSection 13 = .ok (.invokestatic 62, 3) := by decide +kernel
theorem dX6_isSection_16 : decode cX6_isSection 16 = .ok (.ifCond .eq 17, 3) := by decide +kernel
theorem dX6_isSection_19 : decode cX6_isSection 19 = .ok (.iload_n 2, 1) := by decide +kernel
theorem dX6_isSection_20 : decode cX6_isSection 20 = .ok (.i2l, 1) := by decide +kernel
theorem dX6_isSection_21 : decode cX6_isSection 21 = .ok (.lconst 0, 1) := by decide +kernel
theorem dX6_isSection_22 : decode cX6_isSection 22 = .ok (.lconst 1, 1) := by decide +kernel
theorem dX6_isSection_23 : decode cX6_isSection 23 = .ok (.invokestatic 62, 3) := by decide +kernel
theorem dX6_isSection_26 : decode cX6_isSection 26 = .ok (.ifCond .eq 7, 3) := by decide +kernel
theorem dX6_isSection_29 : decode cX6_isSection 29 = .ok (.iconst 1, 1) := by decide +kernel
theorem dX6_isSection_30 : decode cX6_isSection 30 = .ok (.goto 4, 3) := by decide +kernel
theorem dX6_isSection_33 : decode cX6_isSection 33 = .ok (.iconst 0, 1) := by decide +kernel
theorem dX6_isSection_34 : decode cX6_isSection 34 = .ok (.ireturn, 1) := by decide +kernel
def fX6_isSection (p0 : Int32) (p1 : Int32) (p2 : Int32) : Option Int32 :=
  (fX6_isCourse p0).bind (fun y1 => if y1 = (0 : Int32) then some (0 : Int32) else (fX6_within (p1.toInt64) (0 : Int64) (2 : Int64)).bind (fun y2 => if y2 = (0 : Int32) then some (0 : Int32) else (fX6_within (p2.toInt64) (0 : Int64) (1 : Int64)).bind (fun y3 => if y3 = (0 : Int32) then some (0 : Int32) else some (1 : Int32))))
set_option maxRecDepth 4000 in
theorem jjX6_isSection {X : Scr} (d : Nat) {s : Mem} (p0 : Int32) (p1 : Int32) (p2 : Int32) {r : Int32} {w : Option Value} {s' : Mem} (hh : fX6_isSection p0 p1 p2 = some r) (hk : w = some (.int r) ∧ s = s') : J X MX6_isSection (d + 2) 0 [some (.int p0), some (.int p1), some (.int p2)] [] s w s' := by
  unfold fX6_isSection at hh
  refine J_iload_n (pc := 0) dX6_isSection_0 rfl ?_
  obtain ⟨y1, hy1, hh⟩ := bd_some hh
  refine J_callSi (pc := 1) (M' := MX6_isCourse) (rest := []) (As := [.int p0]) (L0 := [some (.int p0)]) okX6_isCourse osX6_isCourse mlX6_108 rfl rfl (Nat.le_of_ble_eq_true rfl) dX6_isSection_1 rfl (Nat.le_of_ble_eq_true rfl) (jX6_isCourse (X := X) d s p0 hy1) ?_
  refine J_if_eq (pc := 4) 33 dX6_isSection_4 (by decide) (fun c6 => ?_) (fun c6 => ?_)
  · replace hh := (if_pos c6).symm.trans hh
    refine J_iconst (pc := 33) dX6_isSection_33 ci_0 ?_
    obtain rfl := Option.some.inj hh
    obtain ⟨rfl, rfl⟩ := hk
    exact J_ret (w := some (.int (0 : Int32))) ⟨dX6_isSection_34, _, rfl, rfl⟩
  · replace hh := (if_neg c6).symm.trans hh
    refine J_iload_n (pc := 7) dX6_isSection_7 rfl ?_
    refine J_i2l (pc := 8) dX6_isSection_8 ?_
    refine J_lconst (pc := 9) (v := 0) dX6_isSection_9 rfl ?_
    refine J_ldc2 (pc := 10) klX6_263 dX6_isSection_10 ?_
    obtain ⟨y2, hy2, hh⟩ := bd_some hh
    refine J_callSi (pc := 13) (M' := MX6_within) (rest := []) (As := [.long (p1.toInt64), .long (0 : Int64), .long (2 : Int64)]) (L0 := [some (.long (p1.toInt64)), none, some (.long (0 : Int64)), none, some (.long (2 : Int64)), none]) okX6_within osX6_within mlX6_62 rfl rfl (Nat.le_of_ble_eq_true rfl) dX6_isSection_13 rfl (Nat.le_of_ble_eq_true rfl) (jX6_within (X := X) (d + 1) s (p1.toInt64) (0 : Int64) (2 : Int64) hy2) ?_
    refine J_if_eq (pc := 16) 33 dX6_isSection_16 (by decide) (fun c5 => ?_) (fun c5 => ?_)
    · replace hh := (if_pos c5).symm.trans hh
      refine J_iconst (pc := 33) dX6_isSection_33 ci_0 ?_
      obtain rfl := Option.some.inj hh
      obtain ⟨rfl, rfl⟩ := hk
      exact J_ret (w := some (.int (0 : Int32))) ⟨dX6_isSection_34, _, rfl, rfl⟩
    · replace hh := (if_neg c5).symm.trans hh
      refine J_iload_n (pc := 19) dX6_isSection_19 rfl ?_
      refine J_i2l (pc := 20) dX6_isSection_20 ?_
      refine J_lconst (pc := 21) (v := 0) dX6_isSection_21 rfl ?_
      refine J_lconst (pc := 22) (v := 1) dX6_isSection_22 rfl ?_
      obtain ⟨y3, hy3, hh⟩ := bd_some hh
      refine J_callSi (pc := 23) (M' := MX6_within) (rest := []) (As := [.long (p2.toInt64), .long (0 : Int64), .long (1 : Int64)]) (L0 := [some (.long (p2.toInt64)), none, some (.long (0 : Int64)), none, some (.long (1 : Int64)), none]) okX6_within osX6_within mlX6_62 rfl rfl (Nat.le_of_ble_eq_true rfl) dX6_isSection_23 rfl (Nat.le_of_ble_eq_true rfl) (jX6_within (X := X) (d + 1) s (p2.toInt64) (0 : Int64) (1 : Int64) hy3) ?_
      refine J_if_eq (pc := 26) 33 dX6_isSection_26 (by decide) (fun c4 => ?_) (fun c4 => ?_)
      · replace hh := (if_pos c4).symm.trans hh
        refine J_iconst (pc := 33) dX6_isSection_33 ci_0 ?_
        obtain rfl := Option.some.inj hh
        obtain ⟨rfl, rfl⟩ := hk
        exact J_ret (w := some (.int (0 : Int32))) ⟨dX6_isSection_34, _, rfl, rfl⟩
      · replace hh := (if_neg c4).symm.trans hh
        refine J_iconst (pc := 29) dX6_isSection_29 ci_1 ?_
        refine J_goto (pc := 30) 34 dX6_isSection_30 (by decide) ?_
        obtain rfl := Option.some.inj hh
        obtain ⟨rfl, rfl⟩ := hk
        exact J_ret (w := some (.int (1 : Int32))) ⟨dX6_isSection_34, _, rfl, rfl⟩
theorem jX6_isSection {X : Scr} (d : Nat) (s : Mem) (p0 : Int32) (p1 : Int32) (p2 : Int32) {r : Int32} (hh : fX6_isSection p0 p1 p2 = some r) : J X MX6_isSection (d + 2) 0 [some (.int p0), some (.int p1), some (.int p2)] [] s (some (.int r)) s := jjX6_isSection d p0 p1 p2 hh ⟨rfl, rfl⟩
theorem dX6_isHours_0 : decode cX6_isHours 0 = .ok (.iload_n 0, 1) := by decide +kernel
theorem dX6_isHours_1 : decode cX6_isHours 1 = .ok (.i2l, 1) := by decide +kernel
theorem dX6_isHours_2 : decode cX6_isHours 2 = .ok (.lconst 0, 1) := by decide +kernel
theorem dX6_isHours_3 : decode cX6_isHours 3 = .ok (.ldc2_w 359, 3) := by decide +kernel
theorem dX6_isHours_6 : decode cX6_isHours 6 = .ok (.invokestatic 62, 3) := by decide +kernel
theorem dX6_isHours_9 : decode cX6_isHours 9 = .ok (.ireturn, 1) := by decide +kernel
def fX6_isHours (p0 : Int32) : Option Int32 :=
  (fX6_within (p0.toInt64) (0 : Int64) (1048575 : Int64)).bind (fun y1 => gz y1 (some y1))
set_option maxRecDepth 4000 in
theorem jjX6_isHours {X : Scr} (d : Nat) {s : Mem} (p0 : Int32) {r : Int32} {w : Option Value} {s' : Mem} (hh : fX6_isHours p0 = some r) (hk : w = some (.int r) ∧ s = s') : J X MX6_isHours (d + 1) 0 [some (.int p0)] [] s w s' := by
  unfold fX6_isHours at hh
  refine J_iload_n (pc := 0) dX6_isHours_0 rfl ?_
  refine J_i2l (pc := 1) dX6_isHours_1 ?_
  refine J_lconst (pc := 2) (v := 0) dX6_isHours_2 rfl ?_
  refine J_ldc2 (pc := 3) klX6_359 dX6_isHours_3 ?_
  obtain ⟨y1, hy1, hh⟩ := bd_some hh
  refine J_callSi (pc := 6) (M' := MX6_within) (rest := []) (As := [.long (p0.toInt64), .long (0 : Int64), .long (1048575 : Int64)]) (L0 := [some (.long (p0.toInt64)), none, some (.long (0 : Int64)), none, some (.long (1048575 : Int64)), none]) okX6_within osX6_within mlX6_62 rfl rfl (Nat.le_of_ble_eq_true rfl) dX6_isHours_6 rfl (Nat.le_of_ble_eq_true rfl) (jX6_within (X := X) d s (p0.toInt64) (0 : Int64) (1048575 : Int64) hy1) ?_
  obtain ⟨hz2, hh⟩ := gz_some hh
  obtain rfl := Option.some.inj hh
  obtain ⟨rfl, rfl⟩ := hk
  exact J_ret (w := some (.int y1)) ⟨dX6_isHours_9, _, rfl, (nz_bool hz2)⟩
theorem jX6_isHours {X : Scr} (d : Nat) (s : Mem) (p0 : Int32) {r : Int32} (hh : fX6_isHours p0 = some r) : J X MX6_isHours (d + 1) 0 [some (.int p0)] [] s (some (.int r)) s := jjX6_isHours d p0 hh ⟨rfl, rfl⟩
theorem dX6_finding_0 : decode cX6_finding 0 = .ok (.iload_n 1, 1) := by decide +kernel
theorem dX6_finding_1 : decode cX6_finding 1 = .ok (.i2l, 1) := by decide +kernel
theorem dX6_finding_2 : decode cX6_finding 2 = .ok (.lconst 0, 1) := by decide +kernel
theorem dX6_finding_3 : decode cX6_finding 3 = .ok (.ldc2_w 111, 3) := by decide +kernel
theorem dX6_finding_6 : decode cX6_finding 6 = .ok (.invokestatic 62, 3) := by decide +kernel
theorem dX6_finding_9 : decode cX6_finding 9 = .ok (.ifCond .eq 13, 3) := by decide +kernel
theorem dX6_finding_12 : decode cX6_finding 12 = .ok (.aload_n 0, 1) := by decide +kernel
theorem dX6_finding_13 : decode cX6_finding 13 = .ok (.getfield 44, 3) := by decide +kernel
theorem dX6_finding_16 : decode cX6_finding 16 = .ok (.iload_n 1, 1) := by decide +kernel
theorem dX6_finding_17 : decode cX6_finding 17 = .ok (.dup2, 1) := by decide +kernel
theorem dX6_finding_18 : decode cX6_finding 18 = .ok (.iaload, 1) := by decide +kernel
theorem dX6_finding_19 : decode cX6_finding 19 = .ok (.iconst 1, 1) := by decide +kernel
theorem dX6_finding_20 : decode cX6_finding 20 = .ok (.iadd, 1) := by decide +kernel
theorem dX6_finding_21 : decode cX6_finding 21 = .ok (.iastore, 1) := by decide +kernel
theorem dX6_finding_22 : decode cX6_finding 22 = .ok (.ldc_w 303, 3) := by decide +kernel
theorem dX6_finding_25 : decode cX6_finding 25 = .ok (.iload_n 1, 1) := by decide +kernel
theorem dX6_finding_26 : decode cX6_finding 26 = .ok (.isub, 1) := by decide +kernel
theorem dX6_finding_27 : decode cX6_finding 27 = .ok (.ireturn, 1) := by decide +kernel
def fX6_finding (s : Mem) (p0 : Int32) : Option (Int32 × Mem) :=
  (fX6_within (p0.toInt64) (0 : Int64) (7 : Int64)).bind (fun y1 => if y1 = (0 : Int32) then some (((-1000001 : Int32) - p0, s)) else gd p0 8 (gd p0 8 (lt (up2 s 18 p0.toNatClampNeg ((s.1 18 p0.toNatClampNeg) + (1 : Int32))) (fun s4 => some (((-1000001 : Int32) - p0, s4))))))
set_option maxRecDepth 4000 in
theorem jjX6_finding {X : Scr} (d : Nat) (s : Mem) (p0 : Int32) {r : (Int32 × Mem)} {w : Option Value} {s' : Mem} (hh : fX6_finding s p0 = some r) (hk : w = some (.int r.1) ∧ r.2 = s') : J X MX6_finding (d + 1) 0 [some (.ref 0), some (.int p0)] [] s w s' := by
  unfold fX6_finding at hh
  refine J_iload_n (pc := 0) dX6_finding_0 rfl ?_
  refine J_i2l (pc := 1) dX6_finding_1 ?_
  refine J_lconst (pc := 2) (v := 0) dX6_finding_2 rfl ?_
  refine J_ldc2 (pc := 3) klX6_111 dX6_finding_3 ?_
  obtain ⟨y1, hy1, hh⟩ := bd_some hh
  refine J_callSi (pc := 6) (M' := MX6_within) (rest := []) (As := [.long (p0.toInt64), .long (0 : Int64), .long (7 : Int64)]) (L0 := [some (.long (p0.toInt64)), none, some (.long (0 : Int64)), none, some (.long (7 : Int64)), none]) okX6_within osX6_within mlX6_62 rfl rfl (Nat.le_of_ble_eq_true rfl) dX6_finding_6 rfl (Nat.le_of_ble_eq_true rfl) (jX6_within (X := X) d s (p0.toInt64) (0 : Int64) (7 : Int64) hy1) ?_
  refine J_if_eq (pc := 9) 22 dX6_finding_9 (by decide) (fun c5 => ?_) (fun c5 => ?_)
  · replace hh := (if_pos c5).symm.trans hh
    refine J_ldcw (pc := 22) kcX6_303 dX6_finding_22 ?_
    refine J_iload_n (pc := 25) dX6_finding_25 rfl ?_
    refine J_isub (pc := 26) dX6_finding_26 ?_
    obtain rfl := Option.some.inj hh
    obtain ⟨rfl, rfl⟩ := hk
    exact J_ret (w := some (.int ((-1000001 : Int32) - p0))) ⟨dX6_finding_27, _, rfl, rfl⟩
  · replace hh := (if_neg c5).symm.trans hh
    refine J_aload_n (pc := 12) dX6_finding_12 rfl ?_
    refine J_getR (pc := 13) (k := 5) flX6_44 so0 fk0_5 dX6_finding_13 ?_
    refine J_iload_n (pc := 16) dX6_finding_16 rfl ?_
    refine J_dup2 (pc := 17) dX6_finding_17 rfl rfl ?_
    obtain ⟨h2, hh⟩ := gd_some hh
    refine J_iald (pc := 18) dX6_finding_18 sa18 h2 ?_
    refine J_iconst (pc := 19) dX6_finding_19 ci_1 ?_
    refine J_iadd (pc := 20) dX6_finding_20 ?_
    obtain ⟨h3, hh⟩ := gd_some hh
    refine J_iastL (pc := 21) dX6_finding_21 sa18 h3 hh (fun s4 hh => ?_)
    refine J_ldcw (pc := 22) kcX6_303 dX6_finding_22 ?_
    refine J_iload_n (pc := 25) dX6_finding_25 rfl ?_
    refine J_isub (pc := 26) dX6_finding_26 ?_
    obtain rfl := Option.some.inj hh
    obtain ⟨rfl, rfl⟩ := hk
    exact J_ret (w := some (.int ((-1000001 : Int32) - p0))) ⟨dX6_finding_27, _, rfl, rfl⟩
theorem jX6_finding {X : Scr} (d : Nat) (s : Mem) (p0 : Int32) {r : (Int32 × Mem)} (hh : fX6_finding s p0 = some r) : J X MX6_finding (d + 1) 0 [some (.ref 0), some (.int p0)] [] s (some (.int r.1)) r.2 := jjX6_finding d s p0 hh ⟨rfl, rfl⟩
theorem dX6_section_0 : decode cX6_section 0 = .ok (.iload_n 1, 1) := by decide +kernel
theorem dX6_section_1 : decode cX6_section 1 = .ok (.iload_n 2, 1) := by decide +kernel
theorem dX6_section_2 : decode cX6_section 2 = .ok (.iload_n 3, 1) := by decide +kernel
theorem dX6_section_3 : decode cX6_section 3 = .ok (.invokestatic 52, 3) := by decide +kernel
theorem dX6_section_6 : decode cX6_section 6 = .ok (.ifCond .eq 37, 3) := by decide +kernel
theorem dX6_section_9 : decode cX6_section 9 = .ok (.iload 4, 2) := by decide +kernel
theorem dX6_section_11 : decode cX6_section 11 = .ok (.invokestatic 56, 3) := by decide +kernel
theorem dX6_section_14 : decode cX6_section 14 = .ok (.ifCond .eq 29, 3) := by decide +kernel
theorem dX6_section_17 : decode cX6_section 17 = .ok (.iload 5, 2) := by decide +kernel
theorem dX6_section_19 : decode cX6_section 19 = .ok (.i2l, 1) := by decide +kernel
theorem dX6_section_20 : decode cX6_section 20 = .ok (.lconst 0, 1) := by decide +kernel
theorem dX6_section_21 : decode cX6_section 21 = .ok (.ldc2_w 60, 3) := by decide +kernel
theorem dX6_section_24 : decode cX6_section 24 = .ok (.invokestatic 62, 3) := by decide +kernel
theorem dX6_section_27 : decode cX6_section 27 = .ok (.ifCond .eq 16, 3) := by decide +kernel
theorem dX6_section_30 : decode cX6_section 30 = .ok (.iload 6, 2) := by decide +kernel
theorem dX6_section_32 : decode cX6_section 32 = .ok (.i2l, 1) := by decide +kernel
theorem dX6_section_33 : decode cX6_section 33 = .ok (.ldc2_w 66, 3) := by decide +kernel
theorem dX6_section_36 : decode cX6_section 36 = .ok (.lconst 1, 1) := by decide +kernel
theorem dX6_section_37 : decode cX6_section 37 = .ok (.invokestatic 62, 3) := by decide +kernel
theorem dX6_section_40 : decode cX6_section 40 = .ok (.ifCond .ne 9, 3) := by decide +kernel
theorem dX6_section_43 : decode cX6_section 43 = .ok (.aload_n 0, 1) := by decide +kernel
theorem dX6_section_44 : decode cX6_section 44 = .ok (.iconst 0, 1) := by decide +kernel
theorem dX6_section_45 : decode cX6_section 45 = .ok (.invokevirtual 68, 3) := by decide +kernel
theorem dX6_section_48 : decode cX6_section 48 = .ok (.ireturn, 1) := by decide +kernel
theorem dX6_section_49 : decode cX6_section 49 = .ok (.aload_n 0, 1) := by decide +kernel
theorem dX6_section_50 : decode cX6_section 50 = .ok (.getfield 19, 3) := by decide +kernel
theorem dX6_section_53 : decode cX6_section 53 = .ok (.aload_n 0, 1) := by decide +kernel
theorem dX6_section_54 : decode cX6_section 54 = .ok (.getfield 10, 3) := by decide +kernel
theorem dX6_section_57 : decode cX6_section 57 = .ok (.invokevirtual 72, 3) := by decide +kernel
theorem dX6_section_60 : decode cX6_section 60 = .ok (.aload_n 0, 1) := by decide +kernel
theorem dX6_section_61 : decode cX6_section 61 = .ok (.getfield 10, 3) := by decide +kernel
theorem dX6_section_64 : decode cX6_section 64 = .ok (.iload_n 1, 1) := by decide +kernel
theorem dX6_section_65 : decode cX6_section 65 = .ok (.iload_n 2, 1) := by decide +kernel
theorem dX6_section_66 : decode cX6_section 66 = .ok (.iload_n 3, 1) := by decide +kernel
theorem dX6_section_67 : decode cX6_section 67 = .ok (.iload 4, 2) := by decide +kernel
theorem dX6_section_69 : decode cX6_section 69 = .ok (.iload 5, 2) := by decide +kernel
theorem dX6_section_71 : decode cX6_section 71 = .ok (.iload 6, 2) := by decide +kernel
theorem dX6_section_73 : decode cX6_section 73 = .ok (.invokevirtual 76, 3) := by decide +kernel
theorem dX6_section_76 : decode cX6_section 76 = .ok (.ifCond .ne 20, 3) := by decide +kernel
theorem dX6_section_79 : decode cX6_section 79 = .ok (.aload_n 0, 1) := by decide +kernel
theorem dX6_section_80 : decode cX6_section 80 = .ok (.getfield 19, 3) := by decide +kernel
theorem dX6_section_83 : decode cX6_section 83 = .ok (.aload_n 0, 1) := by decide +kernel
theorem dX6_section_84 : decode cX6_section 84 = .ok (.getfield 10, 3) := by decide +kernel
theorem dX6_section_87 : decode cX6_section 87 = .ok (.invokevirtual 80, 3) := by decide +kernel
theorem dX6_section_90 : decode cX6_section 90 = .ok (.aload_n 0, 1) := by decide +kernel
theorem dX6_section_91 : decode cX6_section 91 = .ok (.iconst 4, 1) := by decide +kernel
theorem dX6_section_92 : decode cX6_section 92 = .ok (.invokevirtual 68, 3) := by decide +kernel
theorem dX6_section_95 : decode cX6_section 95 = .ok (.ireturn, 1) := by decide +kernel
theorem dX6_section_96 : decode cX6_section 96 = .ok (.aload_n 0, 1) := by decide +kernel
theorem dX6_section_97 : decode cX6_section 97 = .ok (.getfield 19, 3) := by decide +kernel
theorem dX6_section_100 : decode cX6_section 100 = .ok (.invokevirtual 83, 3) := by decide +kernel
theorem dX6_section_103 : decode cX6_section 103 = .ok (.aload_n 0, 1) := by decide +kernel
theorem dX6_section_104 : decode cX6_section 104 = .ok (.getfield 10, 3) := by decide +kernel
theorem dX6_section_107 : decode cX6_section 107 = .ok (.iload_n 1, 1) := by decide +kernel
theorem dX6_section_108 : decode cX6_section 108 = .ok (.invokevirtual 86, 3) := by decide +kernel
theorem dX6_section_111 : decode cX6_section 111 = .ok (.ireturn, 1) := by decide +kernel
def gX6_section_43 (s : Mem)  : Option (Int32 × Mem) :=
  (fX6_finding s (0 : Int32)).bind (fun y2 => some ((y2.1, y2.2)))
set_option maxRecDepth 4000 in
theorem jgX6_section_43 {X : Scr} (d : Nat) (s : Mem)  {r : (Int32 × Mem)} {w : Option Value} {s' : Mem} (hh : gX6_section_43 s = some r) (hk : w = some (.int r.1) ∧ r.2 = s') : J X MX6_section (d + 5) 43 [some (.ref 0), none, none, none, none, none, none] [] s w s' := by
  unfold gX6_section_43 at hh
  refine J_aload_n (pc := 43) dX6_section_43 rfl ?_
  refine J_iconst (pc := 44) dX6_section_44 ci_0 ?_
  obtain ⟨y2, hy2, hh⟩ := bd_some hh
  refine J_callVi (pc := 45) (M' := MX6_finding) (a := 0) (rest := []) (As := [.int (0 : Int32)]) (L0 := [some (.ref 0), some (.int (0 : Int32))]) okX6_finding ovX6_finding mlX6_68 clX6 so0 rfl rfl (Nat.le_of_ble_eq_true rfl) dX6_section_45 rfl (Nat.le_of_ble_eq_true rfl) (jX6_finding (X := X) (d + 3) s (0 : Int32) hy2) ?_
  obtain rfl := Option.some.inj hh
  obtain ⟨rfl, rfl⟩ := hk
  exact J_ret (w := some (.int y2.1)) ⟨dX6_section_48, _, rfl, rfl⟩
def fX6_section (s : Mem) (p0 : Int32) (p1 : Int32) (p2 : Int32) (p3 : Int32) (p4 : Int32) (p5 : Int32) : Option (Int32 × Mem) :=
  (fX6_isSection p0 p1 p2).bind (fun y1 => if y1 = (0 : Int32) then gX6_section_43 s else (fX6_isHours p3).bind (fun y3 => if y3 = (0 : Int32) then gX6_section_43 s else (fX6_within (p4.toInt64) (0 : Int64) (9 : Int64)).bind (fun y4 => if y4 = (0 : Int32) then gX6_section_43 s else (fX6_within (p5.toInt64) (-1 : Int64) (1 : Int64)).bind (fun y5 => if y5 = (0 : Int32) then gX6_section_43 s else (fX2_mark s).bind (fun y6 => (fX0_opens y6 p0 p1 p2 p3 p4 p5).bind (fun y7 => if y7.1 = (0 : Int32) then (fX2_bringBack y7.2).bind (fun y10 => (fX6_finding y10 (4 : Int32)).bind (fun y11 => some ((y11.1, y11.2)))) else (fX2_keep y7.2).bind (fun y8 => (fX0_lawfulSet y8 p0).bind (fun y9 => some ((y9, y8))))))))))
set_option maxRecDepth 4000 in
theorem jjX6_section {X : Scr} (d : Nat) (s : Mem) (p0 : Int32) (p1 : Int32) (p2 : Int32) (p3 : Int32) (p4 : Int32) (p5 : Int32) {r : (Int32 × Mem)} {w : Option Value} {s' : Mem} (hh : fX6_section s p0 p1 p2 p3 p4 p5 = some r) (hk : w = some (.int r.1) ∧ r.2 = s') : J X MX6_section (d + 5) 0 [some (.ref 0), some (.int p0), some (.int p1), some (.int p2), some (.int p3), some (.int p4), some (.int p5)] [] s w s' := by
  unfold fX6_section at hh
  refine J_iload_n (pc := 0) dX6_section_0 rfl ?_
  refine J_iload_n (pc := 1) dX6_section_1 rfl ?_
  refine J_iload_n (pc := 2) dX6_section_2 rfl ?_
  obtain ⟨y1, hy1, hh⟩ := bd_some hh
  refine J_callSi (pc := 3) (M' := MX6_isSection) (rest := []) (As := [.int p0, .int p1, .int p2]) (L0 := [some (.int p0), some (.int p1), some (.int p2)]) okX6_isSection osX6_isSection mlX6_52 rfl rfl (Nat.le_of_ble_eq_true rfl) dX6_section_3 rfl (Nat.le_of_ble_eq_true rfl) (jX6_isSection (X := X) (d + 2) s p0 p1 p2 hy1) ?_
  refine J_if_eq (pc := 6) 43 dX6_section_6 (by decide) (fun c16 => ?_) (fun c16 => ?_)
  · replace hh := (if_pos c16).symm.trans hh
    refine J_drop 1 (L' := [some (.ref 0), none, some (.int p1), some (.int p2), some (.int p3), some (.int p4), some (.int p5)]) rfl ?_
    refine J_drop 2 (L' := [some (.ref 0), none, none, some (.int p2), some (.int p3), some (.int p4), some (.int p5)]) rfl ?_
    refine J_drop 3 (L' := [some (.ref 0), none, none, none, some (.int p3), some (.int p4), some (.int p5)]) rfl ?_
    refine J_drop 4 (L' := [some (.ref 0), none, none, none, none, some (.int p4), some (.int p5)]) rfl ?_
    refine J_drop 5 (L' := [some (.ref 0), none, none, none, none, none, some (.int p5)]) rfl ?_
    refine J_drop 6 (L' := [some (.ref 0), none, none, none, none, none, none]) rfl ?_
    exact jgX6_section_43 d s hh hk
  · replace hh := (if_neg c16).symm.trans hh
    refine J_iload (pc := 9) dX6_section_9 rfl ?_
    obtain ⟨y3, hy3, hh⟩ := bd_some hh
    refine J_callSi (pc := 11) (M' := MX6_isHours) (rest := []) (As := [.int p3]) (L0 := [some (.int p3)]) okX6_isHours osX6_isHours mlX6_56 rfl rfl (Nat.le_of_ble_eq_true rfl) dX6_section_11 rfl (Nat.le_of_ble_eq_true rfl) (jX6_isHours (X := X) (d + 3) s p3 hy3) ?_
    refine J_if_eq (pc := 14) 43 dX6_section_14 (by decide) (fun c15 => ?_) (fun c15 => ?_)
    · replace hh := (if_pos c15).symm.trans hh
      refine J_drop 1 (L' := [some (.ref 0), none, some (.int p1), some (.int p2), some (.int p3), some (.int p4), some (.int p5)]) rfl ?_
      refine J_drop 2 (L' := [some (.ref 0), none, none, some (.int p2), some (.int p3), some (.int p4), some (.int p5)]) rfl ?_
      refine J_drop 3 (L' := [some (.ref 0), none, none, none, some (.int p3), some (.int p4), some (.int p5)]) rfl ?_
      refine J_drop 4 (L' := [some (.ref 0), none, none, none, none, some (.int p4), some (.int p5)]) rfl ?_
      refine J_drop 5 (L' := [some (.ref 0), none, none, none, none, none, some (.int p5)]) rfl ?_
      refine J_drop 6 (L' := [some (.ref 0), none, none, none, none, none, none]) rfl ?_
      exact jgX6_section_43 d s hh hk
    · replace hh := (if_neg c15).symm.trans hh
      refine J_iload (pc := 17) dX6_section_17 rfl ?_
      refine J_i2l (pc := 19) dX6_section_19 ?_
      refine J_lconst (pc := 20) (v := 0) dX6_section_20 rfl ?_
      refine J_ldc2 (pc := 21) klX6_60 dX6_section_21 ?_
      obtain ⟨y4, hy4, hh⟩ := bd_some hh
      refine J_callSi (pc := 24) (M' := MX6_within) (rest := []) (As := [.long (p4.toInt64), .long (0 : Int64), .long (9 : Int64)]) (L0 := [some (.long (p4.toInt64)), none, some (.long (0 : Int64)), none, some (.long (9 : Int64)), none]) okX6_within osX6_within mlX6_62 rfl rfl (Nat.le_of_ble_eq_true rfl) dX6_section_24 rfl (Nat.le_of_ble_eq_true rfl) (jX6_within (X := X) (d + 4) s (p4.toInt64) (0 : Int64) (9 : Int64) hy4) ?_
      refine J_if_eq (pc := 27) 43 dX6_section_27 (by decide) (fun c14 => ?_) (fun c14 => ?_)
      · replace hh := (if_pos c14).symm.trans hh
        refine J_drop 1 (L' := [some (.ref 0), none, some (.int p1), some (.int p2), some (.int p3), some (.int p4), some (.int p5)]) rfl ?_
        refine J_drop 2 (L' := [some (.ref 0), none, none, some (.int p2), some (.int p3), some (.int p4), some (.int p5)]) rfl ?_
        refine J_drop 3 (L' := [some (.ref 0), none, none, none, some (.int p3), some (.int p4), some (.int p5)]) rfl ?_
        refine J_drop 4 (L' := [some (.ref 0), none, none, none, none, some (.int p4), some (.int p5)]) rfl ?_
        refine J_drop 5 (L' := [some (.ref 0), none, none, none, none, none, some (.int p5)]) rfl ?_
        refine J_drop 6 (L' := [some (.ref 0), none, none, none, none, none, none]) rfl ?_
        exact jgX6_section_43 d s hh hk
      · replace hh := (if_neg c14).symm.trans hh
        refine J_iload (pc := 30) dX6_section_30 rfl ?_
        refine J_i2l (pc := 32) dX6_section_32 ?_
        refine J_ldc2 (pc := 33) klX6_66 dX6_section_33 ?_
        refine J_lconst (pc := 36) (v := 1) dX6_section_36 rfl ?_
        obtain ⟨y5, hy5, hh⟩ := bd_some hh
        refine J_callSi (pc := 37) (M' := MX6_within) (rest := []) (As := [.long (p5.toInt64), .long (-1 : Int64), .long (1 : Int64)]) (L0 := [some (.long (p5.toInt64)), none, some (.long (-1 : Int64)), none, some (.long (1 : Int64)), none]) okX6_within osX6_within mlX6_62 rfl rfl (Nat.le_of_ble_eq_true rfl) dX6_section_37 rfl (Nat.le_of_ble_eq_true rfl) (jX6_within (X := X) (d + 4) s (p5.toInt64) (-1 : Int64) (1 : Int64) hy5) ?_
        refine J_if_ne (pc := 40) 49 dX6_section_40 (by decide) (fun c13 => ?_) (fun c13 => ?_)
        · replace hh := (if_neg c13).symm.trans hh
          refine J_aload_n (pc := 49) dX6_section_49 rfl ?_
          refine J_getR (pc := 50) (k := 1) flX6_19 so0 fk0_1 dX6_section_50 ?_
          refine J_aload_n (pc := 53) dX6_section_53 rfl ?_
          refine J_getR (pc := 54) (k := 0) flX6_10 so0 fk0_0 dX6_section_54 ?_
          obtain ⟨y6, hy6, hh⟩ := bd_some hh
          refine J_callV0 (pc := 57) (M' := MX2_mark) (a := 3) (rest := []) (As := [.ref 1]) (L0 := [some (.ref 3), some (.ref 1)]) okX2_mark ovX2_mark mlX6_72 clX2 so3 rfl rfl (Nat.le_of_ble_eq_true rfl) dX6_section_57 rfl (Nat.le_of_ble_eq_true rfl) (jX2_mark (X := X) (d + 2) s hy6) ?_
          refine J_aload_n (pc := 60) dX6_section_60 rfl ?_
          refine J_getR (pc := 61) (k := 0) flX6_10 so0 fk0_0 dX6_section_61 ?_
          refine J_iload_n (pc := 64) dX6_section_64 rfl ?_
          refine J_iload_n (pc := 65) dX6_section_65 rfl ?_
          refine J_iload_n (pc := 66) dX6_section_66 rfl ?_
          refine J_iload (pc := 67) dX6_section_67 rfl ?_
          refine J_iload (pc := 69) dX6_section_69 rfl ?_
          refine J_iload (pc := 71) dX6_section_71 rfl ?_
          obtain ⟨y7, hy7, hh⟩ := bd_some hh
          refine J_callVi (pc := 73) (M' := MX0_opens) (a := 1) (rest := []) (As := [.int p0, .int p1, .int p2, .int p3, .int p4, .int p5]) (L0 := [some (.ref 1), some (.int p0), some (.int p1), some (.int p2), some (.int p3), some (.int p4), some (.int p5), none]) okX0_opens ovX0_opens mlX6_76 clX0 so1 rfl rfl (Nat.le_of_ble_eq_true rfl) dX6_section_73 rfl (Nat.le_of_ble_eq_true rfl) (jX0_opens (X := X) d y6 p0 p1 p2 p3 p4 p5 hy7) ?_
          refine J_if_ne (pc := 76) 96 dX6_section_76 (by decide) (fun c12 => ?_) (fun c12 => ?_)
          · replace hh := (if_neg c12).symm.trans hh
            refine J_aload_n (pc := 96) dX6_section_96 rfl ?_
            refine J_getR (pc := 97) (k := 1) flX6_19 so0 fk0_1 dX6_section_97 ?_
            obtain ⟨y8, hy8, hh⟩ := bd_some hh
            refine J_callV0 (pc := 100) (M' := MX2_keep) (a := 3) (rest := []) (As := []) (L0 := [some (.ref 3)]) okX2_keep ovX2_keep mlX6_83 clX2 so3 rfl rfl (Nat.le_of_ble_eq_true rfl) dX6_section_100 rfl (Nat.le_of_ble_eq_true rfl) (jX2_keep (X := X) (d + 3) y7.2 hy8) ?_
            refine J_aload_n (pc := 103) dX6_section_103 rfl ?_
            refine J_getR (pc := 104) (k := 0) flX6_10 so0 fk0_0 dX6_section_104 ?_
            refine J_iload_n (pc := 107) dX6_section_107 rfl ?_
            obtain ⟨y9, hy9, hh⟩ := bd_some hh
            refine J_callVi (pc := 108) (M' := MX0_lawfulSet) (a := 1) (rest := []) (As := [.int p0]) (L0 := [some (.ref 1), some (.int p0), none, none]) okX0_lawfulSet ovX0_lawfulSet mlX6_86 clX0 so1 rfl rfl (Nat.le_of_ble_eq_true rfl) dX6_section_108 rfl (Nat.le_of_ble_eq_true rfl) (jX0_lawfulSet (X := X) (d + 3) y8 p0 hy9) ?_
            obtain rfl := Option.some.inj hh
            obtain ⟨rfl, rfl⟩ := hk
            exact J_ret (w := some (.int y9)) ⟨dX6_section_111, _, rfl, rfl⟩
          · replace hh := (if_pos c12).symm.trans hh
            refine J_aload_n (pc := 79) dX6_section_79 rfl ?_
            refine J_getR (pc := 80) (k := 1) flX6_19 so0 fk0_1 dX6_section_80 ?_
            refine J_aload_n (pc := 83) dX6_section_83 rfl ?_
            refine J_getR (pc := 84) (k := 0) flX6_10 so0 fk0_0 dX6_section_84 ?_
            obtain ⟨y10, hy10, hh⟩ := bd_some hh
            refine J_callV0 (pc := 87) (M' := MX2_bringBack) (a := 3) (rest := []) (As := [.ref 1]) (L0 := [some (.ref 3), some (.ref 1)]) okX2_bringBack ovX2_bringBack mlX6_80 clX2 so3 rfl rfl (Nat.le_of_ble_eq_true rfl) dX6_section_87 rfl (Nat.le_of_ble_eq_true rfl) (jX2_bringBack (X := X) (d + 2) y7.2 hy10) ?_
            refine J_aload_n (pc := 90) dX6_section_90 rfl ?_
            refine J_iconst (pc := 91) dX6_section_91 ci_4 ?_
            obtain ⟨y11, hy11, hh⟩ := bd_some hh
            refine J_callVi (pc := 92) (M' := MX6_finding) (a := 0) (rest := []) (As := [.int (4 : Int32)]) (L0 := [some (.ref 0), some (.int (4 : Int32))]) okX6_finding ovX6_finding mlX6_68 clX6 so0 rfl rfl (Nat.le_of_ble_eq_true rfl) dX6_section_92 rfl (Nat.le_of_ble_eq_true rfl) (jX6_finding (X := X) (d + 3) y10 (4 : Int32) hy11) ?_
            obtain rfl := Option.some.inj hh
            obtain ⟨rfl, rfl⟩ := hk
            exact J_ret (w := some (.int y11.1)) ⟨dX6_section_95, _, rfl, rfl⟩
        · replace hh := (if_pos c13).symm.trans hh
          refine J_drop 1 (L' := [some (.ref 0), none, some (.int p1), some (.int p2), some (.int p3), some (.int p4), some (.int p5)]) rfl ?_
          refine J_drop 2 (L' := [some (.ref 0), none, none, some (.int p2), some (.int p3), some (.int p4), some (.int p5)]) rfl ?_
          refine J_drop 3 (L' := [some (.ref 0), none, none, none, some (.int p3), some (.int p4), some (.int p5)]) rfl ?_
          refine J_drop 4 (L' := [some (.ref 0), none, none, none, none, some (.int p4), some (.int p5)]) rfl ?_
          refine J_drop 5 (L' := [some (.ref 0), none, none, none, none, none, some (.int p5)]) rfl ?_
          refine J_drop 6 (L' := [some (.ref 0), none, none, none, none, none, none]) rfl ?_
          exact jgX6_section_43 d s hh hk
theorem jX6_section {X : Scr} (d : Nat) (s : Mem) (p0 : Int32) (p1 : Int32) (p2 : Int32) (p3 : Int32) (p4 : Int32) (p5 : Int32) {r : (Int32 × Mem)} (hh : fX6_section s p0 p1 p2 p3 p4 p5 = some r) : J X MX6_section (d + 5) 0 [some (.ref 0), some (.int p0), some (.int p1), some (.int p2), some (.int p3), some (.int p4), some (.int p5)] [] s (some (.int r.1)) r.2 := jjX6_section d s p0 p1 p2 p3 p4 p5 hh ⟨rfl, rfl⟩
theorem dX6_begin_0 : decode cX6_begin 0 = .ok (.aload_n 0, 1) := by decide +kernel
theorem dX6_begin_1 : decode cX6_begin 1 = .ok (.getfield 19, 3) := by decide +kernel
theorem dX6_begin_4 : decode cX6_begin 4 = .ok (.aload_n 0, 1) := by decide +kernel
theorem dX6_begin_5 : decode cX6_begin 5 = .ok (.getfield 10, 3) := by decide +kernel
theorem dX6_begin_8 : decode cX6_begin 8 = .ok (.invokevirtual 72, 3) := by decide +kernel
theorem dX6_begin_11 : decode cX6_begin 11 = .ok (.aload_n 0, 1) := by decide +kernel
theorem dX6_begin_12 : decode cX6_begin 12 = .ok (.getfield 19, 3) := by decide +kernel
theorem dX6_begin_15 : decode cX6_begin 15 = .ok (.invokevirtual 83, 3) := by decide +kernel
theorem dX6_begin_18 : decode cX6_begin 18 = .ok (.return_, 1) := by decide +kernel
def fX6_begin (s : Mem)  : Option Mem :=
  (fX2_mark s).bind (fun y1 => (fX2_keep y1).bind (fun y2 => some y2))
set_option maxRecDepth 4000 in
theorem jjX6_begin {X : Scr} (d : Nat) (s : Mem)  {r : Mem} {w : Option Value} {s' : Mem} (hh : fX6_begin s = some r) (hk : w = none ∧ r = s') : J X MX6_begin (d + 3) 0 [some (.ref 0)] [] s w s' := by
  unfold fX6_begin at hh
  refine J_aload_n (pc := 0) dX6_begin_0 rfl ?_
  refine J_getR (pc := 1) (k := 1) flX6_19 so0 fk0_1 dX6_begin_1 ?_
  refine J_aload_n (pc := 4) dX6_begin_4 rfl ?_
  refine J_getR (pc := 5) (k := 0) flX6_10 so0 fk0_0 dX6_begin_5 ?_
  obtain ⟨y1, hy1, hh⟩ := bd_some hh
  refine J_callV0 (pc := 8) (M' := MX2_mark) (a := 3) (rest := []) (As := [.ref 1]) (L0 := [some (.ref 3), some (.ref 1)]) okX2_mark ovX2_mark mlX6_72 clX2 so3 rfl rfl (Nat.le_of_ble_eq_true rfl) dX6_begin_8 rfl (Nat.le_of_ble_eq_true rfl) (jX2_mark (X := X) d s hy1) ?_
  refine J_aload_n (pc := 11) dX6_begin_11 rfl ?_
  refine J_getR (pc := 12) (k := 1) flX6_19 so0 fk0_1 dX6_begin_12 ?_
  obtain ⟨y2, hy2, hh⟩ := bd_some hh
  refine J_callV0 (pc := 15) (M' := MX2_keep) (a := 3) (rest := []) (As := []) (L0 := [some (.ref 3)]) okX2_keep ovX2_keep mlX6_83 clX2 so3 rfl rfl (Nat.le_of_ble_eq_true rfl) dX6_begin_15 rfl (Nat.le_of_ble_eq_true rfl) (jX2_keep (X := X) (d + 1) y1 hy2) ?_
  obtain rfl := Option.some.inj hh
  obtain ⟨rfl, rfl⟩ := hk
  exact J_ret (w := none) ⟨dX6_begin_18, rfl⟩
theorem jX6_begin {X : Scr} (d : Nat) (s : Mem)  {r : Mem} (hh : fX6_begin s = some r) : J X MX6_begin (d + 3) 0 [some (.ref 0)] [] s (none) r := jjX6_begin d s hh ⟨rfl, rfl⟩
theorem dX6_shut_0 : decode cX6_shut 0 = .ok (.iload_n 1, 1) := by decide +kernel
theorem dX6_shut_1 : decode cX6_shut 1 = .ok (.iload_n 2, 1) := by decide +kernel
theorem dX6_shut_2 : decode cX6_shut 2 = .ok (.iload_n 3, 1) := by decide +kernel
theorem dX6_shut_3 : decode cX6_shut 3 = .ok (.invokestatic 52, 3) := by decide +kernel
theorem dX6_shut_6 : decode cX6_shut 6 = .ok (.ifCond .ne 9, 3) := by decide +kernel
theorem dX6_shut_9 : decode cX6_shut 9 = .ok (.aload_n 0, 1) := by decide +kernel
theorem dX6_shut_10 : decode cX6_shut 10 = .ok (.iconst 0, 1) := by decide +kernel
theorem dX6_shut_11 : decode cX6_shut 11 = .ok (.invokevirtual 68, 3) := by decide +kernel
theorem dX6_shut_14 : decode cX6_shut 14 = .ok (.ireturn, 1) := by decide +kernel
theorem dX6_shut_15 : decode cX6_shut 15 = .ok (.aload_n 0, 1) := by decide +kernel
theorem dX6_shut_16 : decode cX6_shut 16 = .ok (.getfield 10, 3) := by decide +kernel
theorem dX6_shut_19 : decode cX6_shut 19 = .ok (.iload_n 1, 1) := by decide +kernel
theorem dX6_shut_20 : decode cX6_shut 20 = .ok (.iload_n 2, 1) := by decide +kernel
theorem dX6_shut_21 : decode cX6_shut 21 = .ok (.iload_n 3, 1) := by decide +kernel
theorem dX6_shut_22 : decode cX6_shut 22 = .ok (.invokevirtual 89, 3) := by decide +kernel
theorem dX6_shut_25 : decode cX6_shut 25 = .ok (.ifCond .ne 9, 3) := by decide +kernel
theorem dX6_shut_28 : decode cX6_shut 28 = .ok (.aload_n 0, 1) := by decide +kernel
theorem dX6_shut_29 : decode cX6_shut 29 = .ok (.iconst 3, 1) := by decide +kernel
theorem dX6_shut_30 : decode cX6_shut 30 = .ok (.invokevirtual 68, 3) := by decide +kernel
theorem dX6_shut_33 : decode cX6_shut 33 = .ok (.ireturn, 1) := by decide +kernel
theorem dX6_shut_34 : decode cX6_shut 34 = .ok (.aload_n 0, 1) := by decide +kernel
theorem dX6_shut_35 : decode cX6_shut 35 = .ok (.invokevirtual 92, 3) := by decide +kernel
theorem dX6_shut_38 : decode cX6_shut 38 = .ok (.aload_n 0, 1) := by decide +kernel
theorem dX6_shut_39 : decode cX6_shut 39 = .ok (.getfield 10, 3) := by decide +kernel
theorem dX6_shut_42 : decode cX6_shut 42 = .ok (.iload_n 1, 1) := by decide +kernel
theorem dX6_shut_43 : decode cX6_shut 43 = .ok (.iload_n 2, 1) := by decide +kernel
theorem dX6_shut_44 : decode cX6_shut 44 = .ok (.iload_n 3, 1) := by decide +kernel
theorem dX6_shut_45 : decode cX6_shut 45 = .ok (.invokevirtual 95, 3) := by decide +kernel
theorem dX6_shut_48 : decode cX6_shut 48 = .ok (.ireturn, 1) := by decide +kernel
def fX6_shut (s : Mem) (p0 : Int32) (p1 : Int32) (p2 : Int32) : Option (Int32 × Mem) :=
  (fX6_isSection p0 p1 p2).bind (fun y1 => if y1 = (0 : Int32) then (fX6_finding s (0 : Int32)).bind (fun y7 => some ((y7.1, y7.2))) else (fX0_isOpen s p0 p1 p2).bind (fun y2 => if y2 = (0 : Int32) then (fX6_finding s (3 : Int32)).bind (fun y5 => some ((y5.1, y5.2))) else (fX6_begin s).bind (fun y3 => (fX0_closes y3 p0 p1 p2).bind (fun y4 => some ((y4.1, y4.2))))))
set_option maxRecDepth 4000 in
theorem jjX6_shut {X : Scr} (d : Nat) (s : Mem) (p0 : Int32) (p1 : Int32) (p2 : Int32) {r : (Int32 × Mem)} {w : Option Value} {s' : Mem} (hh : fX6_shut s p0 p1 p2 = some r) (hk : w = some (.int r.1) ∧ r.2 = s') : J X MX6_shut (d + 5) 0 [some (.ref 0), some (.int p0), some (.int p1), some (.int p2)] [] s w s' := by
  unfold fX6_shut at hh
  refine J_iload_n (pc := 0) dX6_shut_0 rfl ?_
  refine J_iload_n (pc := 1) dX6_shut_1 rfl ?_
  refine J_iload_n (pc := 2) dX6_shut_2 rfl ?_
  obtain ⟨y1, hy1, hh⟩ := bd_some hh
  refine J_callSi (pc := 3) (M' := MX6_isSection) (rest := []) (As := [.int p0, .int p1, .int p2]) (L0 := [some (.int p0), some (.int p1), some (.int p2)]) okX6_isSection osX6_isSection mlX6_52 rfl rfl (Nat.le_of_ble_eq_true rfl) dX6_shut_3 rfl (Nat.le_of_ble_eq_true rfl) (jX6_isSection (X := X) (d + 2) s p0 p1 p2 hy1) ?_
  refine J_if_ne (pc := 6) 15 dX6_shut_6 (by decide) (fun c8 => ?_) (fun c8 => ?_)
  · replace hh := (if_neg c8).symm.trans hh
    refine J_aload_n (pc := 15) dX6_shut_15 rfl ?_
    refine J_getR (pc := 16) (k := 0) flX6_10 so0 fk0_0 dX6_shut_16 ?_
    refine J_iload_n (pc := 19) dX6_shut_19 rfl ?_
    refine J_iload_n (pc := 20) dX6_shut_20 rfl ?_
    refine J_iload_n (pc := 21) dX6_shut_21 rfl ?_
    obtain ⟨y2, hy2, hh⟩ := bd_some hh
    refine J_callVi (pc := 22) (M' := MX0_isOpen) (a := 1) (rest := []) (As := [.int p0, .int p1, .int p2]) (L0 := [some (.ref 1), some (.int p0), some (.int p1), some (.int p2)]) okX0_isOpen ovX0_isOpen mlX6_89 clX0 so1 rfl rfl (Nat.le_of_ble_eq_true rfl) dX6_shut_22 rfl (Nat.le_of_ble_eq_true rfl) (jX0_isOpen (X := X) (d + 4) s p0 p1 p2 hy2) ?_
    refine J_if_ne (pc := 25) 34 dX6_shut_25 (by decide) (fun c6 => ?_) (fun c6 => ?_)
    · replace hh := (if_neg c6).symm.trans hh
      refine J_aload_n (pc := 34) dX6_shut_34 rfl ?_
      obtain ⟨y3, hy3, hh⟩ := bd_some hh
      refine J_callV0 (pc := 35) (M' := MX6_begin) (a := 0) (rest := []) (As := []) (L0 := [some (.ref 0)]) okX6_begin ovX6_begin mlX6_92 clX6 so0 rfl rfl (Nat.le_of_ble_eq_true rfl) dX6_shut_35 rfl (Nat.le_of_ble_eq_true rfl) (jX6_begin (X := X) (d + 1) s hy3) ?_
      refine J_aload_n (pc := 38) dX6_shut_38 rfl ?_
      refine J_getR (pc := 39) (k := 0) flX6_10 so0 fk0_0 dX6_shut_39 ?_
      refine J_iload_n (pc := 42) dX6_shut_42 rfl ?_
      refine J_iload_n (pc := 43) dX6_shut_43 rfl ?_
      refine J_iload_n (pc := 44) dX6_shut_44 rfl ?_
      obtain ⟨y4, hy4, hh⟩ := bd_some hh
      refine J_callVi (pc := 45) (M' := MX0_closes) (a := 1) (rest := []) (As := [.int p0, .int p1, .int p2]) (L0 := [some (.ref 1), some (.int p0), some (.int p1), some (.int p2), none, none, none]) okX0_closes ovX0_closes mlX6_95 clX0 so1 rfl rfl (Nat.le_of_ble_eq_true rfl) dX6_shut_45 rfl (Nat.le_of_ble_eq_true rfl) (jX0_closes (X := X) d y3 p0 p1 p2 hy4) ?_
      obtain rfl := Option.some.inj hh
      obtain ⟨rfl, rfl⟩ := hk
      exact J_ret (w := some (.int y4.1)) ⟨dX6_shut_48, _, rfl, rfl⟩
    · replace hh := (if_pos c6).symm.trans hh
      refine J_aload_n (pc := 28) dX6_shut_28 rfl ?_
      refine J_iconst (pc := 29) dX6_shut_29 ci_3 ?_
      obtain ⟨y5, hy5, hh⟩ := bd_some hh
      refine J_callVi (pc := 30) (M' := MX6_finding) (a := 0) (rest := []) (As := [.int (3 : Int32)]) (L0 := [some (.ref 0), some (.int (3 : Int32))]) okX6_finding ovX6_finding mlX6_68 clX6 so0 rfl rfl (Nat.le_of_ble_eq_true rfl) dX6_shut_30 rfl (Nat.le_of_ble_eq_true rfl) (jX6_finding (X := X) (d + 3) s (3 : Int32) hy5) ?_
      obtain rfl := Option.some.inj hh
      obtain ⟨rfl, rfl⟩ := hk
      exact J_ret (w := some (.int y5.1)) ⟨dX6_shut_33, _, rfl, rfl⟩
  · replace hh := (if_pos c8).symm.trans hh
    refine J_aload_n (pc := 9) dX6_shut_9 rfl ?_
    refine J_iconst (pc := 10) dX6_shut_10 ci_0 ?_
    obtain ⟨y7, hy7, hh⟩ := bd_some hh
    refine J_callVi (pc := 11) (M' := MX6_finding) (a := 0) (rest := []) (As := [.int (0 : Int32)]) (L0 := [some (.ref 0), some (.int (0 : Int32))]) okX6_finding ovX6_finding mlX6_68 clX6 so0 rfl rfl (Nat.le_of_ble_eq_true rfl) dX6_shut_11 rfl (Nat.le_of_ble_eq_true rfl) (jX6_finding (X := X) (d + 3) s (0 : Int32) hy7) ?_
    obtain rfl := Option.some.inj hh
    obtain ⟨rfl, rfl⟩ := hk
    exact J_ret (w := some (.int y7.1)) ⟨dX6_shut_14, _, rfl, rfl⟩
theorem jX6_shut {X : Scr} (d : Nat) (s : Mem) (p0 : Int32) (p1 : Int32) (p2 : Int32) {r : (Int32 × Mem)} (hh : fX6_shut s p0 p1 p2 = some r) : J X MX6_shut (d + 5) 0 [some (.ref 0), some (.int p0), some (.int p1), some (.int p2)] [] s (some (.int r.1)) r.2 := jjX6_shut d s p0 p1 p2 hh ⟨rfl, rfl⟩
theorem dX6_of_0 : decode cX6_of 0 = .ok (.iload_n 1, 1) := by decide +kernel
theorem dX6_of_1 : decode cX6_of 1 = .ok (.iload_n 2, 1) := by decide +kernel
theorem dX6_of_2 : decode cX6_of 2 = .ok (.iload_n 3, 1) := by decide +kernel
theorem dX6_of_3 : decode cX6_of 3 = .ok (.invokestatic 52, 3) := by decide +kernel
theorem dX6_of_6 : decode cX6_of 6 = .ok (.ifCond .eq 16, 3) := by decide +kernel
theorem dX6_of_9 : decode cX6_of 9 = .ok (.iload 4, 2) := by decide +kernel
theorem dX6_of_11 : decode cX6_of 11 = .ok (.i2l, 1) := by decide +kernel
theorem dX6_of_12 : decode cX6_of 12 = .ok (.lconst 0, 1) := by decide +kernel
theorem dX6_of_13 : decode cX6_of 13 = .ok (.ldc2_w 99, 3) := by decide +kernel
theorem dX6_of_16 : decode cX6_of 16 = .ok (.invokestatic 62, 3) := by decide +kernel
theorem dX6_of_19 : decode cX6_of 19 = .ok (.ifCond .ne 9, 3) := by decide +kernel
theorem dX6_of_22 : decode cX6_of 22 = .ok (.aload_n 0, 1) := by decide +kernel
theorem dX6_of_23 : decode cX6_of 23 = .ok (.iconst 0, 1) := by decide +kernel
theorem dX6_of_24 : decode cX6_of 24 = .ok (.invokevirtual 68, 3) := by decide +kernel
theorem dX6_of_27 : decode cX6_of 27 = .ok (.ireturn, 1) := by decide +kernel
theorem dX6_of_28 : decode cX6_of 28 = .ok (.aload_n 0, 1) := by decide +kernel
theorem dX6_of_29 : decode cX6_of 29 = .ok (.getfield 10, 3) := by decide +kernel
theorem dX6_of_32 : decode cX6_of 32 = .ok (.iload_n 1, 1) := by decide +kernel
theorem dX6_of_33 : decode cX6_of 33 = .ok (.iload_n 2, 1) := by decide +kernel
theorem dX6_of_34 : decode cX6_of 34 = .ok (.iload_n 3, 1) := by decide +kernel
theorem dX6_of_35 : decode cX6_of 35 = .ok (.invokevirtual 89, 3) := by decide +kernel
theorem dX6_of_38 : decode cX6_of 38 = .ok (.istore 5, 2) := by decide +kernel
theorem dX6_of_40 : decode cX6_of 40 = .ok (.iload 4, 2) := by decide +kernel
theorem dX6_of_42 : decode cX6_of 42 = .ok (.ifCond .ne 14, 3) := by decide +kernel
theorem dX6_of_45 : decode cX6_of 45 = .ok (.iload 5, 2) := by decide +kernel
theorem dX6_of_47 : decode cX6_of 47 = .ok (.ifCond .eq 7, 3) := by decide +kernel
theorem dX6_of_50 : decode cX6_of 50 = .ok (.iconst 1, 1) := by decide +kernel
theorem dX6_of_51 : decode cX6_of 51 = .ok (.goto 4, 3) := by decide +kernel
theorem dX6_of_54 : decode cX6_of 54 = .ok (.iconst 0, 1) := by decide +kernel
theorem dX6_of_55 : decode cX6_of 55 = .ok (.ireturn, 1) := by decide +kernel
theorem dX6_of_56 : decode cX6_of 56 = .ok (.iload 5, 2) := by decide +kernel
theorem dX6_of_58 : decode cX6_of 58 = .ok (.ifCond .ne 9, 3) := by decide +kernel
theorem dX6_of_61 : decode cX6_of 61 = .ok (.aload_n 0, 1) := by decide +kernel
theorem dX6_of_62 : decode cX6_of 62 = .ok (.iconst 3, 1) := by decide +kernel
theorem dX6_of_63 : decode cX6_of 63 = .ok (.invokevirtual 68, 3) := by decide +kernel
theorem dX6_of_66 : decode cX6_of 66 = .ok (.ireturn, 1) := by decide +kernel
theorem dX6_of_67 : decode cX6_of 67 = .ok (.iload 4, 2) := by decide +kernel
theorem dX6_of_69 : decode cX6_of 69 = .ok (.iconst 3, 1) := by decide +kernel
theorem dX6_of_70 : decode cX6_of 70 = .ok (.if_icmp .gt 16, 3) := by decide +kernel
theorem dX6_of_73 : decode cX6_of 73 = .ok (.aload_n 0, 1) := by decide +kernel
theorem dX6_of_74 : decode cX6_of 74 = .ok (.getfield 10, 3) := by decide +kernel
theorem dX6_of_77 : decode cX6_of 77 = .ok (.iload_n 1, 1) := by decide +kernel
theorem dX6_of_78 : decode cX6_of 78 = .ok (.iload_n 2, 1) := by decide +kernel
theorem dX6_of_79 : decode cX6_of 79 = .ok (.iload_n 3, 1) := by decide +kernel
theorem dX6_of_80 : decode cX6_of 80 = .ok (.iload 4, 2) := by decide +kernel
theorem dX6_of_82 : decode cX6_of 82 = .ok (.invokevirtual 101, 3) := by decide +kernel
theorem dX6_of_85 : decode cX6_of 85 = .ok (.ireturn, 1) := by decide +kernel
theorem dX6_of_86 : decode cX6_of 86 = .ok (.aload_n 0, 1) := by decide +kernel
theorem dX6_of_87 : decode cX6_of 87 = .ok (.getfield 10, 3) := by decide +kernel
theorem dX6_of_90 : decode cX6_of 90 = .ok (.iload_n 1, 1) := by decide +kernel
theorem dX6_of_91 : decode cX6_of 91 = .ok (.iload_n 2, 1) := by decide +kernel
theorem dX6_of_92 : decode cX6_of 92 = .ok (.iload_n 3, 1) := by decide +kernel
theorem dX6_of_93 : decode cX6_of 93 = .ok (.iconst (-1), 1) := by decide +kernel
theorem dX6_of_94 : decode cX6_of 94 = .ok (.invokevirtual 105, 3) := by decide +kernel
theorem dX6_of_97 : decode cX6_of 97 = .ok (.istore 6, 2) := by decide +kernel
theorem dX6_of_99 : decode cX6_of 99 = .ok (.iload 4, 2) := by decide +kernel
theorem dX6_of_101 : decode cX6_of 101 = .ok (.iconst 4, 1) := by decide +kernel
theorem dX6_of_102 : decode cX6_of 102 = .ok (.if_icmp .ne 8, 3) := by decide +kernel
theorem dX6_of_105 : decode cX6_of 105 = .ok (.iload 6, 2) := by decide +kernel
theorem dX6_of_107 : decode cX6_of 107 = .ok (.goto 17, 3) := by decide +kernel
theorem dX6_of_110 : decode cX6_of 110 = .ok (.aload_n 0, 1) := by decide +kernel
theorem dX6_of_111 : decode cX6_of 111 = .ok (.getfield 10, 3) := by decide +kernel
theorem dX6_of_114 : decode cX6_of 114 = .ok (.iload_n 1, 1) := by decide +kernel
theorem dX6_of_115 : decode cX6_of 115 = .ok (.iload_n 2, 1) := by decide +kernel
theorem dX6_of_116 : decode cX6_of 116 = .ok (.iload_n 3, 1) := by decide +kernel
theorem dX6_of_117 : decode cX6_of 117 = .ok (.iconst 2, 1) := by decide +kernel
theorem dX6_of_118 : decode cX6_of 118 = .ok (.invokevirtual 101, 3) := by decide +kernel
theorem dX6_of_121 : decode cX6_of 121 = .ok (.iload 6, 2) := by decide +kernel
theorem dX6_of_123 : decode cX6_of 123 = .ok (.isub, 1) := by decide +kernel
theorem dX6_of_124 : decode cX6_of 124 = .ok (.ireturn, 1) := by decide +kernel
def gX6_of_22 (s : Mem)  : Option (Int32 × Mem) :=
  (fX6_finding s (0 : Int32)).bind (fun y2 => some ((y2.1, y2.2)))
set_option maxRecDepth 4000 in
theorem jgX6_of_22 {X : Scr} (d : Nat) (s : Mem)  {r : (Int32 × Mem)} {w : Option Value} {s' : Mem} (hh : gX6_of_22 s = some r) (hk : w = some (.int r.1) ∧ r.2 = s') : J X MX6_of (d + 3) 22 [some (.ref 0), none, none, none, none, none, none] [] s w s' := by
  unfold gX6_of_22 at hh
  refine J_aload_n (pc := 22) dX6_of_22 rfl ?_
  refine J_iconst (pc := 23) dX6_of_23 ci_0 ?_
  obtain ⟨y2, hy2, hh⟩ := bd_some hh
  refine J_callVi (pc := 24) (M' := MX6_finding) (a := 0) (rest := []) (As := [.int (0 : Int32)]) (L0 := [some (.ref 0), some (.int (0 : Int32))]) okX6_finding ovX6_finding mlX6_68 clX6 so0 rfl rfl (Nat.le_of_ble_eq_true rfl) dX6_of_24 rfl (Nat.le_of_ble_eq_true rfl) (jX6_finding (X := X) (d + 1) s (0 : Int32) hy2) ?_
  obtain rfl := Option.some.inj hh
  obtain ⟨rfl, rfl⟩ := hk
  exact J_ret (w := some (.int y2.1)) ⟨dX6_of_27, _, rfl, rfl⟩
def fX6_of (s : Mem) (p0 : Int32) (p1 : Int32) (p2 : Int32) (p3 : Int32) : Option (Int32 × Mem) :=
  (fX6_isSection p0 p1 p2).bind (fun y1 => if y1 = (0 : Int32) then gX6_of_22 s else (fX6_within (p3.toInt64) (0 : Int64) (5 : Int64)).bind (fun y3 => if y3 = (0 : Int32) then gX6_of_22 s else (fX0_isOpen s p0 p1 p2).bind (fun y4 => if p3 = (0 : Int32) then if y4 = (0 : Int32) then some (((0 : Int32), s)) else some (((1 : Int32), s)) else if y4 = (0 : Int32) then (fX6_finding s (3 : Int32)).bind (fun y10 => some ((y10.1, y10.2))) else if (3 : Int32) < p3 then (fX0_taken s p0 p1 p2 (-1 : Int32)).bind (fun y5 => if p3 = (4 : Int32) then some ((y5, s)) else (fX0_ofSection s p0 p1 p2 (2 : Int32)).bind (fun y6 => some ((y6 - y5, s)))) else (fX0_ofSection s p0 p1 p2 p3).bind (fun y8 => some ((y8, s))))))
set_option maxRecDepth 4000 in
theorem jjX6_of {X : Scr} (d : Nat) (s : Mem) (p0 : Int32) (p1 : Int32) (p2 : Int32) (p3 : Int32) {r : (Int32 × Mem)} {w : Option Value} {s' : Mem} (hh : fX6_of s p0 p1 p2 p3 = some r) (hk : w = some (.int r.1) ∧ r.2 = s') : J X MX6_of (d + 3) 0 [some (.ref 0), some (.int p0), some (.int p1), some (.int p2), some (.int p3), none, none] [] s w s' := by
  unfold fX6_of at hh
  refine J_iload_n (pc := 0) dX6_of_0 rfl ?_
  refine J_iload_n (pc := 1) dX6_of_1 rfl ?_
  refine J_iload_n (pc := 2) dX6_of_2 rfl ?_
  obtain ⟨y1, hy1, hh⟩ := bd_some hh
  refine J_callSi (pc := 3) (M' := MX6_isSection) (rest := []) (As := [.int p0, .int p1, .int p2]) (L0 := [some (.int p0), some (.int p1), some (.int p2)]) okX6_isSection osX6_isSection mlX6_52 rfl rfl (Nat.le_of_ble_eq_true rfl) dX6_of_3 rfl (Nat.le_of_ble_eq_true rfl) (jX6_isSection (X := X) d s p0 p1 p2 hy1) ?_
  refine J_if_eq (pc := 6) 22 dX6_of_6 (by decide) (fun c15 => ?_) (fun c15 => ?_)
  · replace hh := (if_pos c15).symm.trans hh
    refine J_drop 1 (L' := [some (.ref 0), none, some (.int p1), some (.int p2), some (.int p3), none, none]) rfl ?_
    refine J_drop 2 (L' := [some (.ref 0), none, none, some (.int p2), some (.int p3), none, none]) rfl ?_
    refine J_drop 3 (L' := [some (.ref 0), none, none, none, some (.int p3), none, none]) rfl ?_
    refine J_drop 4 (L' := [some (.ref 0), none, none, none, none, none, none]) rfl ?_
    exact jgX6_of_22 d s hh hk
  · replace hh := (if_neg c15).symm.trans hh
    refine J_iload (pc := 9) dX6_of_9 rfl ?_
    refine J_i2l (pc := 11) dX6_of_11 ?_
    refine J_lconst (pc := 12) (v := 0) dX6_of_12 rfl ?_
    refine J_ldc2 (pc := 13) klX6_99 dX6_of_13 ?_
    obtain ⟨y3, hy3, hh⟩ := bd_some hh
    refine J_callSi (pc := 16) (M' := MX6_within) (rest := []) (As := [.long (p3.toInt64), .long (0 : Int64), .long (5 : Int64)]) (L0 := [some (.long (p3.toInt64)), none, some (.long (0 : Int64)), none, some (.long (5 : Int64)), none]) okX6_within osX6_within mlX6_62 rfl rfl (Nat.le_of_ble_eq_true rfl) dX6_of_16 rfl (Nat.le_of_ble_eq_true rfl) (jX6_within (X := X) (d + 2) s (p3.toInt64) (0 : Int64) (5 : Int64) hy3) ?_
    refine J_if_ne (pc := 19) 28 dX6_of_19 (by decide) (fun c14 => ?_) (fun c14 => ?_)
    · replace hh := (if_neg c14).symm.trans hh
      refine J_aload_n (pc := 28) dX6_of_28 rfl ?_
      refine J_getR (pc := 29) (k := 0) flX6_10 so0 fk0_0 dX6_of_29 ?_
      refine J_iload_n (pc := 32) dX6_of_32 rfl ?_
      refine J_iload_n (pc := 33) dX6_of_33 rfl ?_
      refine J_iload_n (pc := 34) dX6_of_34 rfl ?_
      obtain ⟨y4, hy4, hh⟩ := bd_some hh
      refine J_callVi (pc := 35) (M' := MX0_isOpen) (a := 1) (rest := []) (As := [.int p0, .int p1, .int p2]) (L0 := [some (.ref 1), some (.int p0), some (.int p1), some (.int p2)]) okX0_isOpen ovX0_isOpen mlX6_89 clX0 so1 rfl rfl (Nat.le_of_ble_eq_true rfl) dX6_of_35 rfl (Nat.le_of_ble_eq_true rfl) (jX0_isOpen (X := X) (d + 2) s p0 p1 p2 hy4) ?_
      refine J_istore (pc := 38) (L' := [some (.ref 0), some (.int p0), some (.int p1), some (.int p2), some (.int p3), some (.int y4), none]) dX6_of_38 rfl (Nat.le_of_ble_eq_true rfl) rfl ?_
      refine J_iload (pc := 40) dX6_of_40 rfl ?_
      refine J_if_ne (pc := 42) 56 dX6_of_42 (by decide) (fun c13 => ?_) (fun c13 => ?_)
      · replace hh := (if_neg c13).symm.trans hh
        refine J_iload (pc := 56) dX6_of_56 rfl ?_
        refine J_if_ne (pc := 58) 67 dX6_of_58 (by decide) (fun c11 => ?_) (fun c11 => ?_)
        · replace hh := (if_neg c11).symm.trans hh
          refine J_iload (pc := 67) dX6_of_67 rfl ?_
          refine J_iconst (pc := 69) dX6_of_69 ci_3 ?_
          refine J_icmp_gt (pc := 70) 86 dX6_of_70 (by decide) (fun c9 => ?_) (fun c9 => ?_)
          · replace hh := (if_pos c9).symm.trans hh
            refine J_aload_n (pc := 86) dX6_of_86 rfl ?_
            refine J_getR (pc := 87) (k := 0) flX6_10 so0 fk0_0 dX6_of_87 ?_
            refine J_iload_n (pc := 90) dX6_of_90 rfl ?_
            refine J_iload_n (pc := 91) dX6_of_91 rfl ?_
            refine J_iload_n (pc := 92) dX6_of_92 rfl ?_
            refine J_iconst (pc := 93) dX6_of_93 ci_m1 ?_
            obtain ⟨y5, hy5, hh⟩ := bd_some hh
            refine J_callVi (pc := 94) (M' := MX0_taken) (a := 1) (rest := []) (As := [.int p0, .int p1, .int p2, .int (-1 : Int32)]) (L0 := [some (.ref 1), some (.int p0), some (.int p1), some (.int p2), some (.int (-1 : Int32)), none, none, none]) okX0_taken ovX0_taken mlX6_105 clX0 so1 rfl rfl (Nat.le_of_ble_eq_true rfl) dX6_of_94 rfl (Nat.le_of_ble_eq_true rfl) (jX0_taken (X := X) (d + 2) s p0 p1 p2 (-1 : Int32) hy5) ?_
            refine J_istore (pc := 97) (L' := [some (.ref 0), some (.int p0), some (.int p1), some (.int p2), some (.int p3), some (.int y4), some (.int y5)]) dX6_of_97 rfl (Nat.le_of_ble_eq_true rfl) rfl ?_
            refine J_iload (pc := 99) dX6_of_99 rfl ?_
            refine J_iconst (pc := 101) dX6_of_101 ci_4 ?_
            refine J_icmp_ne (pc := 102) 110 dX6_of_102 (by decide) (fun c7 => ?_) (fun c7 => ?_)
            · replace hh := (if_neg c7).symm.trans hh
              refine J_aload_n (pc := 110) dX6_of_110 rfl ?_
              refine J_getR (pc := 111) (k := 0) flX6_10 so0 fk0_0 dX6_of_111 ?_
              refine J_iload_n (pc := 114) dX6_of_114 rfl ?_
              refine J_iload_n (pc := 115) dX6_of_115 rfl ?_
              refine J_iload_n (pc := 116) dX6_of_116 rfl ?_
              refine J_iconst (pc := 117) dX6_of_117 ci_2 ?_
              obtain ⟨y6, hy6, hh⟩ := bd_some hh
              refine J_callVi (pc := 118) (M' := MX0_ofSection) (a := 1) (rest := []) (As := [.int p0, .int p1, .int p2, .int (2 : Int32)]) (L0 := [some (.ref 1), some (.int p0), some (.int p1), some (.int p2), some (.int (2 : Int32))]) okX0_ofSection ovX0_ofSection mlX6_101 clX0 so1 rfl rfl (Nat.le_of_ble_eq_true rfl) dX6_of_118 rfl (Nat.le_of_ble_eq_true rfl) (jX0_ofSection (X := X) (d + 2) s p0 p1 p2 (2 : Int32) hy6) ?_
              refine J_iload (pc := 121) dX6_of_121 rfl ?_
              refine J_isub (pc := 123) dX6_of_123 ?_
              obtain rfl := Option.some.inj hh
              obtain ⟨rfl, rfl⟩ := hk
              exact J_ret (w := some (.int (y6 - y5))) ⟨dX6_of_124, _, rfl, rfl⟩
            · replace hh := (if_pos c7).symm.trans hh
              refine J_iload (pc := 105) dX6_of_105 rfl ?_
              refine J_goto (pc := 107) 124 dX6_of_107 (by decide) ?_
              obtain rfl := Option.some.inj hh
              obtain ⟨rfl, rfl⟩ := hk
              exact J_ret (w := some (.int y5)) ⟨dX6_of_124, _, rfl, rfl⟩
          · replace hh := (if_neg c9).symm.trans hh
            refine J_aload_n (pc := 73) dX6_of_73 rfl ?_
            refine J_getR (pc := 74) (k := 0) flX6_10 so0 fk0_0 dX6_of_74 ?_
            refine J_iload_n (pc := 77) dX6_of_77 rfl ?_
            refine J_iload_n (pc := 78) dX6_of_78 rfl ?_
            refine J_iload_n (pc := 79) dX6_of_79 rfl ?_
            refine J_iload (pc := 80) dX6_of_80 rfl ?_
            obtain ⟨y8, hy8, hh⟩ := bd_some hh
            refine J_callVi (pc := 82) (M' := MX0_ofSection) (a := 1) (rest := []) (As := [.int p0, .int p1, .int p2, .int p3]) (L0 := [some (.ref 1), some (.int p0), some (.int p1), some (.int p2), some (.int p3)]) okX0_ofSection ovX0_ofSection mlX6_101 clX0 so1 rfl rfl (Nat.le_of_ble_eq_true rfl) dX6_of_82 rfl (Nat.le_of_ble_eq_true rfl) (jX0_ofSection (X := X) (d + 2) s p0 p1 p2 p3 hy8) ?_
            obtain rfl := Option.some.inj hh
            obtain ⟨rfl, rfl⟩ := hk
            exact J_ret (w := some (.int y8)) ⟨dX6_of_85, _, rfl, rfl⟩
        · replace hh := (if_pos c11).symm.trans hh
          refine J_aload_n (pc := 61) dX6_of_61 rfl ?_
          refine J_iconst (pc := 62) dX6_of_62 ci_3 ?_
          obtain ⟨y10, hy10, hh⟩ := bd_some hh
          refine J_callVi (pc := 63) (M' := MX6_finding) (a := 0) (rest := []) (As := [.int (3 : Int32)]) (L0 := [some (.ref 0), some (.int (3 : Int32))]) okX6_finding ovX6_finding mlX6_68 clX6 so0 rfl rfl (Nat.le_of_ble_eq_true rfl) dX6_of_63 rfl (Nat.le_of_ble_eq_true rfl) (jX6_finding (X := X) (d + 1) s (3 : Int32) hy10) ?_
          obtain rfl := Option.some.inj hh
          obtain ⟨rfl, rfl⟩ := hk
          exact J_ret (w := some (.int y10.1)) ⟨dX6_of_66, _, rfl, rfl⟩
      · replace hh := (if_pos c13).symm.trans hh
        refine J_iload (pc := 45) dX6_of_45 rfl ?_
        refine J_if_eq (pc := 47) 54 dX6_of_47 (by decide) (fun c12 => ?_) (fun c12 => ?_)
        · replace hh := (if_pos c12).symm.trans hh
          refine J_iconst (pc := 54) dX6_of_54 ci_0 ?_
          obtain rfl := Option.some.inj hh
          obtain ⟨rfl, rfl⟩ := hk
          exact J_ret (w := some (.int (0 : Int32))) ⟨dX6_of_55, _, rfl, rfl⟩
        · replace hh := (if_neg c12).symm.trans hh
          refine J_iconst (pc := 50) dX6_of_50 ci_1 ?_
          refine J_goto (pc := 51) 55 dX6_of_51 (by decide) ?_
          obtain rfl := Option.some.inj hh
          obtain ⟨rfl, rfl⟩ := hk
          exact J_ret (w := some (.int (1 : Int32))) ⟨dX6_of_55, _, rfl, rfl⟩
    · replace hh := (if_pos c14).symm.trans hh
      refine J_drop 1 (L' := [some (.ref 0), none, some (.int p1), some (.int p2), some (.int p3), none, none]) rfl ?_
      refine J_drop 2 (L' := [some (.ref 0), none, none, some (.int p2), some (.int p3), none, none]) rfl ?_
      refine J_drop 3 (L' := [some (.ref 0), none, none, none, some (.int p3), none, none]) rfl ?_
      refine J_drop 4 (L' := [some (.ref 0), none, none, none, none, none, none]) rfl ?_
      exact jgX6_of_22 d s hh hk
theorem jX6_of {X : Scr} (d : Nat) (s : Mem) (p0 : Int32) (p1 : Int32) (p2 : Int32) (p3 : Int32) {r : (Int32 × Mem)} (hh : fX6_of s p0 p1 p2 p3 = some r) : J X MX6_of (d + 3) 0 [some (.ref 0), some (.int p0), some (.int p1), some (.int p2), some (.int p3), none, none] [] s (some (.int r.1)) r.2 := jjX6_of d s p0 p1 p2 p3 hh ⟨rfl, rfl⟩
theorem dX6_triples_0 : decode cX6_triples 0 = .ok (.iload_n 1, 1) := by decide +kernel
theorem dX6_triples_1 : decode cX6_triples 1 = .ok (.invokestatic 108, 3) := by decide +kernel
theorem dX6_triples_4 : decode cX6_triples 4 = .ok (.ifCond .ne 9, 3) := by decide +kernel
theorem dX6_triples_7 : decode cX6_triples 7 = .ok (.aload_n 0, 1) := by decide +kernel
theorem dX6_triples_8 : decode cX6_triples 8 = .ok (.iconst 0, 1) := by decide +kernel
theorem dX6_triples_9 : decode cX6_triples 9 = .ok (.invokevirtual 68, 3) := by decide +kernel
theorem dX6_triples_12 : decode cX6_triples 12 = .ok (.ireturn, 1) := by decide +kernel
theorem dX6_triples_13 : decode cX6_triples 13 = .ok (.aload_n 0, 1) := by decide +kernel
theorem dX6_triples_14 : decode cX6_triples 14 = .ok (.getfield 10, 3) := by decide +kernel
theorem dX6_triples_17 : decode cX6_triples 17 = .ok (.iload_n 1, 1) := by decide +kernel
theorem dX6_triples_18 : decode cX6_triples 18 = .ok (.invokevirtual 86, 3) := by decide +kernel
theorem dX6_triples_21 : decode cX6_triples 21 = .ok (.ireturn, 1) := by decide +kernel
def fX6_triples (s : Mem) (p0 : Int32) : Option (Int32 × Mem) :=
  (fX6_isCourse p0).bind (fun y1 => if y1 = (0 : Int32) then (fX6_finding s (0 : Int32)).bind (fun y3 => some ((y3.1, y3.2))) else (fX0_lawfulSet s p0).bind (fun y2 => some ((y2, s))))
set_option maxRecDepth 4000 in
theorem jjX6_triples {X : Scr} (d : Nat) (s : Mem) (p0 : Int32) {r : (Int32 × Mem)} {w : Option Value} {s' : Mem} (hh : fX6_triples s p0 = some r) (hk : w = some (.int r.1) ∧ r.2 = s') : J X MX6_triples (d + 2) 0 [some (.ref 0), some (.int p0)] [] s w s' := by
  unfold fX6_triples at hh
  refine J_iload_n (pc := 0) dX6_triples_0 rfl ?_
  obtain ⟨y1, hy1, hh⟩ := bd_some hh
  refine J_callSi (pc := 1) (M' := MX6_isCourse) (rest := []) (As := [.int p0]) (L0 := [some (.int p0)]) okX6_isCourse osX6_isCourse mlX6_108 rfl rfl (Nat.le_of_ble_eq_true rfl) dX6_triples_1 rfl (Nat.le_of_ble_eq_true rfl) (jX6_isCourse (X := X) d s p0 hy1) ?_
  refine J_if_ne (pc := 4) 13 dX6_triples_4 (by decide) (fun c4 => ?_) (fun c4 => ?_)
  · replace hh := (if_neg c4).symm.trans hh
    refine J_aload_n (pc := 13) dX6_triples_13 rfl ?_
    refine J_getR (pc := 14) (k := 0) flX6_10 so0 fk0_0 dX6_triples_14 ?_
    refine J_iload_n (pc := 17) dX6_triples_17 rfl ?_
    obtain ⟨y2, hy2, hh⟩ := bd_some hh
    refine J_callVi (pc := 18) (M' := MX0_lawfulSet) (a := 1) (rest := []) (As := [.int p0]) (L0 := [some (.ref 1), some (.int p0), none, none]) okX0_lawfulSet ovX0_lawfulSet mlX6_86 clX0 so1 rfl rfl (Nat.le_of_ble_eq_true rfl) dX6_triples_18 rfl (Nat.le_of_ble_eq_true rfl) (jX0_lawfulSet (X := X) d s p0 hy2) ?_
    obtain rfl := Option.some.inj hh
    obtain ⟨rfl, rfl⟩ := hk
    exact J_ret (w := some (.int y2)) ⟨dX6_triples_21, _, rfl, rfl⟩
  · replace hh := (if_pos c4).symm.trans hh
    refine J_aload_n (pc := 7) dX6_triples_7 rfl ?_
    refine J_iconst (pc := 8) dX6_triples_8 ci_0 ?_
    obtain ⟨y3, hy3, hh⟩ := bd_some hh
    refine J_callVi (pc := 9) (M' := MX6_finding) (a := 0) (rest := []) (As := [.int (0 : Int32)]) (L0 := [some (.ref 0), some (.int (0 : Int32))]) okX6_finding ovX6_finding mlX6_68 clX6 so0 rfl rfl (Nat.le_of_ble_eq_true rfl) dX6_triples_9 rfl (Nat.le_of_ble_eq_true rfl) (jX6_finding (X := X) d s (0 : Int32) hy3) ?_
    obtain rfl := Option.some.inj hh
    obtain ⟨rfl, rfl⟩ := hk
    exact J_ret (w := some (.int y3.1)) ⟨dX6_triples_12, _, rfl, rfl⟩
theorem jX6_triples {X : Scr} (d : Nat) (s : Mem) (p0 : Int32) {r : (Int32 × Mem)} (hh : fX6_triples s p0 = some r) : J X MX6_triples (d + 2) 0 [some (.ref 0), some (.int p0)] [] s (some (.int r.1)) r.2 := jjX6_triples d s p0 hh ⟨rfl, rfl⟩
theorem dX6_time_0 : decode cX6_time 0 = .ok (.iload_n 1, 1) := by decide +kernel
theorem dX6_time_1 : decode cX6_time 1 = .ok (.invokestatic 108, 3) := by decide +kernel
theorem dX6_time_4 : decode cX6_time 4 = .ok (.ifCond .eq 15, 3) := by decide +kernel
theorem dX6_time_7 : decode cX6_time 7 = .ok (.iload_n 2, 1) := by decide +kernel
theorem dX6_time_8 : decode cX6_time 8 = .ok (.i2l, 1) := by decide +kernel
theorem dX6_time_9 : decode cX6_time 9 = .ok (.lconst 0, 1) := by decide +kernel
theorem dX6_time_10 : decode cX6_time 10 = .ok (.ldc2_w 111, 3) := by decide +kernel
theorem dX6_time_13 : decode cX6_time 13 = .ok (.invokestatic 62, 3) := by decide +kernel
theorem dX6_time_16 : decode cX6_time 16 = .ok (.ifCond .ne 9, 3) := by decide +kernel
theorem dX6_time_19 : decode cX6_time 19 = .ok (.aload_n 0, 1) := by decide +kernel
theorem dX6_time_20 : decode cX6_time 20 = .ok (.iconst 0, 1) := by decide +kernel
theorem dX6_time_21 : decode cX6_time 21 = .ok (.invokevirtual 68, 3) := by decide +kernel
theorem dX6_time_24 : decode cX6_time 24 = .ok (.ireturn, 1) := by decide +kernel
theorem dX6_time_25 : decode cX6_time 25 = .ok (.aload_n 0, 1) := by decide +kernel
theorem dX6_time_26 : decode cX6_time 26 = .ok (.getfield 10, 3) := by decide +kernel
theorem dX6_time_29 : decode cX6_time 29 = .ok (.iload_n 1, 1) := by decide +kernel
theorem dX6_time_30 : decode cX6_time 30 = .ok (.iload_n 2, 1) := by decide +kernel
theorem dX6_time_31 : decode cX6_time 31 = .ok (.invokevirtual 113, 3) := by decide +kernel
theorem dX6_time_34 : decode cX6_time 34 = .ok (.istore_n 3, 1) := by decide +kernel
theorem dX6_time_35 : decode cX6_time 35 = .ok (.iload_n 3, 1) := by decide +kernel
theorem dX6_time_36 : decode cX6_time 36 = .ok (.ifCond .ge 11, 3) := by decide +kernel
theorem dX6_time_39 : decode cX6_time 39 = .ok (.aload_n 0, 1) := by decide +kernel
theorem dX6_time_40 : decode cX6_time 40 = .ok (.iconst 3, 1) := by decide +kernel
theorem dX6_time_41 : decode cX6_time 41 = .ok (.invokevirtual 68, 3) := by decide +kernel
theorem dX6_time_44 : decode cX6_time 44 = .ok (.goto 4, 3) := by decide +kernel
theorem dX6_time_47 : decode cX6_time 47 = .ok (.iload_n 3, 1) := by decide +kernel
theorem dX6_time_48 : decode cX6_time 48 = .ok (.ireturn, 1) := by decide +kernel
def gX6_time_19 (s : Mem)  : Option (Int32 × Mem) :=
  (fX6_finding s (0 : Int32)).bind (fun y2 => some ((y2.1, y2.2)))
set_option maxRecDepth 4000 in
theorem jgX6_time_19 {X : Scr} (d : Nat) (s : Mem)  {r : (Int32 × Mem)} {w : Option Value} {s' : Mem} (hh : gX6_time_19 s = some r) (hk : w = some (.int r.1) ∧ r.2 = s') : J X MX6_time (d + 2) 19 [some (.ref 0), none, none, none] [] s w s' := by
  unfold gX6_time_19 at hh
  refine J_aload_n (pc := 19) dX6_time_19 rfl ?_
  refine J_iconst (pc := 20) dX6_time_20 ci_0 ?_
  obtain ⟨y2, hy2, hh⟩ := bd_some hh
  refine J_callVi (pc := 21) (M' := MX6_finding) (a := 0) (rest := []) (As := [.int (0 : Int32)]) (L0 := [some (.ref 0), some (.int (0 : Int32))]) okX6_finding ovX6_finding mlX6_68 clX6 so0 rfl rfl (Nat.le_of_ble_eq_true rfl) dX6_time_21 rfl (Nat.le_of_ble_eq_true rfl) (jX6_finding (X := X) d s (0 : Int32) hy2) ?_
  obtain rfl := Option.some.inj hh
  obtain ⟨rfl, rfl⟩ := hk
  exact J_ret (w := some (.int y2.1)) ⟨dX6_time_24, _, rfl, rfl⟩
def fX6_time (s : Mem) (p0 : Int32) (p1 : Int32) : Option (Int32 × Mem) :=
  (fX6_isCourse p0).bind (fun y1 => if y1 = (0 : Int32) then gX6_time_19 s else (fX6_within (p1.toInt64) (0 : Int64) (7 : Int64)).bind (fun y3 => if y3 = (0 : Int32) then gX6_time_19 s else (fX0_hoursOf s p0 p1).bind (fun y4 => if (0 : Int32) ≤ y4 then some ((y4, s)) else (fX6_finding s (3 : Int32)).bind (fun y5 => some ((y5.1, y5.2))))))
set_option maxRecDepth 4000 in
theorem jjX6_time {X : Scr} (d : Nat) (s : Mem) (p0 : Int32) (p1 : Int32) {r : (Int32 × Mem)} {w : Option Value} {s' : Mem} (hh : fX6_time s p0 p1 = some r) (hk : w = some (.int r.1) ∧ r.2 = s') : J X MX6_time (d + 2) 0 [some (.ref 0), some (.int p0), some (.int p1), none] [] s w s' := by
  unfold fX6_time at hh
  refine J_iload_n (pc := 0) dX6_time_0 rfl ?_
  obtain ⟨y1, hy1, hh⟩ := bd_some hh
  refine J_callSi (pc := 1) (M' := MX6_isCourse) (rest := []) (As := [.int p0]) (L0 := [some (.int p0)]) okX6_isCourse osX6_isCourse mlX6_108 rfl rfl (Nat.le_of_ble_eq_true rfl) dX6_time_1 rfl (Nat.le_of_ble_eq_true rfl) (jX6_isCourse (X := X) d s p0 hy1) ?_
  refine J_if_eq (pc := 4) 19 dX6_time_4 (by decide) (fun c8 => ?_) (fun c8 => ?_)
  · replace hh := (if_pos c8).symm.trans hh
    refine J_drop 1 (L' := [some (.ref 0), none, some (.int p1), none]) rfl ?_
    refine J_drop 2 (L' := [some (.ref 0), none, none, none]) rfl ?_
    exact jgX6_time_19 d s hh hk
  · replace hh := (if_neg c8).symm.trans hh
    refine J_iload_n (pc := 7) dX6_time_7 rfl ?_
    refine J_i2l (pc := 8) dX6_time_8 ?_
    refine J_lconst (pc := 9) (v := 0) dX6_time_9 rfl ?_
    refine J_ldc2 (pc := 10) klX6_111 dX6_time_10 ?_
    obtain ⟨y3, hy3, hh⟩ := bd_some hh
    refine J_callSi (pc := 13) (M' := MX6_within) (rest := []) (As := [.long (p1.toInt64), .long (0 : Int64), .long (7 : Int64)]) (L0 := [some (.long (p1.toInt64)), none, some (.long (0 : Int64)), none, some (.long (7 : Int64)), none]) okX6_within osX6_within mlX6_62 rfl rfl (Nat.le_of_ble_eq_true rfl) dX6_time_13 rfl (Nat.le_of_ble_eq_true rfl) (jX6_within (X := X) (d + 1) s (p1.toInt64) (0 : Int64) (7 : Int64) hy3) ?_
    refine J_if_ne (pc := 16) 25 dX6_time_16 (by decide) (fun c7 => ?_) (fun c7 => ?_)
    · replace hh := (if_neg c7).symm.trans hh
      refine J_aload_n (pc := 25) dX6_time_25 rfl ?_
      refine J_getR (pc := 26) (k := 0) flX6_10 so0 fk0_0 dX6_time_26 ?_
      refine J_iload_n (pc := 29) dX6_time_29 rfl ?_
      refine J_iload_n (pc := 30) dX6_time_30 rfl ?_
      obtain ⟨y4, hy4, hh⟩ := bd_some hh
      refine J_callVi (pc := 31) (M' := MX0_hoursOf) (a := 1) (rest := []) (As := [.int p0, .int p1]) (L0 := [some (.ref 1), some (.int p0), some (.int p1)]) okX0_hoursOf ovX0_hoursOf mlX6_113 clX0 so1 rfl rfl (Nat.le_of_ble_eq_true rfl) dX6_time_31 rfl (Nat.le_of_ble_eq_true rfl) (jX0_hoursOf (X := X) (d + 1) s p0 p1 hy4) ?_
      refine J_istore_n (pc := 34) (L' := [some (.ref 0), some (.int p0), some (.int p1), some (.int y4)]) dX6_time_34 rfl (Nat.le_of_ble_eq_true rfl) rfl ?_
      refine J_iload_n (pc := 35) dX6_time_35 rfl ?_
      refine J_if_ge (pc := 36) 47 dX6_time_36 (by decide) (fun c6 => ?_) (fun c6 => ?_)
      · replace hh := (if_pos c6).symm.trans hh
        refine J_iload_n (pc := 47) dX6_time_47 rfl ?_
        obtain rfl := Option.some.inj hh
        obtain ⟨rfl, rfl⟩ := hk
        exact J_ret (w := some (.int y4)) ⟨dX6_time_48, _, rfl, rfl⟩
      · replace hh := (if_neg c6).symm.trans hh
        refine J_aload_n (pc := 39) dX6_time_39 rfl ?_
        refine J_iconst (pc := 40) dX6_time_40 ci_3 ?_
        obtain ⟨y5, hy5, hh⟩ := bd_some hh
        refine J_callVi (pc := 41) (M' := MX6_finding) (a := 0) (rest := []) (As := [.int (3 : Int32)]) (L0 := [some (.ref 0), some (.int (3 : Int32))]) okX6_finding ovX6_finding mlX6_68 clX6 so0 rfl rfl (Nat.le_of_ble_eq_true rfl) dX6_time_41 rfl (Nat.le_of_ble_eq_true rfl) (jX6_finding (X := X) d s (3 : Int32) hy5) ?_
        refine J_goto (pc := 44) 48 dX6_time_44 (by decide) ?_
        obtain rfl := Option.some.inj hh
        obtain ⟨rfl, rfl⟩ := hk
        exact J_ret (w := some (.int y5.1)) ⟨dX6_time_48, _, rfl, rfl⟩
    · replace hh := (if_pos c7).symm.trans hh
      refine J_drop 1 (L' := [some (.ref 0), none, some (.int p1), none]) rfl ?_
      refine J_drop 2 (L' := [some (.ref 0), none, none, none]) rfl ?_
      exact jgX6_time_19 d s hh hk
theorem jX6_time {X : Scr} (d : Nat) (s : Mem) (p0 : Int32) (p1 : Int32) {r : (Int32 × Mem)} (hh : fX6_time s p0 p1 = some r) : J X MX6_time (d + 2) 0 [some (.ref 0), some (.int p0), some (.int p1), none] [] s (some (.int r.1)) r.2 := jjX6_time d s p0 p1 hh ⟨rfl, rfl⟩
theorem dX6_uneven_0 : decode cX6_uneven 0 = .ok (.iload_n 1, 1) := by decide +kernel
theorem dX6_uneven_1 : decode cX6_uneven 1 = .ok (.invokestatic 108, 3) := by decide +kernel
theorem dX6_uneven_4 : decode cX6_uneven 4 = .ok (.ifCond .ne 9, 3) := by decide +kernel
theorem dX6_uneven_7 : decode cX6_uneven 7 = .ok (.aload_n 0, 1) := by decide +kernel
theorem dX6_uneven_8 : decode cX6_uneven 8 = .ok (.iconst 0, 1) := by decide +kernel
theorem dX6_uneven_9 : decode cX6_uneven 9 = .ok (.invokevirtual 68, 3) := by decide +kernel
theorem dX6_uneven_12 : decode cX6_uneven 12 = .ok (.ireturn, 1) := by decide +kernel
theorem dX6_uneven_13 : decode cX6_uneven 13 = .ok (.aload_n 0, 1) := by decide +kernel
theorem dX6_uneven_14 : decode cX6_uneven 14 = .ok (.getfield 10, 3) := by decide +kernel
theorem dX6_uneven_17 : decode cX6_uneven 17 = .ok (.iload_n 1, 1) := by decide +kernel
theorem dX6_uneven_18 : decode cX6_uneven 18 = .ok (.invokevirtual 117, 3) := by decide +kernel
theorem dX6_uneven_21 : decode cX6_uneven 21 = .ok (.ireturn, 1) := by decide +kernel
def fX6_uneven (s : Mem) (p0 : Int32) : Option (Int32 × Mem) :=
  (fX6_isCourse p0).bind (fun y1 => if y1 = (0 : Int32) then (fX6_finding s (0 : Int32)).bind (fun y3 => some ((y3.1, y3.2))) else (fX0_unevenness s p0).bind (fun y2 => some ((y2, s))))
set_option maxRecDepth 4000 in
theorem jjX6_uneven {X : Scr} (d : Nat) (s : Mem) (p0 : Int32) {r : (Int32 × Mem)} {w : Option Value} {s' : Mem} (hh : fX6_uneven s p0 = some r) (hk : w = some (.int r.1) ∧ r.2 = s') : J X MX6_uneven (d + 3) 0 [some (.ref 0), some (.int p0)] [] s w s' := by
  unfold fX6_uneven at hh
  refine J_iload_n (pc := 0) dX6_uneven_0 rfl ?_
  obtain ⟨y1, hy1, hh⟩ := bd_some hh
  refine J_callSi (pc := 1) (M' := MX6_isCourse) (rest := []) (As := [.int p0]) (L0 := [some (.int p0)]) okX6_isCourse osX6_isCourse mlX6_108 rfl rfl (Nat.le_of_ble_eq_true rfl) dX6_uneven_1 rfl (Nat.le_of_ble_eq_true rfl) (jX6_isCourse (X := X) (d + 1) s p0 hy1) ?_
  refine J_if_ne (pc := 4) 13 dX6_uneven_4 (by decide) (fun c4 => ?_) (fun c4 => ?_)
  · replace hh := (if_neg c4).symm.trans hh
    refine J_aload_n (pc := 13) dX6_uneven_13 rfl ?_
    refine J_getR (pc := 14) (k := 0) flX6_10 so0 fk0_0 dX6_uneven_14 ?_
    refine J_iload_n (pc := 17) dX6_uneven_17 rfl ?_
    obtain ⟨y2, hy2, hh⟩ := bd_some hh
    refine J_callVi (pc := 18) (M' := MX0_unevenness) (a := 1) (rest := []) (As := [.int p0]) (L0 := [some (.ref 1), some (.int p0), none, none]) okX0_unevenness ovX0_unevenness mlX6_117 clX0 so1 rfl rfl (Nat.le_of_ble_eq_true rfl) dX6_uneven_18 rfl (Nat.le_of_ble_eq_true rfl) (jX0_unevenness (X := X) d s p0 hy2) ?_
    obtain rfl := Option.some.inj hh
    obtain ⟨rfl, rfl⟩ := hk
    exact J_ret (w := some (.int y2)) ⟨dX6_uneven_21, _, rfl, rfl⟩
  · replace hh := (if_pos c4).symm.trans hh
    refine J_aload_n (pc := 7) dX6_uneven_7 rfl ?_
    refine J_iconst (pc := 8) dX6_uneven_8 ci_0 ?_
    obtain ⟨y3, hy3, hh⟩ := bd_some hh
    refine J_callVi (pc := 9) (M' := MX6_finding) (a := 0) (rest := []) (As := [.int (0 : Int32)]) (L0 := [some (.ref 0), some (.int (0 : Int32))]) okX6_finding ovX6_finding mlX6_68 clX6 so0 rfl rfl (Nat.le_of_ble_eq_true rfl) dX6_uneven_9 rfl (Nat.le_of_ble_eq_true rfl) (jX6_finding (X := X) (d + 1) s (0 : Int32) hy3) ?_
    obtain rfl := Option.some.inj hh
    obtain ⟨rfl, rfl⟩ := hk
    exact J_ret (w := some (.int y3.1)) ⟨dX6_uneven_12, _, rfl, rfl⟩
theorem jX6_uneven {X : Scr} (d : Nat) (s : Mem) (p0 : Int32) {r : (Int32 × Mem)} (hh : fX6_uneven s p0 = some r) : J X MX6_uneven (d + 3) 0 [some (.ref 0), some (.int p0)] [] s (some (.int r.1)) r.2 := jjX6_uneven d s p0 hh ⟨rfl, rfl⟩
theorem dX6_isKind_0 : decode cX6_isKind 0 = .ok (.iload_n 0, 1) := by decide +kernel
theorem dX6_isKind_1 : decode cX6_isKind 1 = .ok (.i2l, 1) := by decide +kernel
theorem dX6_isKind_2 : decode cX6_isKind 2 = .ok (.lconst 0, 1) := by decide +kernel
theorem dX6_isKind_3 : decode cX6_isKind 3 = .ok (.ldc2_w 99, 3) := by decide +kernel
theorem dX6_isKind_6 : decode cX6_isKind 6 = .ok (.invokestatic 62, 3) := by decide +kernel
theorem dX6_isKind_9 : decode cX6_isKind 9 = .ok (.ireturn, 1) := by decide +kernel
def fX6_isKind (p0 : Int32) : Option Int32 :=
  (fX6_within (p0.toInt64) (0 : Int64) (5 : Int64)).bind (fun y1 => gz y1 (some y1))
set_option maxRecDepth 4000 in
theorem jjX6_isKind {X : Scr} (d : Nat) {s : Mem} (p0 : Int32) {r : Int32} {w : Option Value} {s' : Mem} (hh : fX6_isKind p0 = some r) (hk : w = some (.int r) ∧ s = s') : J X MX6_isKind (d + 1) 0 [some (.int p0)] [] s w s' := by
  unfold fX6_isKind at hh
  refine J_iload_n (pc := 0) dX6_isKind_0 rfl ?_
  refine J_i2l (pc := 1) dX6_isKind_1 ?_
  refine J_lconst (pc := 2) (v := 0) dX6_isKind_2 rfl ?_
  refine J_ldc2 (pc := 3) klX6_99 dX6_isKind_3 ?_
  obtain ⟨y1, hy1, hh⟩ := bd_some hh
  refine J_callSi (pc := 6) (M' := MX6_within) (rest := []) (As := [.long (p0.toInt64), .long (0 : Int64), .long (5 : Int64)]) (L0 := [some (.long (p0.toInt64)), none, some (.long (0 : Int64)), none, some (.long (5 : Int64)), none]) okX6_within osX6_within mlX6_62 rfl rfl (Nat.le_of_ble_eq_true rfl) dX6_isKind_6 rfl (Nat.le_of_ble_eq_true rfl) (jX6_within (X := X) d s (p0.toInt64) (0 : Int64) (5 : Int64) hy1) ?_
  obtain ⟨hz2, hh⟩ := gz_some hh
  obtain rfl := Option.some.inj hh
  obtain ⟨rfl, rfl⟩ := hk
  exact J_ret (w := some (.int y1)) ⟨dX6_isKind_9, _, rfl, (nz_bool hz2)⟩
theorem jX6_isKind {X : Scr} (d : Nat) (s : Mem) (p0 : Int32) {r : Int32} (hh : fX6_isKind p0 = some r) : J X MX6_isKind (d + 1) 0 [some (.int p0)] [] s (some (.int r)) s := jjX6_isKind d p0 hh ⟨rfl, rfl⟩
theorem dX6_pupil_0 : decode cX6_pupil 0 = .ok (.iload_n 1, 1) := by decide +kernel
theorem dX6_pupil_1 : decode cX6_pupil 1 = .ok (.invokestatic 120, 3) := by decide +kernel
theorem dX6_pupil_4 : decode cX6_pupil 4 = .ok (.ifCond .eq 22, 3) := by decide +kernel
theorem dX6_pupil_7 : decode cX6_pupil 7 = .ok (.iload_n 2, 1) := by decide +kernel
theorem dX6_pupil_8 : decode cX6_pupil 8 = .ok (.invokestatic 56, 3) := by decide +kernel
theorem dX6_pupil_11 : decode cX6_pupil 11 = .ok (.ifCond .eq 15, 3) := by decide +kernel
theorem dX6_pupil_14 : decode cX6_pupil 14 = .ok (.iload_n 3, 1) := by decide +kernel
theorem dX6_pupil_15 : decode cX6_pupil 15 = .ok (.i2l, 1) := by decide +kernel
theorem dX6_pupil_16 : decode cX6_pupil 16 = .ok (.lconst 0, 1) := by decide +kernel
theorem dX6_pupil_17 : decode cX6_pupil 17 = .ok (.ldc2_w 123, 3) := by decide +kernel
theorem dX6_pupil_20 : decode cX6_pupil 20 = .ok (.invokestatic 62, 3) := by decide +kernel
theorem dX6_pupil_23 : decode cX6_pupil 23 = .ok (.ifCond .ne 9, 3) := by decide +kernel
theorem dX6_pupil_26 : decode cX6_pupil 26 = .ok (.aload_n 0, 1) := by decide +kernel
theorem dX6_pupil_27 : decode cX6_pupil 27 = .ok (.iconst 0, 1) := by decide +kernel
theorem dX6_pupil_28 : decode cX6_pupil 28 = .ok (.invokevirtual 68, 3) := by decide +kernel
theorem dX6_pupil_31 : decode cX6_pupil 31 = .ok (.ireturn, 1) := by decide +kernel
theorem dX6_pupil_32 : decode cX6_pupil 32 = .ok (.aload_n 0, 1) := by decide +kernel
theorem dX6_pupil_33 : decode cX6_pupil 33 = .ok (.getfield 10, 3) := by decide +kernel
theorem dX6_pupil_36 : decode cX6_pupil 36 = .ok (.invokevirtual 125, 3) := by decide +kernel
theorem dX6_pupil_39 : decode cX6_pupil 39 = .ok (.bipush 6, 2) := by decide +kernel
theorem dX6_pupil_41 : decode cX6_pupil 41 = .ok (.if_icmp .lt 9, 3) := by decide +kernel
theorem dX6_pupil_44 : decode cX6_pupil 44 = .ok (.aload_n 0, 1) := by decide +kernel
theorem dX6_pupil_45 : decode cX6_pupil 45 = .ok (.iconst 1, 1) := by decide +kernel
theorem dX6_pupil_46 : decode cX6_pupil 46 = .ok (.invokevirtual 68, 3) := by decide +kernel
theorem dX6_pupil_49 : decode cX6_pupil 49 = .ok (.ireturn, 1) := by decide +kernel
theorem dX6_pupil_50 : decode cX6_pupil 50 = .ok (.aload_n 0, 1) := by decide +kernel
theorem dX6_pupil_51 : decode cX6_pupil 51 = .ok (.invokevirtual 92, 3) := by decide +kernel
theorem dX6_pupil_54 : decode cX6_pupil 54 = .ok (.aload_n 0, 1) := by decide +kernel
theorem dX6_pupil_55 : decode cX6_pupil 55 = .ok (.getfield 10, 3) := by decide +kernel
theorem dX6_pupil_58 : decode cX6_pupil 58 = .ok (.iload_n 1, 1) := by decide +kernel
theorem dX6_pupil_59 : decode cX6_pupil 59 = .ok (.iload_n 2, 1) := by decide +kernel
theorem dX6_pupil_60 : decode cX6_pupil 60 = .ok (.iload_n 3, 1) := by decide +kernel
theorem dX6_pupil_61 : decode cX6_pupil 61 = .ok (.invokevirtual 129, 3) := by decide +kernel
theorem dX6_pupil_64 : decode cX6_pupil 64 = .ok (.ireturn, 1) := by decide +kernel
def gX6_pupil_26 (s : Mem)  : Option (Int32 × Mem) :=
  (fX6_finding s (0 : Int32)).bind (fun y2 => some ((y2.1, y2.2)))
set_option maxRecDepth 4000 in
theorem jgX6_pupil_26 {X : Scr} (d : Nat) (s : Mem)  {r : (Int32 × Mem)} {w : Option Value} {s' : Mem} (hh : gX6_pupil_26 s = some r) (hk : w = some (.int r.1) ∧ r.2 = s') : J X MX6_pupil (d + 4) 26 [some (.ref 0), none, none, none] [] s w s' := by
  unfold gX6_pupil_26 at hh
  refine J_aload_n (pc := 26) dX6_pupil_26 rfl ?_
  refine J_iconst (pc := 27) dX6_pupil_27 ci_0 ?_
  obtain ⟨y2, hy2, hh⟩ := bd_some hh
  refine J_callVi (pc := 28) (M' := MX6_finding) (a := 0) (rest := []) (As := [.int (0 : Int32)]) (L0 := [some (.ref 0), some (.int (0 : Int32))]) okX6_finding ovX6_finding mlX6_68 clX6 so0 rfl rfl (Nat.le_of_ble_eq_true rfl) dX6_pupil_28 rfl (Nat.le_of_ble_eq_true rfl) (jX6_finding (X := X) (d + 2) s (0 : Int32) hy2) ?_
  obtain rfl := Option.some.inj hh
  obtain ⟨rfl, rfl⟩ := hk
  exact J_ret (w := some (.int y2.1)) ⟨dX6_pupil_31, _, rfl, rfl⟩
def fX6_pupil (s : Mem) (p0 : Int32) (p1 : Int32) (p2 : Int32) : Option (Int32 × Mem) :=
  (fX6_isKind p0).bind (fun y1 => if y1 = (0 : Int32) then gX6_pupil_26 s else (fX6_isHours p1).bind (fun y3 => if y3 = (0 : Int32) then gX6_pupil_26 s else (fX6_within (p2.toInt64) (0 : Int64) (15 : Int64)).bind (fun y4 => if y4 = (0 : Int32) then gX6_pupil_26 s else (fX0_pupils s).bind (fun y5 => if y5 < (6 : Int32) then (fX6_begin s).bind (fun y6 => (fX0_comes y6 p0 p1 p2).bind (fun y7 => some ((y7.1, y7.2)))) else (fX6_finding s (1 : Int32)).bind (fun y8 => some ((y8.1, y8.2)))))))
set_option maxRecDepth 4000 in
theorem jjX6_pupil {X : Scr} (d : Nat) (s : Mem) (p0 : Int32) (p1 : Int32) (p2 : Int32) {r : (Int32 × Mem)} {w : Option Value} {s' : Mem} (hh : fX6_pupil s p0 p1 p2 = some r) (hk : w = some (.int r.1) ∧ r.2 = s') : J X MX6_pupil (d + 4) 0 [some (.ref 0), some (.int p0), some (.int p1), some (.int p2)] [] s w s' := by
  unfold fX6_pupil at hh
  refine J_iload_n (pc := 0) dX6_pupil_0 rfl ?_
  obtain ⟨y1, hy1, hh⟩ := bd_some hh
  refine J_callSi (pc := 1) (M' := MX6_isKind) (rest := []) (As := [.int p0]) (L0 := [some (.int p0)]) okX6_isKind osX6_isKind mlX6_120 rfl rfl (Nat.le_of_ble_eq_true rfl) dX6_pupil_1 rfl (Nat.le_of_ble_eq_true rfl) (jX6_isKind (X := X) (d + 2) s p0 hy1) ?_
  refine J_if_eq (pc := 4) 26 dX6_pupil_4 (by decide) (fun c12 => ?_) (fun c12 => ?_)
  · replace hh := (if_pos c12).symm.trans hh
    refine J_drop 1 (L' := [some (.ref 0), none, some (.int p1), some (.int p2)]) rfl ?_
    refine J_drop 2 (L' := [some (.ref 0), none, none, some (.int p2)]) rfl ?_
    refine J_drop 3 (L' := [some (.ref 0), none, none, none]) rfl ?_
    exact jgX6_pupil_26 d s hh hk
  · replace hh := (if_neg c12).symm.trans hh
    refine J_iload_n (pc := 7) dX6_pupil_7 rfl ?_
    obtain ⟨y3, hy3, hh⟩ := bd_some hh
    refine J_callSi (pc := 8) (M' := MX6_isHours) (rest := []) (As := [.int p1]) (L0 := [some (.int p1)]) okX6_isHours osX6_isHours mlX6_56 rfl rfl (Nat.le_of_ble_eq_true rfl) dX6_pupil_8 rfl (Nat.le_of_ble_eq_true rfl) (jX6_isHours (X := X) (d + 2) s p1 hy3) ?_
    refine J_if_eq (pc := 11) 26 dX6_pupil_11 (by decide) (fun c11 => ?_) (fun c11 => ?_)
    · replace hh := (if_pos c11).symm.trans hh
      refine J_drop 1 (L' := [some (.ref 0), none, some (.int p1), some (.int p2)]) rfl ?_
      refine J_drop 2 (L' := [some (.ref 0), none, none, some (.int p2)]) rfl ?_
      refine J_drop 3 (L' := [some (.ref 0), none, none, none]) rfl ?_
      exact jgX6_pupil_26 d s hh hk
    · replace hh := (if_neg c11).symm.trans hh
      refine J_iload_n (pc := 14) dX6_pupil_14 rfl ?_
      refine J_i2l (pc := 15) dX6_pupil_15 ?_
      refine J_lconst (pc := 16) (v := 0) dX6_pupil_16 rfl ?_
      refine J_ldc2 (pc := 17) klX6_123 dX6_pupil_17 ?_
      obtain ⟨y4, hy4, hh⟩ := bd_some hh
      refine J_callSi (pc := 20) (M' := MX6_within) (rest := []) (As := [.long (p2.toInt64), .long (0 : Int64), .long (15 : Int64)]) (L0 := [some (.long (p2.toInt64)), none, some (.long (0 : Int64)), none, some (.long (15 : Int64)), none]) okX6_within osX6_within mlX6_62 rfl rfl (Nat.le_of_ble_eq_true rfl) dX6_pupil_20 rfl (Nat.le_of_ble_eq_true rfl) (jX6_within (X := X) (d + 3) s (p2.toInt64) (0 : Int64) (15 : Int64) hy4) ?_
      refine J_if_ne (pc := 23) 32 dX6_pupil_23 (by decide) (fun c10 => ?_) (fun c10 => ?_)
      · replace hh := (if_neg c10).symm.trans hh
        refine J_aload_n (pc := 32) dX6_pupil_32 rfl ?_
        refine J_getR (pc := 33) (k := 0) flX6_10 so0 fk0_0 dX6_pupil_33 ?_
        obtain ⟨y5, hy5, hh⟩ := bd_some hh
        refine J_callVi (pc := 36) (M' := MX0_pupils) (a := 1) (rest := []) (As := []) (L0 := [some (.ref 1)]) okX0_pupils ovX0_pupils mlX6_125 clX0 so1 rfl rfl (Nat.le_of_ble_eq_true rfl) dX6_pupil_36 rfl (Nat.le_of_ble_eq_true rfl) (jX0_pupils (X := X) (d + 3) s hy5) ?_
        refine J_bipush (pc := 39) dX6_pupil_39 cb_6 ?_
        refine J_icmp_lt (pc := 41) 50 dX6_pupil_41 (by decide) (fun c9 => ?_) (fun c9 => ?_)
        · replace hh := (if_pos c9).symm.trans hh
          refine J_aload_n (pc := 50) dX6_pupil_50 rfl ?_
          obtain ⟨y6, hy6, hh⟩ := bd_some hh
          refine J_callV0 (pc := 51) (M' := MX6_begin) (a := 0) (rest := []) (As := []) (L0 := [some (.ref 0)]) okX6_begin ovX6_begin mlX6_92 clX6 so0 rfl rfl (Nat.le_of_ble_eq_true rfl) dX6_pupil_51 rfl (Nat.le_of_ble_eq_true rfl) (jX6_begin (X := X) d s hy6) ?_
          refine J_aload_n (pc := 54) dX6_pupil_54 rfl ?_
          refine J_getR (pc := 55) (k := 0) flX6_10 so0 fk0_0 dX6_pupil_55 ?_
          refine J_iload_n (pc := 58) dX6_pupil_58 rfl ?_
          refine J_iload_n (pc := 59) dX6_pupil_59 rfl ?_
          refine J_iload_n (pc := 60) dX6_pupil_60 rfl ?_
          obtain ⟨y7, hy7, hh⟩ := bd_some hh
          refine J_callVi (pc := 61) (M' := MX0_comes) (a := 1) (rest := []) (As := [.int p0, .int p1, .int p2]) (L0 := [some (.ref 1), some (.int p0), some (.int p1), some (.int p2), none, none, none]) okX0_comes ovX0_comes mlX6_129 clX0 so1 rfl rfl (Nat.le_of_ble_eq_true rfl) dX6_pupil_61 rfl (Nat.le_of_ble_eq_true rfl) (jX0_comes (X := X) (d + 2) y6 p0 p1 p2 hy7) ?_
          obtain rfl := Option.some.inj hh
          obtain ⟨rfl, rfl⟩ := hk
          exact J_ret (w := some (.int y7.1)) ⟨dX6_pupil_64, _, rfl, rfl⟩
        · replace hh := (if_neg c9).symm.trans hh
          refine J_aload_n (pc := 44) dX6_pupil_44 rfl ?_
          refine J_iconst (pc := 45) dX6_pupil_45 ci_1 ?_
          obtain ⟨y8, hy8, hh⟩ := bd_some hh
          refine J_callVi (pc := 46) (M' := MX6_finding) (a := 0) (rest := []) (As := [.int (1 : Int32)]) (L0 := [some (.ref 0), some (.int (1 : Int32))]) okX6_finding ovX6_finding mlX6_68 clX6 so0 rfl rfl (Nat.le_of_ble_eq_true rfl) dX6_pupil_46 rfl (Nat.le_of_ble_eq_true rfl) (jX6_finding (X := X) (d + 2) s (1 : Int32) hy8) ?_
          obtain rfl := Option.some.inj hh
          obtain ⟨rfl, rfl⟩ := hk
          exact J_ret (w := some (.int y8.1)) ⟨dX6_pupil_49, _, rfl, rfl⟩
      · replace hh := (if_pos c10).symm.trans hh
        refine J_drop 1 (L' := [some (.ref 0), none, some (.int p1), some (.int p2)]) rfl ?_
        refine J_drop 2 (L' := [some (.ref 0), none, none, some (.int p2)]) rfl ?_
        refine J_drop 3 (L' := [some (.ref 0), none, none, none]) rfl ?_
        exact jgX6_pupil_26 d s hh hk
theorem jX6_pupil {X : Scr} (d : Nat) (s : Mem) (p0 : Int32) (p1 : Int32) (p2 : Int32) {r : (Int32 × Mem)} (hh : fX6_pupil s p0 p1 p2 = some r) : J X MX6_pupil (d + 4) 0 [some (.ref 0), some (.int p0), some (.int p1), some (.int p2)] [] s (some (.int r.1)) r.2 := jjX6_pupil d s p0 p1 p2 hh ⟨rfl, rfl⟩
theorem dX6_leave_0 : decode cX6_leave 0 = .ok (.aload_n 0, 1) := by decide +kernel
theorem dX6_leave_1 : decode cX6_leave 1 = .ok (.getfield 10, 3) := by decide +kernel
theorem dX6_leave_4 : decode cX6_leave 4 = .ok (.invokevirtual 125, 3) := by decide +kernel
theorem dX6_leave_7 : decode cX6_leave 7 = .ok (.ifCond .ne 9, 3) := by decide +kernel
theorem dX6_leave_10 : decode cX6_leave 10 = .ok (.aload_n 0, 1) := by decide +kernel
theorem dX6_leave_11 : decode cX6_leave 11 = .ok (.iconst 3, 1) := by decide +kernel
theorem dX6_leave_12 : decode cX6_leave 12 = .ok (.invokevirtual 68, 3) := by decide +kernel
theorem dX6_leave_15 : decode cX6_leave 15 = .ok (.ireturn, 1) := by decide +kernel
theorem dX6_leave_16 : decode cX6_leave 16 = .ok (.aload_n 0, 1) := by decide +kernel
theorem dX6_leave_17 : decode cX6_leave 17 = .ok (.invokevirtual 92, 3) := by decide +kernel
theorem dX6_leave_20 : decode cX6_leave 20 = .ok (.aload_n 0, 1) := by decide +kernel
theorem dX6_leave_21 : decode cX6_leave 21 = .ok (.getfield 10, 3) := by decide +kernel
theorem dX6_leave_24 : decode cX6_leave 24 = .ok (.invokevirtual 132, 3) := by decide +kernel
theorem dX6_leave_27 : decode cX6_leave 27 = .ok (.ireturn, 1) := by decide +kernel
def fX6_leave (s : Mem)  : Option (Int32 × Mem) :=
  (fX0_pupils s).bind (fun y1 => if y1 = (0 : Int32) then (fX6_finding s (3 : Int32)).bind (fun y4 => some ((y4.1, y4.2))) else (fX6_begin s).bind (fun y2 => (fX0_lastGoes y2).bind (fun y3 => some ((y3.1, y3.2)))))
set_option maxRecDepth 4000 in
theorem jjX6_leave {X : Scr} (d : Nat) (s : Mem)  {r : (Int32 × Mem)} {w : Option Value} {s' : Mem} (hh : fX6_leave s = some r) (hk : w = some (.int r.1) ∧ r.2 = s') : J X MX6_leave (d + 4) 0 [some (.ref 0)] [] s w s' := by
  unfold fX6_leave at hh
  refine J_aload_n (pc := 0) dX6_leave_0 rfl ?_
  refine J_getR (pc := 1) (k := 0) flX6_10 so0 fk0_0 dX6_leave_1 ?_
  obtain ⟨y1, hy1, hh⟩ := bd_some hh
  refine J_callVi (pc := 4) (M' := MX0_pupils) (a := 1) (rest := []) (As := []) (L0 := [some (.ref 1)]) okX0_pupils ovX0_pupils mlX6_125 clX0 so1 rfl rfl (Nat.le_of_ble_eq_true rfl) dX6_leave_4 rfl (Nat.le_of_ble_eq_true rfl) (jX0_pupils (X := X) (d + 3) s hy1) ?_
  refine J_if_ne (pc := 7) 16 dX6_leave_7 (by decide) (fun c5 => ?_) (fun c5 => ?_)
  · replace hh := (if_neg c5).symm.trans hh
    refine J_aload_n (pc := 16) dX6_leave_16 rfl ?_
    obtain ⟨y2, hy2, hh⟩ := bd_some hh
    refine J_callV0 (pc := 17) (M' := MX6_begin) (a := 0) (rest := []) (As := []) (L0 := [some (.ref 0)]) okX6_begin ovX6_begin mlX6_92 clX6 so0 rfl rfl (Nat.le_of_ble_eq_true rfl) dX6_leave_17 rfl (Nat.le_of_ble_eq_true rfl) (jX6_begin (X := X) d s hy2) ?_
    refine J_aload_n (pc := 20) dX6_leave_20 rfl ?_
    refine J_getR (pc := 21) (k := 0) flX6_10 so0 fk0_0 dX6_leave_21 ?_
    obtain ⟨y3, hy3, hh⟩ := bd_some hh
    refine J_callVi (pc := 24) (M' := MX0_lastGoes) (a := 1) (rest := []) (As := []) (L0 := [some (.ref 1)]) okX0_lastGoes ovX0_lastGoes mlX6_132 clX0 so1 rfl rfl (Nat.le_of_ble_eq_true rfl) dX6_leave_24 rfl (Nat.le_of_ble_eq_true rfl) (jX0_lastGoes (X := X) (d + 3) y2 hy3) ?_
    obtain rfl := Option.some.inj hh
    obtain ⟨rfl, rfl⟩ := hk
    exact J_ret (w := some (.int y3.1)) ⟨dX6_leave_27, _, rfl, rfl⟩
  · replace hh := (if_pos c5).symm.trans hh
    refine J_aload_n (pc := 10) dX6_leave_10 rfl ?_
    refine J_iconst (pc := 11) dX6_leave_11 ci_3 ?_
    obtain ⟨y4, hy4, hh⟩ := bd_some hh
    refine J_callVi (pc := 12) (M' := MX6_finding) (a := 0) (rest := []) (As := [.int (3 : Int32)]) (L0 := [some (.ref 0), some (.int (3 : Int32))]) okX6_finding ovX6_finding mlX6_68 clX6 so0 rfl rfl (Nat.le_of_ble_eq_true rfl) dX6_leave_12 rfl (Nat.le_of_ble_eq_true rfl) (jX6_finding (X := X) (d + 2) s (3 : Int32) hy4) ?_
    obtain rfl := Option.some.inj hh
    obtain ⟨rfl, rfl⟩ := hk
    exact J_ret (w := some (.int y4.1)) ⟨dX6_leave_15, _, rfl, rfl⟩
theorem jX6_leave {X : Scr} (d : Nat) (s : Mem)  {r : (Int32 × Mem)} (hh : fX6_leave s = some r) : J X MX6_leave (d + 4) 0 [some (.ref 0)] [] s (some (.int r.1)) r.2 := jjX6_leave d s hh ⟨rfl, rfl⟩
theorem dX6_isPupil_0 : decode cX6_isPupil 0 = .ok (.iload_n 1, 1) := by decide +kernel
theorem dX6_isPupil_1 : decode cX6_isPupil 1 = .ok (.i2l, 1) := by decide +kernel
theorem dX6_isPupil_2 : decode cX6_isPupil 2 = .ok (.lconst 0, 1) := by decide +kernel
theorem dX6_isPupil_3 : decode cX6_isPupil 3 = .ok (.aload_n 0, 1) := by decide +kernel
theorem dX6_isPupil_4 : decode cX6_isPupil 4 = .ok (.getfield 10, 3) := by decide +kernel
theorem dX6_isPupil_7 : decode cX6_isPupil 7 = .ok (.invokevirtual 125, 3) := by decide +kernel
theorem dX6_isPupil_10 : decode cX6_isPupil 10 = .ok (.iconst 1, 1) := by decide +kernel
theorem dX6_isPupil_11 : decode cX6_isPupil 11 = .ok (.isub, 1) := by decide +kernel
theorem dX6_isPupil_12 : decode cX6_isPupil 12 = .ok (.i2l, 1) := by decide +kernel
theorem dX6_isPupil_13 : decode cX6_isPupil 13 = .ok (.invokestatic 62, 3) := by decide +kernel
theorem dX6_isPupil_16 : decode cX6_isPupil 16 = .ok (.ireturn, 1) := by decide +kernel
def fX6_isPupil (s : Mem) (p0 : Int32) : Option Int32 :=
  (fX0_pupils s).bind (fun y1 => (fX6_within (p0.toInt64) (0 : Int64) ((y1 - (1 : Int32)).toInt64)).bind (fun y2 => gz y2 (some y2)))
set_option maxRecDepth 4000 in
theorem jjX6_isPupil {X : Scr} (d : Nat) (s : Mem) (p0 : Int32) {r : Int32} {w : Option Value} {s' : Mem} (hh : fX6_isPupil s p0 = some r) (hk : w = some (.int r) ∧ s = s') : J X MX6_isPupil (d + 1) 0 [some (.ref 0), some (.int p0)] [] s w s' := by
  unfold fX6_isPupil at hh
  refine J_iload_n (pc := 0) dX6_isPupil_0 rfl ?_
  refine J_i2l (pc := 1) dX6_isPupil_1 ?_
  refine J_lconst (pc := 2) (v := 0) dX6_isPupil_2 rfl ?_
  refine J_aload_n (pc := 3) dX6_isPupil_3 rfl ?_
  refine J_getR (pc := 4) (k := 0) flX6_10 so0 fk0_0 dX6_isPupil_4 ?_
  obtain ⟨y1, hy1, hh⟩ := bd_some hh
  refine J_callVi (pc := 7) (M' := MX0_pupils) (a := 1) (rest := [.long (0 : Int64), .long (p0.toInt64)]) (As := []) (L0 := [some (.ref 1)]) okX0_pupils ovX0_pupils mlX6_125 clX0 so1 rfl rfl (Nat.le_of_ble_eq_true rfl) dX6_isPupil_7 rfl (Nat.le_of_ble_eq_true rfl) (jX0_pupils (X := X) d s hy1) ?_
  refine J_iconst (pc := 10) dX6_isPupil_10 ci_1 ?_
  refine J_isub (pc := 11) dX6_isPupil_11 ?_
  refine J_i2l (pc := 12) dX6_isPupil_12 ?_
  obtain ⟨y2, hy2, hh⟩ := bd_some hh
  refine J_callSi (pc := 13) (M' := MX6_within) (rest := []) (As := [.long (p0.toInt64), .long (0 : Int64), .long ((y1 - (1 : Int32)).toInt64)]) (L0 := [some (.long (p0.toInt64)), none, some (.long (0 : Int64)), none, some (.long ((y1 - (1 : Int32)).toInt64)), none]) okX6_within osX6_within mlX6_62 rfl rfl (Nat.le_of_ble_eq_true rfl) dX6_isPupil_13 rfl (Nat.le_of_ble_eq_true rfl) (jX6_within (X := X) d s (p0.toInt64) (0 : Int64) ((y1 - (1 : Int32)).toInt64) hy2) ?_
  obtain ⟨hz3, hh⟩ := gz_some hh
  obtain rfl := Option.some.inj hh
  obtain ⟨rfl, rfl⟩ := hk
  exact J_ret (w := some (.int y2)) ⟨dX6_isPupil_16, _, rfl, (nz_bool hz3)⟩
theorem jX6_isPupil {X : Scr} (d : Nat) (s : Mem) (p0 : Int32) {r : Int32} (hh : fX6_isPupil s p0 = some r) : J X MX6_isPupil (d + 1) 0 [some (.ref 0), some (.int p0)] [] s (some (.int r)) s := jjX6_isPupil d s p0 hh ⟨rfl, rfl⟩
theorem dX6_its_0 : decode cX6_its 0 = .ok (.aload_n 0, 1) := by decide +kernel
theorem dX6_its_1 : decode cX6_its 1 = .ok (.iload_n 1, 1) := by decide +kernel
theorem dX6_its_2 : decode cX6_its 2 = .ok (.invokevirtual 135, 3) := by decide +kernel
theorem dX6_its_5 : decode cX6_its 5 = .ok (.ifCond .eq 29, 3) := by decide +kernel
theorem dX6_its_8 : decode cX6_its 8 = .ok (.iload_n 2, 1) := by decide +kernel
theorem dX6_its_9 : decode cX6_its 9 = .ok (.i2l, 1) := by decide +kernel
theorem dX6_its_10 : decode cX6_its 10 = .ok (.lconst 0, 1) := by decide +kernel
theorem dX6_its_11 : decode cX6_its 11 = .ok (.ldc2_w 99, 3) := by decide +kernel
theorem dX6_its_14 : decode cX6_its 14 = .ok (.invokestatic 62, 3) := by decide +kernel
theorem dX6_its_17 : decode cX6_its 17 = .ok (.ifCond .ne 23, 3) := by decide +kernel
theorem dX6_its_20 : decode cX6_its 20 = .ok (.iload_n 2, 1) := by decide +kernel
theorem dX6_its_21 : decode cX6_its 21 = .ok (.i2l, 1) := by decide +kernel
theorem dX6_its_22 : decode cX6_its 22 = .ok (.ldc2_w 138, 3) := by decide +kernel
theorem dX6_its_25 : decode cX6_its 25 = .ok (.ldc2_w 140, 3) := by decide +kernel
theorem dX6_its_28 : decode cX6_its 28 = .ok (.invokestatic 62, 3) := by decide +kernel
theorem dX6_its_31 : decode cX6_its 31 = .ok (.ifCond .ne 9, 3) := by decide +kernel
theorem dX6_its_34 : decode cX6_its 34 = .ok (.aload_n 0, 1) := by decide +kernel
theorem dX6_its_35 : decode cX6_its 35 = .ok (.iconst 0, 1) := by decide +kernel
theorem dX6_its_36 : decode cX6_its 36 = .ok (.invokevirtual 68, 3) := by decide +kernel
theorem dX6_its_39 : decode cX6_its 39 = .ok (.ireturn, 1) := by decide +kernel
theorem dX6_its_40 : decode cX6_its 40 = .ok (.iload_n 2, 1) := by decide +kernel
theorem dX6_its_41 : decode cX6_its 41 = .ok (.iconst 2, 1) := by decide +kernel
theorem dX6_its_42 : decode cX6_its 42 = .ok (.if_icmp .gt 13, 3) := by decide +kernel
theorem dX6_its_45 : decode cX6_its 45 = .ok (.aload_n 0, 1) := by decide +kernel
theorem dX6_its_46 : decode cX6_its 46 = .ok (.getfield 10, 3) := by decide +kernel
theorem dX6_its_49 : decode cX6_its 49 = .ok (.iload_n 1, 1) := by decide +kernel
theorem dX6_its_50 : decode cX6_its 50 = .ok (.iload_n 2, 1) := by decide +kernel
theorem dX6_its_51 : decode cX6_its 51 = .ok (.invokevirtual 142, 3) := by decide +kernel
theorem dX6_its_54 : decode cX6_its 54 = .ok (.ireturn, 1) := by decide +kernel
theorem dX6_its_55 : decode cX6_its 55 = .ok (.iload_n 2, 1) := by decide +kernel
theorem dX6_its_56 : decode cX6_its 56 = .ok (.iconst 3, 1) := by decide +kernel
theorem dX6_its_57 : decode cX6_its 57 = .ok (.if_icmp .ne 13, 3) := by decide +kernel
theorem dX6_its_60 : decode cX6_its 60 = .ok (.aload_n 0, 1) := by decide +kernel
theorem dX6_its_61 : decode cX6_its 61 = .ok (.getfield 10, 3) := by decide +kernel
theorem dX6_its_64 : decode cX6_its 64 = .ok (.iload_n 1, 1) := by decide +kernel
theorem dX6_its_65 : decode cX6_its 65 = .ok (.iconst (-1), 1) := by decide +kernel
theorem dX6_its_66 : decode cX6_its 66 = .ok (.invokevirtual 145, 3) := by decide +kernel
theorem dX6_its_69 : decode cX6_its 69 = .ok (.ireturn, 1) := by decide +kernel
theorem dX6_its_70 : decode cX6_its 70 = .ok (.iload_n 2, 1) := by decide +kernel
theorem dX6_its_71 : decode cX6_its 71 = .ok (.iconst 4, 1) := by decide +kernel
theorem dX6_its_72 : decode cX6_its 72 = .ok (.if_icmp .ne 12, 3) := by decide +kernel
theorem dX6_its_75 : decode cX6_its 75 = .ok (.aload_n 0, 1) := by decide +kernel
theorem dX6_its_76 : decode cX6_its 76 = .ok (.getfield 10, 3) := by decide +kernel
theorem dX6_its_79 : decode cX6_its 79 = .ok (.iload_n 1, 1) := by decide +kernel
theorem dX6_its_80 : decode cX6_its 80 = .ok (.invokevirtual 148, 3) := by decide +kernel
theorem dX6_its_83 : decode cX6_its 83 = .ok (.ireturn, 1) := by decide +kernel
theorem dX6_its_84 : decode cX6_its 84 = .ok (.iload_n 2, 1) := by decide +kernel
theorem dX6_its_85 : decode cX6_its 85 = .ok (.iconst 5, 1) := by decide +kernel
theorem dX6_its_86 : decode cX6_its 86 = .ok (.if_icmp .ne 14, 3) := by decide +kernel
theorem dX6_its_89 : decode cX6_its 89 = .ok (.aload_n 0, 1) := by decide +kernel
theorem dX6_its_90 : decode cX6_its 90 = .ok (.getfield 10, 3) := by decide +kernel
theorem dX6_its_93 : decode cX6_its 93 = .ok (.iload_n 1, 1) := by decide +kernel
theorem dX6_its_94 : decode cX6_its 94 = .ok (.invokevirtual 151, 3) := by decide +kernel
theorem dX6_its_97 : decode cX6_its 97 = .ok (.goto 15, 3) := by decide +kernel
theorem dX6_its_100 : decode cX6_its 100 = .ok (.aload_n 0, 1) := by decide +kernel
theorem dX6_its_101 : decode cX6_its 101 = .ok (.getfield 10, 3) := by decide +kernel
theorem dX6_its_104 : decode cX6_its 104 = .ok (.iload_n 1, 1) := by decide +kernel
theorem dX6_its_105 : decode cX6_its 105 = .ok (.iload_n 2, 1) := by decide +kernel
theorem dX6_its_106 : decode cX6_its 106 = .ok (.bipush 10, 2) := by decide +kernel
theorem dX6_its_108 : decode cX6_its 108 = .ok (.isub, 1) := by decide +kernel
theorem dX6_its_109 : decode cX6_its 109 = .ok (.invokevirtual 154, 3) := by decide +kernel
theorem dX6_its_112 : decode cX6_its 112 = .ok (.ireturn, 1) := by decide +kernel
def gX6_its_34 (s : Mem)  : Option (Int32 × Mem) :=
  (fX6_finding s (0 : Int32)).bind (fun y2 => some ((y2.1, y2.2)))
set_option maxRecDepth 4000 in
theorem jgX6_its_34 {X : Scr} (d : Nat) (s : Mem)  {r : (Int32 × Mem)} {w : Option Value} {s' : Mem} (hh : gX6_its_34 s = some r) (hk : w = some (.int r.1) ∧ r.2 = s') : J X MX6_its (d + 3) 34 [some (.ref 0), none, none] [] s w s' := by
  unfold gX6_its_34 at hh
  refine J_aload_n (pc := 34) dX6_its_34 rfl ?_
  refine J_iconst (pc := 35) dX6_its_35 ci_0 ?_
  obtain ⟨y2, hy2, hh⟩ := bd_some hh
  refine J_callVi (pc := 36) (M' := MX6_finding) (a := 0) (rest := []) (As := [.int (0 : Int32)]) (L0 := [some (.ref 0), some (.int (0 : Int32))]) okX6_finding ovX6_finding mlX6_68 clX6 so0 rfl rfl (Nat.le_of_ble_eq_true rfl) dX6_its_36 rfl (Nat.le_of_ble_eq_true rfl) (jX6_finding (X := X) (d + 1) s (0 : Int32) hy2) ?_
  obtain rfl := Option.some.inj hh
  obtain ⟨rfl, rfl⟩ := hk
  exact J_ret (w := some (.int y2.1)) ⟨dX6_its_39, _, rfl, rfl⟩
def gX6_its_40 (s : Mem) (v1 : Int32) (v2 : Int32) : Option (Int32 × Mem) :=
  if (2 : Int32) < v2 then if v2 = (3 : Int32) then (fX0_busy s v1 (-1 : Int32)).bind (fun y9 => some ((y9, s))) else if v2 = (4 : Int32) then (fX0_price s v1).bind (fun y7 => some ((y7, s))) else if v2 = (5 : Int32) then (fX0_sitsIn s v1).bind (fun y5 => some ((y5, s))) else (fX0_sits s v1 (v2 - (10 : Int32))).bind (fun y4 => some ((y4, s))) else (fX0_ofPupil s v1 v2).bind (fun y11 => some ((y11, s)))
set_option maxRecDepth 4000 in
theorem jgX6_its_40 {X : Scr} (d : Nat) (s : Mem) (v1 : Int32) (v2 : Int32) {r : (Int32 × Mem)} {w : Option Value} {s' : Mem} (hh : gX6_its_40 s v1 v2 = some r) (hk : w = some (.int r.1) ∧ r.2 = s') : J X MX6_its (d + 3) 40 [some (.ref 0), some (.int v1), some (.int v2)] [] s w s' := by
  unfold gX6_its_40 at hh
  refine J_iload_n (pc := 40) dX6_its_40 rfl ?_
  refine J_iconst (pc := 41) dX6_its_41 ci_2 ?_
  refine J_icmp_gt (pc := 42) 55 dX6_its_42 (by decide) (fun c12 => ?_) (fun c12 => ?_)
  · replace hh := (if_pos c12).symm.trans hh
    refine J_iload_n (pc := 55) dX6_its_55 rfl ?_
    refine J_iconst (pc := 56) dX6_its_56 ci_3 ?_
    refine J_icmp_ne (pc := 57) 70 dX6_its_57 (by decide) (fun c10 => ?_) (fun c10 => ?_)
    · replace hh := (if_neg c10).symm.trans hh
      refine J_iload_n (pc := 70) dX6_its_70 rfl ?_
      refine J_iconst (pc := 71) dX6_its_71 ci_4 ?_
      refine J_icmp_ne (pc := 72) 84 dX6_its_72 (by decide) (fun c8 => ?_) (fun c8 => ?_)
      · replace hh := (if_neg c8).symm.trans hh
        refine J_iload_n (pc := 84) dX6_its_84 rfl ?_
        refine J_iconst (pc := 85) dX6_its_85 ci_5 ?_
        refine J_icmp_ne (pc := 86) 100 dX6_its_86 (by decide) (fun c6 => ?_) (fun c6 => ?_)
        · replace hh := (if_neg c6).symm.trans hh
          refine J_aload_n (pc := 100) dX6_its_100 rfl ?_
          refine J_getR (pc := 101) (k := 0) flX6_10 so0 fk0_0 dX6_its_101 ?_
          refine J_iload_n (pc := 104) dX6_its_104 rfl ?_
          refine J_iload_n (pc := 105) dX6_its_105 rfl ?_
          refine J_bipush (pc := 106) dX6_its_106 cb_10 ?_
          refine J_isub (pc := 108) dX6_its_108 ?_
          obtain ⟨y4, hy4, hh⟩ := bd_some hh
          refine J_callVi (pc := 109) (M' := MX0_sits) (a := 1) (rest := []) (As := [.int v1, .int (v2 - (10 : Int32))]) (L0 := [some (.ref 1), some (.int v1), some (.int (v2 - (10 : Int32)))]) okX0_sits ovX0_sits mlX6_154 clX0 so1 rfl rfl (Nat.le_of_ble_eq_true rfl) dX6_its_109 rfl (Nat.le_of_ble_eq_true rfl) (jX0_sits (X := X) (d + 2) s v1 (v2 - (10 : Int32)) hy4) ?_
          obtain rfl := Option.some.inj hh
          obtain ⟨rfl, rfl⟩ := hk
          exact J_ret (w := some (.int y4)) ⟨dX6_its_112, _, rfl, rfl⟩
        · replace hh := (if_pos c6).symm.trans hh
          refine J_aload_n (pc := 89) dX6_its_89 rfl ?_
          refine J_getR (pc := 90) (k := 0) flX6_10 so0 fk0_0 dX6_its_90 ?_
          refine J_iload_n (pc := 93) dX6_its_93 rfl ?_
          obtain ⟨y5, hy5, hh⟩ := bd_some hh
          refine J_callVi (pc := 94) (M' := MX0_sitsIn) (a := 1) (rest := []) (As := [.int v1]) (L0 := [some (.ref 1), some (.int v1), none, none]) okX0_sitsIn ovX0_sitsIn mlX6_151 clX0 so1 rfl rfl (Nat.le_of_ble_eq_true rfl) dX6_its_94 rfl (Nat.le_of_ble_eq_true rfl) (jX0_sitsIn (X := X) (d + 1) s v1 hy5) ?_
          refine J_goto (pc := 97) 112 dX6_its_97 (by decide) ?_
          obtain rfl := Option.some.inj hh
          obtain ⟨rfl, rfl⟩ := hk
          exact J_ret (w := some (.int y5)) ⟨dX6_its_112, _, rfl, rfl⟩
      · replace hh := (if_pos c8).symm.trans hh
        refine J_aload_n (pc := 75) dX6_its_75 rfl ?_
        refine J_getR (pc := 76) (k := 0) flX6_10 so0 fk0_0 dX6_its_76 ?_
        refine J_iload_n (pc := 79) dX6_its_79 rfl ?_
        obtain ⟨y7, hy7, hh⟩ := bd_some hh
        refine J_callVi (pc := 80) (M' := MX0_price) (a := 1) (rest := []) (As := [.int v1]) (L0 := [some (.ref 1), some (.int v1)]) okX0_price ovX0_price mlX6_148 clX0 so1 rfl rfl (Nat.le_of_ble_eq_true rfl) dX6_its_80 rfl (Nat.le_of_ble_eq_true rfl) (jX0_price (X := X) d s v1 hy7) ?_
        obtain rfl := Option.some.inj hh
        obtain ⟨rfl, rfl⟩ := hk
        exact J_ret (w := some (.int y7)) ⟨dX6_its_83, _, rfl, rfl⟩
    · replace hh := (if_pos c10).symm.trans hh
      refine J_aload_n (pc := 60) dX6_its_60 rfl ?_
      refine J_getR (pc := 61) (k := 0) flX6_10 so0 fk0_0 dX6_its_61 ?_
      refine J_iload_n (pc := 64) dX6_its_64 rfl ?_
      refine J_iconst (pc := 65) dX6_its_65 ci_m1 ?_
      obtain ⟨y9, hy9, hh⟩ := bd_some hh
      refine J_callVi (pc := 66) (M' := MX0_busy) (a := 1) (rest := []) (As := [.int v1, .int (-1 : Int32)]) (L0 := [some (.ref 1), some (.int v1), some (.int (-1 : Int32)), none, none, none]) okX0_busy ovX0_busy mlX6_145 clX0 so1 rfl rfl (Nat.le_of_ble_eq_true rfl) dX6_its_66 rfl (Nat.le_of_ble_eq_true rfl) (jX0_busy (X := X) (d + 1) s v1 (-1 : Int32) hy9) ?_
      obtain rfl := Option.some.inj hh
      obtain ⟨rfl, rfl⟩ := hk
      exact J_ret (w := some (.int y9)) ⟨dX6_its_69, _, rfl, rfl⟩
  · replace hh := (if_neg c12).symm.trans hh
    refine J_aload_n (pc := 45) dX6_its_45 rfl ?_
    refine J_getR (pc := 46) (k := 0) flX6_10 so0 fk0_0 dX6_its_46 ?_
    refine J_iload_n (pc := 49) dX6_its_49 rfl ?_
    refine J_iload_n (pc := 50) dX6_its_50 rfl ?_
    obtain ⟨y11, hy11, hh⟩ := bd_some hh
    refine J_callVi (pc := 51) (M' := MX0_ofPupil) (a := 1) (rest := []) (As := [.int v1, .int v2]) (L0 := [some (.ref 1), some (.int v1), some (.int v2)]) okX0_ofPupil ovX0_ofPupil mlX6_142 clX0 so1 rfl rfl (Nat.le_of_ble_eq_true rfl) dX6_its_51 rfl (Nat.le_of_ble_eq_true rfl) (jX0_ofPupil (X := X) (d + 2) s v1 v2 hy11) ?_
    obtain rfl := Option.some.inj hh
    obtain ⟨rfl, rfl⟩ := hk
    exact J_ret (w := some (.int y11)) ⟨dX6_its_54, _, rfl, rfl⟩
def fX6_its (s : Mem) (p0 : Int32) (p1 : Int32) : Option (Int32 × Mem) :=
  (fX6_isPupil s p0).bind (fun y1 => if y1 = (0 : Int32) then gX6_its_34 s else (fX6_within (p1.toInt64) (0 : Int64) (5 : Int64)).bind (fun y3 => if y3 = (0 : Int32) then (fX6_within (p1.toInt64) (10 : Int64) (13 : Int64)).bind (fun y13 => if y13 = (0 : Int32) then gX6_its_34 s else gX6_its_40 s p0 p1) else gX6_its_40 s p0 p1))
set_option maxRecDepth 4000 in
theorem jjX6_its {X : Scr} (d : Nat) (s : Mem) (p0 : Int32) (p1 : Int32) {r : (Int32 × Mem)} {w : Option Value} {s' : Mem} (hh : fX6_its s p0 p1 = some r) (hk : w = some (.int r.1) ∧ r.2 = s') : J X MX6_its (d + 3) 0 [some (.ref 0), some (.int p0), some (.int p1)] [] s w s' := by
  unfold fX6_its at hh
  refine J_aload_n (pc := 0) dX6_its_0 rfl ?_
  refine J_iload_n (pc := 1) dX6_its_1 rfl ?_
  obtain ⟨y1, hy1, hh⟩ := bd_some hh
  refine J_callVi (pc := 2) (M' := MX6_isPupil) (a := 0) (rest := []) (As := [.int p0]) (L0 := [some (.ref 0), some (.int p0)]) okX6_isPupil ovX6_isPupil mlX6_135 clX6 so0 rfl rfl (Nat.le_of_ble_eq_true rfl) dX6_its_2 rfl (Nat.le_of_ble_eq_true rfl) (jX6_isPupil (X := X) (d + 1) s p0 hy1) ?_
  refine J_if_eq (pc := 5) 34 dX6_its_5 (by decide) (fun c16 => ?_) (fun c16 => ?_)
  · replace hh := (if_pos c16).symm.trans hh
    refine J_drop 1 (L' := [some (.ref 0), none, some (.int p1)]) rfl ?_
    refine J_drop 2 (L' := [some (.ref 0), none, none]) rfl ?_
    exact jgX6_its_34 d s hh hk
  · replace hh := (if_neg c16).symm.trans hh
    refine J_iload_n (pc := 8) dX6_its_8 rfl ?_
    refine J_i2l (pc := 9) dX6_its_9 ?_
    refine J_lconst (pc := 10) (v := 0) dX6_its_10 rfl ?_
    refine J_ldc2 (pc := 11) klX6_99 dX6_its_11 ?_
    obtain ⟨y3, hy3, hh⟩ := bd_some hh
    refine J_callSi (pc := 14) (M' := MX6_within) (rest := []) (As := [.long (p1.toInt64), .long (0 : Int64), .long (5 : Int64)]) (L0 := [some (.long (p1.toInt64)), none, some (.long (0 : Int64)), none, some (.long (5 : Int64)), none]) okX6_within osX6_within mlX6_62 rfl rfl (Nat.le_of_ble_eq_true rfl) dX6_its_14 rfl (Nat.le_of_ble_eq_true rfl) (jX6_within (X := X) (d + 2) s (p1.toInt64) (0 : Int64) (5 : Int64) hy3) ?_
    refine J_if_ne (pc := 17) 40 dX6_its_17 (by decide) (fun c15 => ?_) (fun c15 => ?_)
    · replace hh := (if_neg c15).symm.trans hh
      exact jgX6_its_40 d s p0 p1 hh hk
    · replace hh := (if_pos c15).symm.trans hh
      refine J_iload_n (pc := 20) dX6_its_20 rfl ?_
      refine J_i2l (pc := 21) dX6_its_21 ?_
      refine J_ldc2 (pc := 22) klX6_138 dX6_its_22 ?_
      refine J_ldc2 (pc := 25) klX6_140 dX6_its_25 ?_
      obtain ⟨y13, hy13, hh⟩ := bd_some hh
      refine J_callSi (pc := 28) (M' := MX6_within) (rest := []) (As := [.long (p1.toInt64), .long (10 : Int64), .long (13 : Int64)]) (L0 := [some (.long (p1.toInt64)), none, some (.long (10 : Int64)), none, some (.long (13 : Int64)), none]) okX6_within osX6_within mlX6_62 rfl rfl (Nat.le_of_ble_eq_true rfl) dX6_its_28 rfl (Nat.le_of_ble_eq_true rfl) (jX6_within (X := X) (d + 2) s (p1.toInt64) (10 : Int64) (13 : Int64) hy13) ?_
      refine J_if_ne (pc := 31) 40 dX6_its_31 (by decide) (fun c14 => ?_) (fun c14 => ?_)
      · replace hh := (if_neg c14).symm.trans hh
        exact jgX6_its_40 d s p0 p1 hh hk
      · replace hh := (if_pos c14).symm.trans hh
        refine J_drop 1 (L' := [some (.ref 0), none, some (.int p1)]) rfl ?_
        refine J_drop 2 (L' := [some (.ref 0), none, none]) rfl ?_
        exact jgX6_its_34 d s hh hk
theorem jX6_its {X : Scr} (d : Nat) (s : Mem) (p0 : Int32) (p1 : Int32) {r : (Int32 × Mem)} (hh : fX6_its s p0 p1 = some r) : J X MX6_its (d + 3) 0 [some (.ref 0), some (.int p0), some (.int p1)] [] s (some (.int r.1)) r.2 := jjX6_its d s p0 p1 hh ⟨rfl, rfl⟩
theorem dX6_canBecome_0 : decode cX6_canBecome 0 = .ok (.iload_n 0, 1) := by decide +kernel
theorem dX6_canBecome_1 : decode cX6_canBecome 1 = .ok (.tableswitch 47 0 2 #[27, 32, 37], 27) := by decide +kernel
theorem dX6_canBecome_28 : decode cX6_canBecome 28 = .ok (.iload_n 1, 1) := by decide +kernel
theorem dX6_canBecome_29 : decode cX6_canBecome 29 = .ok (.invokestatic 120, 3) := by decide +kernel
theorem dX6_canBecome_32 : decode cX6_canBecome 32 = .ok (.ireturn, 1) := by decide +kernel
theorem dX6_canBecome_33 : decode cX6_canBecome 33 = .ok (.iload_n 1, 1) := by decide +kernel
theorem dX6_canBecome_34 : decode cX6_canBecome 34 = .ok (.invokestatic 56, 3) := by decide +kernel
theorem dX6_canBecome_37 : decode cX6_canBecome 37 = .ok (.ireturn, 1) := by decide +kernel
theorem dX6_canBecome_38 : decode cX6_canBecome 38 = .ok (.iload_n 1, 1) := by decide +kernel
theorem dX6_canBecome_39 : decode cX6_canBecome 39 = .ok (.i2l, 1) := by decide +kernel
theorem dX6_canBecome_40 : decode cX6_canBecome 40 = .ok (.lconst 0, 1) := by decide +kernel
theorem dX6_canBecome_41 : decode cX6_canBecome 41 = .ok (.ldc2_w 123, 3) := by decide +kernel
theorem dX6_canBecome_44 : decode cX6_canBecome 44 = .ok (.invokestatic 62, 3) := by decide +kernel
theorem dX6_canBecome_47 : decode cX6_canBecome 47 = .ok (.ireturn, 1) := by decide +kernel
theorem dX6_canBecome_48 : decode cX6_canBecome 48 = .ok (.iconst 0, 1) := by decide +kernel
theorem dX6_canBecome_49 : decode cX6_canBecome 49 = .ok (.ireturn, 1) := by decide +kernel
def fX6_canBecome (p0 : Int32) (p1 : Int32) : Option Int32 :=
  if p0 = (0 : Int32) then (fX6_isKind p1).bind (fun y2 => gz y2 (some y2)) else if p0 = (1 : Int32) then (fX6_isHours p1).bind (fun y5 => gz y5 (some y5)) else if p0 = (2 : Int32) then (fX6_within (p1.toInt64) (0 : Int64) (15 : Int64)).bind (fun y8 => gz y8 (some y8)) else some (0 : Int32)
set_option maxRecDepth 4000 in
theorem jjX6_canBecome {X : Scr} (d : Nat) {s : Mem} (p0 : Int32) (p1 : Int32) {r : Int32} {w : Option Value} {s' : Mem} (hh : fX6_canBecome p0 p1 = some r) (hk : w = some (.int r) ∧ s = s') : J X MX6_canBecome (d + 2) 0 [some (.int p0), some (.int p1)] [] s w s' := by
  unfold fX6_canBecome at hh
  refine J_iload_n (pc := 0) dX6_canBecome_0 rfl ?_
  by_cases c1 : p0 = (0 : Int32)
  · replace hh := (if_pos c1).symm.trans hh
    refine J_swIn (pc := 1) 28 dX6_canBecome_1 (by rw [c1]; decide) (by rw [c1]; decide) (by rw [c1]; rfl) (by decide) ?_
    refine J_iload_n (pc := 28) dX6_canBecome_28 rfl ?_
    obtain ⟨y2, hy2, hh⟩ := bd_some hh
    refine J_callSi (pc := 29) (M' := MX6_isKind) (rest := []) (As := [.int p1]) (L0 := [some (.int p1)]) okX6_isKind osX6_isKind mlX6_120 rfl rfl (Nat.le_of_ble_eq_true rfl) dX6_canBecome_29 rfl (Nat.le_of_ble_eq_true rfl) (jX6_isKind (X := X) d s p1 hy2) ?_
    obtain ⟨hz3, hh⟩ := gz_some hh
    obtain rfl := Option.some.inj hh
    obtain ⟨rfl, rfl⟩ := hk
    exact J_ret (w := some (.int y2)) ⟨dX6_canBecome_32, _, rfl, (nz_bool hz3)⟩
  replace hh := (if_neg c1).symm.trans hh
  by_cases c4 : p0 = (1 : Int32)
  · replace hh := (if_pos c4).symm.trans hh
    refine J_swIn (pc := 1) 33 dX6_canBecome_1 (by rw [c4]; decide) (by rw [c4]; decide) (by rw [c4]; rfl) (by decide) ?_
    refine J_iload_n (pc := 33) dX6_canBecome_33 rfl ?_
    obtain ⟨y5, hy5, hh⟩ := bd_some hh
    refine J_callSi (pc := 34) (M' := MX6_isHours) (rest := []) (As := [.int p1]) (L0 := [some (.int p1)]) okX6_isHours osX6_isHours mlX6_56 rfl rfl (Nat.le_of_ble_eq_true rfl) dX6_canBecome_34 rfl (Nat.le_of_ble_eq_true rfl) (jX6_isHours (X := X) d s p1 hy5) ?_
    obtain ⟨hz6, hh⟩ := gz_some hh
    obtain rfl := Option.some.inj hh
    obtain ⟨rfl, rfl⟩ := hk
    exact J_ret (w := some (.int y5)) ⟨dX6_canBecome_37, _, rfl, (nz_bool hz6)⟩
  replace hh := (if_neg c4).symm.trans hh
  by_cases c7 : p0 = (2 : Int32)
  · replace hh := (if_pos c7).symm.trans hh
    refine J_swIn (pc := 1) 38 dX6_canBecome_1 (by rw [c7]; decide) (by rw [c7]; decide) (by rw [c7]; rfl) (by decide) ?_
    refine J_iload_n (pc := 38) dX6_canBecome_38 rfl ?_
    refine J_i2l (pc := 39) dX6_canBecome_39 ?_
    refine J_lconst (pc := 40) (v := 0) dX6_canBecome_40 rfl ?_
    refine J_ldc2 (pc := 41) klX6_123 dX6_canBecome_41 ?_
    obtain ⟨y8, hy8, hh⟩ := bd_some hh
    refine J_callSi (pc := 44) (M' := MX6_within) (rest := []) (As := [.long (p1.toInt64), .long (0 : Int64), .long (15 : Int64)]) (L0 := [some (.long (p1.toInt64)), none, some (.long (0 : Int64)), none, some (.long (15 : Int64)), none]) okX6_within osX6_within mlX6_62 rfl rfl (Nat.le_of_ble_eq_true rfl) dX6_canBecome_44 rfl (Nat.le_of_ble_eq_true rfl) (jX6_within (X := X) (d + 1) s (p1.toInt64) (0 : Int64) (15 : Int64) hy8) ?_
    obtain ⟨hz9, hh⟩ := gz_some hh
    obtain rfl := Option.some.inj hh
    obtain ⟨rfl, rfl⟩ := hk
    exact J_ret (w := some (.int y8)) ⟨dX6_canBecome_47, _, rfl, (nz_bool hz9)⟩
  replace hh := (if_neg c7).symm.trans hh
  refine J_swOut (pc := 1) 48 dX6_canBecome_1 (by have := lv_neT c1 (a := 0) (by decide); have := lv_neT c4 (a := 1) (by decide); have := lv_neT c7 (a := 2) (by decide); omega) (by decide) ?_
  refine J_iconst (pc := 48) dX6_canBecome_48 ci_0 ?_
  obtain rfl := Option.some.inj hh
  obtain ⟨rfl, rfl⟩ := hk
  exact J_ret (w := some (.int (0 : Int32))) ⟨dX6_canBecome_49, _, rfl, rfl⟩
theorem jX6_canBecome {X : Scr} (d : Nat) (s : Mem) (p0 : Int32) (p1 : Int32) {r : Int32} (hh : fX6_canBecome p0 p1 = some r) : J X MX6_canBecome (d + 2) 0 [some (.int p0), some (.int p1)] [] s (some (.int r)) s := jjX6_canBecome d p0 p1 hh ⟨rfl, rfl⟩
theorem dX6_change_0 : decode cX6_change 0 = .ok (.aload_n 0, 1) := by decide +kernel
theorem dX6_change_1 : decode cX6_change 1 = .ok (.iload_n 1, 1) := by decide +kernel
theorem dX6_change_2 : decode cX6_change 2 = .ok (.invokevirtual 135, 3) := by decide +kernel
theorem dX6_change_5 : decode cX6_change 5 = .ok (.ifCond .eq 11, 3) := by decide +kernel
theorem dX6_change_8 : decode cX6_change 8 = .ok (.iload_n 2, 1) := by decide +kernel
theorem dX6_change_9 : decode cX6_change 9 = .ok (.iload_n 3, 1) := by decide +kernel
theorem dX6_change_10 : decode cX6_change 10 = .ok (.invokestatic 157, 3) := by decide +kernel
theorem dX6_change_13 : decode cX6_change 13 = .ok (.ifCond .ne 9, 3) := by decide +kernel
theorem dX6_change_16 : decode cX6_change 16 = .ok (.aload_n 0, 1) := by decide +kernel
theorem dX6_change_17 : decode cX6_change 17 = .ok (.iconst 0, 1) := by decide +kernel
theorem dX6_change_18 : decode cX6_change 18 = .ok (.invokevirtual 68, 3) := by decide +kernel
theorem dX6_change_21 : decode cX6_change 21 = .ok (.ireturn, 1) := by decide +kernel
theorem dX6_change_22 : decode cX6_change 22 = .ok (.iload_n 2, 1) := by decide +kernel
theorem dX6_change_23 : decode cX6_change 23 = .ok (.iconst 1, 1) := by decide +kernel
theorem dX6_change_24 : decode cX6_change 24 = .ok (.if_icmp .ne 23, 3) := by decide +kernel
theorem dX6_change_27 : decode cX6_change 27 = .ok (.iload_n 3, 1) := by decide +kernel
theorem dX6_change_28 : decode cX6_change 28 = .ok (.aload_n 0, 1) := by decide +kernel
theorem dX6_change_29 : decode cX6_change 29 = .ok (.getfield 10, 3) := by decide +kernel
theorem dX6_change_32 : decode cX6_change 32 = .ok (.iload_n 1, 1) := by decide +kernel
theorem dX6_change_33 : decode cX6_change 33 = .ok (.iconst (-1), 1) := by decide +kernel
theorem dX6_change_34 : decode cX6_change 34 = .ok (.invokevirtual 145, 3) := by decide +kernel
theorem dX6_change_37 : decode cX6_change 37 = .ok (.iand, 1) := by decide +kernel
theorem dX6_change_38 : decode cX6_change 38 = .ok (.ifCond .eq 9, 3) := by decide +kernel
theorem dX6_change_41 : decode cX6_change 41 = .ok (.aload_n 0, 1) := by decide +kernel
theorem dX6_change_42 : decode cX6_change 42 = .ok (.iconst 4, 1) := by decide +kernel
theorem dX6_change_43 : decode cX6_change 43 = .ok (.invokevirtual 68, 3) := by decide +kernel
theorem dX6_change_46 : decode cX6_change 46 = .ok (.ireturn, 1) := by decide +kernel
theorem dX6_change_47 : decode cX6_change 47 = .ok (.aload_n 0, 1) := by decide +kernel
theorem dX6_change_48 : decode cX6_change 48 = .ok (.invokevirtual 92, 3) := by decide +kernel
theorem dX6_change_51 : decode cX6_change 51 = .ok (.aload_n 0, 1) := by decide +kernel
theorem dX6_change_52 : decode cX6_change 52 = .ok (.getfield 10, 3) := by decide +kernel
theorem dX6_change_55 : decode cX6_change 55 = .ok (.iload_n 1, 1) := by decide +kernel
theorem dX6_change_56 : decode cX6_change 56 = .ok (.iload_n 2, 1) := by decide +kernel
theorem dX6_change_57 : decode cX6_change 57 = .ok (.iload_n 3, 1) := by decide +kernel
theorem dX6_change_58 : decode cX6_change 58 = .ok (.invokevirtual 161, 3) := by decide +kernel
theorem dX6_change_61 : decode cX6_change 61 = .ok (.ireturn, 1) := by decide +kernel
def gX6_change_16 (s : Mem)  : Option (Int32 × Mem) :=
  (fX6_finding s (0 : Int32)).bind (fun y2 => some ((y2.1, y2.2)))
set_option maxRecDepth 4000 in
theorem jgX6_change_16 {X : Scr} (d : Nat) (s : Mem)  {r : (Int32 × Mem)} {w : Option Value} {s' : Mem} (hh : gX6_change_16 s = some r) (hk : w = some (.int r.1) ∧ r.2 = s') : J X MX6_change (d + 4) 16 [some (.ref 0), none, none, none] [] s w s' := by
  unfold gX6_change_16 at hh
  refine J_aload_n (pc := 16) dX6_change_16 rfl ?_
  refine J_iconst (pc := 17) dX6_change_17 ci_0 ?_
  obtain ⟨y2, hy2, hh⟩ := bd_some hh
  refine J_callVi (pc := 18) (M' := MX6_finding) (a := 0) (rest := []) (As := [.int (0 : Int32)]) (L0 := [some (.ref 0), some (.int (0 : Int32))]) okX6_finding ovX6_finding mlX6_68 clX6 so0 rfl rfl (Nat.le_of_ble_eq_true rfl) dX6_change_18 rfl (Nat.le_of_ble_eq_true rfl) (jX6_finding (X := X) (d + 2) s (0 : Int32) hy2) ?_
  obtain rfl := Option.some.inj hh
  obtain ⟨rfl, rfl⟩ := hk
  exact J_ret (w := some (.int y2.1)) ⟨dX6_change_21, _, rfl, rfl⟩
def gX6_change_47 (s : Mem) (v1 : Int32) (v2 : Int32) (v3 : Int32) : Option (Int32 × Mem) :=
  (fX6_begin s).bind (fun y4 => (fX0_becomes y4 v1 v2 v3).bind (fun y5 => some ((y5.1, y5.2))))
set_option maxRecDepth 4000 in
theorem jgX6_change_47 {X : Scr} (d : Nat) (s : Mem) (v1 : Int32) (v2 : Int32) (v3 : Int32) {r : (Int32 × Mem)} {w : Option Value} {s' : Mem} (hh : gX6_change_47 s v1 v2 v3 = some r) (hk : w = some (.int r.1) ∧ r.2 = s') : J X MX6_change (d + 4) 47 [some (.ref 0), some (.int v1), some (.int v2), some (.int v3)] [] s w s' := by
  unfold gX6_change_47 at hh
  refine J_aload_n (pc := 47) dX6_change_47 rfl ?_
  obtain ⟨y4, hy4, hh⟩ := bd_some hh
  refine J_callV0 (pc := 48) (M' := MX6_begin) (a := 0) (rest := []) (As := []) (L0 := [some (.ref 0)]) okX6_begin ovX6_begin mlX6_92 clX6 so0 rfl rfl (Nat.le_of_ble_eq_true rfl) dX6_change_48 rfl (Nat.le_of_ble_eq_true rfl) (jX6_begin (X := X) d s hy4) ?_
  refine J_aload_n (pc := 51) dX6_change_51 rfl ?_
  refine J_getR (pc := 52) (k := 0) flX6_10 so0 fk0_0 dX6_change_52 ?_
  refine J_iload_n (pc := 55) dX6_change_55 rfl ?_
  refine J_iload_n (pc := 56) dX6_change_56 rfl ?_
  refine J_iload_n (pc := 57) dX6_change_57 rfl ?_
  obtain ⟨y5, hy5, hh⟩ := bd_some hh
  refine J_callVi (pc := 58) (M' := MX0_becomes) (a := 1) (rest := []) (As := [.int v1, .int v2, .int v3]) (L0 := [some (.ref 1), some (.int v1), some (.int v2), some (.int v3), none, none]) okX0_becomes ovX0_becomes mlX6_161 clX0 so1 rfl rfl (Nat.le_of_ble_eq_true rfl) dX6_change_58 rfl (Nat.le_of_ble_eq_true rfl) (jX0_becomes (X := X) (d + 2) y4 v1 v2 v3 hy5) ?_
  obtain rfl := Option.some.inj hh
  obtain ⟨rfl, rfl⟩ := hk
  exact J_ret (w := some (.int y5.1)) ⟨dX6_change_61, _, rfl, rfl⟩
def fX6_change (s : Mem) (p0 : Int32) (p1 : Int32) (p2 : Int32) : Option (Int32 × Mem) :=
  (fX6_isPupil s p0).bind (fun y1 => if y1 = (0 : Int32) then gX6_change_16 s else (fX6_canBecome p1 p2).bind (fun y3 => if y3 = (0 : Int32) then gX6_change_16 s else if p1 = (1 : Int32) then (fX0_busy s p0 (-1 : Int32)).bind (fun y6 => if (p2 &&& y6) = (0 : Int32) then gX6_change_47 s p0 p1 p2 else (fX6_finding s (4 : Int32)).bind (fun y7 => some ((y7.1, y7.2)))) else gX6_change_47 s p0 p1 p2))
set_option maxRecDepth 4000 in
theorem jjX6_change {X : Scr} (d : Nat) (s : Mem) (p0 : Int32) (p1 : Int32) (p2 : Int32) {r : (Int32 × Mem)} {w : Option Value} {s' : Mem} (hh : fX6_change s p0 p1 p2 = some r) (hk : w = some (.int r.1) ∧ r.2 = s') : J X MX6_change (d + 4) 0 [some (.ref 0), some (.int p0), some (.int p1), some (.int p2)] [] s w s' := by
  unfold fX6_change at hh
  refine J_aload_n (pc := 0) dX6_change_0 rfl ?_
  refine J_iload_n (pc := 1) dX6_change_1 rfl ?_
  obtain ⟨y1, hy1, hh⟩ := bd_some hh
  refine J_callVi (pc := 2) (M' := MX6_isPupil) (a := 0) (rest := []) (As := [.int p0]) (L0 := [some (.ref 0), some (.int p0)]) okX6_isPupil ovX6_isPupil mlX6_135 clX6 so0 rfl rfl (Nat.le_of_ble_eq_true rfl) dX6_change_2 rfl (Nat.le_of_ble_eq_true rfl) (jX6_isPupil (X := X) (d + 2) s p0 hy1) ?_
  refine J_if_eq (pc := 5) 16 dX6_change_5 (by decide) (fun c11 => ?_) (fun c11 => ?_)
  · replace hh := (if_pos c11).symm.trans hh
    refine J_drop 1 (L' := [some (.ref 0), none, some (.int p1), some (.int p2)]) rfl ?_
    refine J_drop 2 (L' := [some (.ref 0), none, none, some (.int p2)]) rfl ?_
    refine J_drop 3 (L' := [some (.ref 0), none, none, none]) rfl ?_
    exact jgX6_change_16 d s hh hk
  · replace hh := (if_neg c11).symm.trans hh
    refine J_iload_n (pc := 8) dX6_change_8 rfl ?_
    refine J_iload_n (pc := 9) dX6_change_9 rfl ?_
    obtain ⟨y3, hy3, hh⟩ := bd_some hh
    refine J_callSi (pc := 10) (M' := MX6_canBecome) (rest := []) (As := [.int p1, .int p2]) (L0 := [some (.int p1), some (.int p2)]) okX6_canBecome osX6_canBecome mlX6_157 rfl rfl (Nat.le_of_ble_eq_true rfl) dX6_change_10 rfl (Nat.le_of_ble_eq_true rfl) (jX6_canBecome (X := X) (d + 1) s p1 p2 hy3) ?_
    refine J_if_ne (pc := 13) 22 dX6_change_13 (by decide) (fun c10 => ?_) (fun c10 => ?_)
    · replace hh := (if_neg c10).symm.trans hh
      refine J_iload_n (pc := 22) dX6_change_22 rfl ?_
      refine J_iconst (pc := 23) dX6_change_23 ci_1 ?_
      refine J_icmp_ne (pc := 24) 47 dX6_change_24 (by decide) (fun c9 => ?_) (fun c9 => ?_)
      · replace hh := (if_neg c9).symm.trans hh
        exact jgX6_change_47 d s p0 p1 p2 hh hk
      · replace hh := (if_pos c9).symm.trans hh
        refine J_iload_n (pc := 27) dX6_change_27 rfl ?_
        refine J_aload_n (pc := 28) dX6_change_28 rfl ?_
        refine J_getR (pc := 29) (k := 0) flX6_10 so0 fk0_0 dX6_change_29 ?_
        refine J_iload_n (pc := 32) dX6_change_32 rfl ?_
        refine J_iconst (pc := 33) dX6_change_33 ci_m1 ?_
        obtain ⟨y6, hy6, hh⟩ := bd_some hh
        refine J_callVi (pc := 34) (M' := MX0_busy) (a := 1) (rest := [.int p2]) (As := [.int p0, .int (-1 : Int32)]) (L0 := [some (.ref 1), some (.int p0), some (.int (-1 : Int32)), none, none, none]) okX0_busy ovX0_busy mlX6_145 clX0 so1 rfl rfl (Nat.le_of_ble_eq_true rfl) dX6_change_34 rfl (Nat.le_of_ble_eq_true rfl) (jX0_busy (X := X) (d + 2) s p0 (-1 : Int32) hy6) ?_
        refine J_iand (pc := 37) dX6_change_37 ?_
        refine J_if_eq (pc := 38) 47 dX6_change_38 (by decide) (fun c8 => ?_) (fun c8 => ?_)
        · replace hh := (if_pos c8).symm.trans hh
          exact jgX6_change_47 d s p0 p1 p2 hh hk
        · replace hh := (if_neg c8).symm.trans hh
          refine J_aload_n (pc := 41) dX6_change_41 rfl ?_
          refine J_iconst (pc := 42) dX6_change_42 ci_4 ?_
          obtain ⟨y7, hy7, hh⟩ := bd_some hh
          refine J_callVi (pc := 43) (M' := MX6_finding) (a := 0) (rest := []) (As := [.int (4 : Int32)]) (L0 := [some (.ref 0), some (.int (4 : Int32))]) okX6_finding ovX6_finding mlX6_68 clX6 so0 rfl rfl (Nat.le_of_ble_eq_true rfl) dX6_change_43 rfl (Nat.le_of_ble_eq_true rfl) (jX6_finding (X := X) (d + 2) s (4 : Int32) hy7) ?_
          obtain rfl := Option.some.inj hh
          obtain ⟨rfl, rfl⟩ := hk
          exact J_ret (w := some (.int y7.1)) ⟨dX6_change_46, _, rfl, rfl⟩
    · replace hh := (if_pos c10).symm.trans hh
      refine J_drop 1 (L' := [some (.ref 0), none, some (.int p1), some (.int p2)]) rfl ?_
      refine J_drop 2 (L' := [some (.ref 0), none, none, some (.int p2)]) rfl ?_
      refine J_drop 3 (L' := [some (.ref 0), none, none, none]) rfl ?_
      exact jgX6_change_16 d s hh hk
theorem jX6_change {X : Scr} (d : Nat) (s : Mem) (p0 : Int32) (p1 : Int32) (p2 : Int32) {r : (Int32 × Mem)} (hh : fX6_change s p0 p1 p2 = some r) : J X MX6_change (d + 4) 0 [some (.ref 0), some (.int p0), some (.int p1), some (.int p2)] [] s (some (.int r.1)) r.2 := jjX6_change d s p0 p1 p2 hh ⟨rfl, rfl⟩
theorem dX6_as_0 : decode cX6_as 0 = .ok (.aload_n 0, 1) := by decide +kernel
theorem dX6_as_1 : decode cX6_as 1 = .ok (.iload_n 1, 1) := by decide +kernel
theorem dX6_as_2 : decode cX6_as 2 = .ok (.invokevirtual 135, 3) := by decide +kernel
theorem dX6_as_5 : decode cX6_as 5 = .ok (.ifCond .eq 10, 3) := by decide +kernel
theorem dX6_as_8 : decode cX6_as 8 = .ok (.iload_n 2, 1) := by decide +kernel
theorem dX6_as_9 : decode cX6_as 9 = .ok (.invokestatic 120, 3) := by decide +kernel
theorem dX6_as_12 : decode cX6_as 12 = .ok (.ifCond .ne 9, 3) := by decide +kernel
theorem dX6_as_15 : decode cX6_as 15 = .ok (.aload_n 0, 1) := by decide +kernel
theorem dX6_as_16 : decode cX6_as 16 = .ok (.iconst 0, 1) := by decide +kernel
theorem dX6_as_17 : decode cX6_as 17 = .ok (.invokevirtual 68, 3) := by decide +kernel
theorem dX6_as_20 : decode cX6_as 20 = .ok (.ireturn, 1) := by decide +kernel
theorem dX6_as_21 : decode cX6_as 21 = .ok (.aload_n 0, 1) := by decide +kernel
theorem dX6_as_22 : decode cX6_as 22 = .ok (.getfield 10, 3) := by decide +kernel
theorem dX6_as_25 : decode cX6_as 25 = .ok (.iload_n 1, 1) := by decide +kernel
theorem dX6_as_26 : decode cX6_as 26 = .ok (.iconst 0, 1) := by decide +kernel
theorem dX6_as_27 : decode cX6_as 27 = .ok (.invokevirtual 142, 3) := by decide +kernel
theorem dX6_as_30 : decode cX6_as 30 = .ok (.iload_n 2, 1) := by decide +kernel
theorem dX6_as_31 : decode cX6_as 31 = .ok (.invokestatic 164, 3) := by decide +kernel
theorem dX6_as_34 : decode cX6_as 34 = .ok (.ifCond .ne 9, 3) := by decide +kernel
theorem dX6_as_37 : decode cX6_as 37 = .ok (.aload_n 0, 1) := by decide +kernel
theorem dX6_as_38 : decode cX6_as 38 = .ok (.iconst 2, 1) := by decide +kernel
theorem dX6_as_39 : decode cX6_as 39 = .ok (.invokevirtual 68, 3) := by decide +kernel
theorem dX6_as_42 : decode cX6_as 42 = .ok (.ireturn, 1) := by decide +kernel
theorem dX6_as_43 : decode cX6_as 43 = .ok (.iload_n 2, 1) := by decide +kernel
theorem dX6_as_44 : decode cX6_as 44 = .ok (.aload_n 0, 1) := by decide +kernel
theorem dX6_as_45 : decode cX6_as 45 = .ok (.getfield 10, 3) := by decide +kernel
theorem dX6_as_48 : decode cX6_as 48 = .ok (.iload_n 1, 1) := by decide +kernel
theorem dX6_as_49 : decode cX6_as 49 = .ok (.iconst (-1), 1) := by decide +kernel
theorem dX6_as_50 : decode cX6_as 50 = .ok (.invokevirtual 145, 3) := by decide +kernel
theorem dX6_as_53 : decode cX6_as 53 = .ok (.invokestatic 169, 3) := by decide +kernel
theorem dX6_as_56 : decode cX6_as 56 = .ok (.ireturn, 1) := by decide +kernel
def gX6_as_15 (s : Mem)  : Option (Int32 × Mem) :=
  (fX6_finding s (0 : Int32)).bind (fun y2 => some ((y2.1, y2.2)))
set_option maxRecDepth 4000 in
theorem jgX6_as_15 {X : Scr} (d : Nat) (s : Mem)  {r : (Int32 × Mem)} {w : Option Value} {s' : Mem} (hh : gX6_as_15 s = some r) (hk : w = some (.int r.1) ∧ r.2 = s') : J X MX6_as (d + 2) 15 [some (.ref 0), none, none] [] s w s' := by
  unfold gX6_as_15 at hh
  refine J_aload_n (pc := 15) dX6_as_15 rfl ?_
  refine J_iconst (pc := 16) dX6_as_16 ci_0 ?_
  obtain ⟨y2, hy2, hh⟩ := bd_some hh
  refine J_callVi (pc := 17) (M' := MX6_finding) (a := 0) (rest := []) (As := [.int (0 : Int32)]) (L0 := [some (.ref 0), some (.int (0 : Int32))]) okX6_finding ovX6_finding mlX6_68 clX6 so0 rfl rfl (Nat.le_of_ble_eq_true rfl) dX6_as_17 rfl (Nat.le_of_ble_eq_true rfl) (jX6_finding (X := X) d s (0 : Int32) hy2) ?_
  obtain rfl := Option.some.inj hh
  obtain ⟨rfl, rfl⟩ := hk
  exact J_ret (w := some (.int y2.1)) ⟨dX6_as_20, _, rfl, rfl⟩
def fX6_as (s : Mem) (p0 : Int32) (p1 : Int32) : Option (Int32 × Mem) :=
  (fX6_isPupil s p0).bind (fun y1 => if y1 = (0 : Int32) then gX6_as_15 s else (fX6_isKind p1).bind (fun y3 => if y3 = (0 : Int32) then gX6_as_15 s else (fX0_ofPupil s p0 (0 : Int32)).bind (fun y4 => (fX1_isUnder y4 p1).bind (fun y5 => if y5 = (0 : Int32) then (fX6_finding s (2 : Int32)).bind (fun y8 => some ((y8.1, y8.2))) else (fX0_busy s p0 (-1 : Int32)).bind (fun y6 => (fX1_price p1 y6).bind (fun y7 => some ((y7, s))))))))
set_option maxRecDepth 4000 in
theorem jjX6_as {X : Scr} (d : Nat) (s : Mem) (p0 : Int32) (p1 : Int32) {r : (Int32 × Mem)} {w : Option Value} {s' : Mem} (hh : fX6_as s p0 p1 = some r) (hk : w = some (.int r.1) ∧ r.2 = s') : J X MX6_as (d + 2) 0 [some (.ref 0), some (.int p0), some (.int p1)] [] s w s' := by
  unfold fX6_as at hh
  refine J_aload_n (pc := 0) dX6_as_0 rfl ?_
  refine J_iload_n (pc := 1) dX6_as_1 rfl ?_
  obtain ⟨y1, hy1, hh⟩ := bd_some hh
  refine J_callVi (pc := 2) (M' := MX6_isPupil) (a := 0) (rest := []) (As := [.int p0]) (L0 := [some (.ref 0), some (.int p0)]) okX6_isPupil ovX6_isPupil mlX6_135 clX6 so0 rfl rfl (Nat.le_of_ble_eq_true rfl) dX6_as_2 rfl (Nat.le_of_ble_eq_true rfl) (jX6_isPupil (X := X) d s p0 hy1) ?_
  refine J_if_eq (pc := 5) 15 dX6_as_5 (by decide) (fun c11 => ?_) (fun c11 => ?_)
  · replace hh := (if_pos c11).symm.trans hh
    refine J_drop 1 (L' := [some (.ref 0), none, some (.int p1)]) rfl ?_
    refine J_drop 2 (L' := [some (.ref 0), none, none]) rfl ?_
    exact jgX6_as_15 d s hh hk
  · replace hh := (if_neg c11).symm.trans hh
    refine J_iload_n (pc := 8) dX6_as_8 rfl ?_
    obtain ⟨y3, hy3, hh⟩ := bd_some hh
    refine J_callSi (pc := 9) (M' := MX6_isKind) (rest := []) (As := [.int p1]) (L0 := [some (.int p1)]) okX6_isKind osX6_isKind mlX6_120 rfl rfl (Nat.le_of_ble_eq_true rfl) dX6_as_9 rfl (Nat.le_of_ble_eq_true rfl) (jX6_isKind (X := X) d s p1 hy3) ?_
    refine J_if_ne (pc := 12) 21 dX6_as_12 (by decide) (fun c10 => ?_) (fun c10 => ?_)
    · replace hh := (if_neg c10).symm.trans hh
      refine J_aload_n (pc := 21) dX6_as_21 rfl ?_
      refine J_getR (pc := 22) (k := 0) flX6_10 so0 fk0_0 dX6_as_22 ?_
      refine J_iload_n (pc := 25) dX6_as_25 rfl ?_
      refine J_iconst (pc := 26) dX6_as_26 ci_0 ?_
      obtain ⟨y4, hy4, hh⟩ := bd_some hh
      refine J_callVi (pc := 27) (M' := MX0_ofPupil) (a := 1) (rest := []) (As := [.int p0, .int (0 : Int32)]) (L0 := [some (.ref 1), some (.int p0), some (.int (0 : Int32))]) okX0_ofPupil ovX0_ofPupil mlX6_142 clX0 so1 rfl rfl (Nat.le_of_ble_eq_true rfl) dX6_as_27 rfl (Nat.le_of_ble_eq_true rfl) (jX0_ofPupil (X := X) (d + 1) s p0 (0 : Int32) hy4) ?_
      refine J_iload_n (pc := 30) dX6_as_30 rfl ?_
      obtain ⟨y5, hy5, hh⟩ := bd_some hh
      refine J_callSi (pc := 31) (M' := MX1_isUnder) (rest := []) (As := [.int y4, .int p1]) (L0 := [some (.int y4), some (.int p1), none, none]) okX1_isUnder osX1_isUnder mlX6_164 rfl rfl (Nat.le_of_ble_eq_true rfl) dX6_as_31 rfl (Nat.le_of_ble_eq_true rfl) (jX1_isUnder (X := X) d s y4 p1 hy5) ?_
      refine J_if_ne (pc := 34) 43 dX6_as_34 (by decide) (fun c9 => ?_) (fun c9 => ?_)
      · replace hh := (if_neg c9).symm.trans hh
        refine J_iload_n (pc := 43) dX6_as_43 rfl ?_
        refine J_aload_n (pc := 44) dX6_as_44 rfl ?_
        refine J_getR (pc := 45) (k := 0) flX6_10 so0 fk0_0 dX6_as_45 ?_
        refine J_iload_n (pc := 48) dX6_as_48 rfl ?_
        refine J_iconst (pc := 49) dX6_as_49 ci_m1 ?_
        obtain ⟨y6, hy6, hh⟩ := bd_some hh
        refine J_callVi (pc := 50) (M' := MX0_busy) (a := 1) (rest := [.int p1]) (As := [.int p0, .int (-1 : Int32)]) (L0 := [some (.ref 1), some (.int p0), some (.int (-1 : Int32)), none, none, none]) okX0_busy ovX0_busy mlX6_145 clX0 so1 rfl rfl (Nat.le_of_ble_eq_true rfl) dX6_as_50 rfl (Nat.le_of_ble_eq_true rfl) (jX0_busy (X := X) d s p0 (-1 : Int32) hy6) ?_
        obtain ⟨y7, hy7, hh⟩ := bd_some hh
        refine J_callSi (pc := 53) (M' := MX1_price) (rest := []) (As := [.int p1, .int y6]) (L0 := [some (.int p1), some (.int y6), none, none]) okX1_price osX1_price mlX6_169 rfl rfl (Nat.le_of_ble_eq_true rfl) dX6_as_53 rfl (Nat.le_of_ble_eq_true rfl) (jX1_price (X := X) d s p1 y6 hy7) ?_
        obtain rfl := Option.some.inj hh
        obtain ⟨rfl, rfl⟩ := hk
        exact J_ret (w := some (.int y7)) ⟨dX6_as_56, _, rfl, rfl⟩
      · replace hh := (if_pos c9).symm.trans hh
        refine J_aload_n (pc := 37) dX6_as_37 rfl ?_
        refine J_iconst (pc := 38) dX6_as_38 ci_2 ?_
        obtain ⟨y8, hy8, hh⟩ := bd_some hh
        refine J_callVi (pc := 39) (M' := MX6_finding) (a := 0) (rest := []) (As := [.int (2 : Int32)]) (L0 := [some (.ref 0), some (.int (2 : Int32))]) okX6_finding ovX6_finding mlX6_68 clX6 so0 rfl rfl (Nat.le_of_ble_eq_true rfl) dX6_as_39 rfl (Nat.le_of_ble_eq_true rfl) (jX6_finding (X := X) d s (2 : Int32) hy8) ?_
        obtain rfl := Option.some.inj hh
        obtain ⟨rfl, rfl⟩ := hk
        exact J_ret (w := some (.int y8.1)) ⟨dX6_as_42, _, rfl, rfl⟩
    · replace hh := (if_pos c10).symm.trans hh
      refine J_drop 1 (L' := [some (.ref 0), none, some (.int p1)]) rfl ?_
      refine J_drop 2 (L' := [some (.ref 0), none, none]) rfl ?_
      exact jgX6_as_15 d s hh hk
theorem jX6_as {X : Scr} (d : Nat) (s : Mem) (p0 : Int32) (p1 : Int32) {r : (Int32 × Mem)} (hh : fX6_as s p0 p1 = some r) : J X MX6_as (d + 2) 0 [some (.ref 0), some (.int p0), some (.int p1)] [] s (some (.int r.1)) r.2 := jjX6_as d s p0 p1 hh ⟨rfl, rfl⟩
theorem dX6_fits_0 : decode cX6_fits 0 = .ok (.aload_n 0, 1) := by decide +kernel
theorem dX6_fits_1 : decode cX6_fits 1 = .ok (.iload_n 1, 1) := by decide +kernel
theorem dX6_fits_2 : decode cX6_fits 2 = .ok (.invokevirtual 135, 3) := by decide +kernel
theorem dX6_fits_5 : decode cX6_fits 5 = .ok (.ifCond .eq 10, 3) := by decide +kernel
theorem dX6_fits_8 : decode cX6_fits 8 = .ok (.iload_n 2, 1) := by decide +kernel
theorem dX6_fits_9 : decode cX6_fits 9 = .ok (.invokestatic 108, 3) := by decide +kernel
theorem dX6_fits_12 : decode cX6_fits 12 = .ok (.ifCond .ne 9, 3) := by decide +kernel
theorem dX6_fits_15 : decode cX6_fits 15 = .ok (.aload_n 0, 1) := by decide +kernel
theorem dX6_fits_16 : decode cX6_fits 16 = .ok (.iconst 0, 1) := by decide +kernel
theorem dX6_fits_17 : decode cX6_fits 17 = .ok (.invokevirtual 68, 3) := by decide +kernel
theorem dX6_fits_20 : decode cX6_fits 20 = .ok (.ireturn, 1) := by decide +kernel
theorem dX6_fits_21 : decode cX6_fits 21 = .ok (.aload_n 0, 1) := by decide +kernel
theorem dX6_fits_22 : decode cX6_fits 22 = .ok (.getfield 10, 3) := by decide +kernel
theorem dX6_fits_25 : decode cX6_fits 25 = .ok (.iload_n 1, 1) := by decide +kernel
theorem dX6_fits_26 : decode cX6_fits 26 = .ok (.iload_n 2, 1) := by decide +kernel
theorem dX6_fits_27 : decode cX6_fits 27 = .ok (.invokevirtual 171, 3) := by decide +kernel
theorem dX6_fits_30 : decode cX6_fits 30 = .ok (.ifCond .ne 9, 3) := by decide +kernel
theorem dX6_fits_33 : decode cX6_fits 33 = .ok (.aload_n 0, 1) := by decide +kernel
theorem dX6_fits_34 : decode cX6_fits 34 = .ok (.iconst 3, 1) := by decide +kernel
theorem dX6_fits_35 : decode cX6_fits 35 = .ok (.invokevirtual 68, 3) := by decide +kernel
theorem dX6_fits_38 : decode cX6_fits 38 = .ok (.ireturn, 1) := by decide +kernel
theorem dX6_fits_39 : decode cX6_fits 39 = .ok (.aload_n 0, 1) := by decide +kernel
theorem dX6_fits_40 : decode cX6_fits 40 = .ok (.getfield 10, 3) := by decide +kernel
theorem dX6_fits_43 : decode cX6_fits 43 = .ok (.iload_n 1, 1) := by decide +kernel
theorem dX6_fits_44 : decode cX6_fits 44 = .ok (.iload_n 2, 1) := by decide +kernel
theorem dX6_fits_45 : decode cX6_fits 45 = .ok (.invokevirtual 174, 3) := by decide +kernel
theorem dX6_fits_48 : decode cX6_fits 48 = .ok (.aload_n 0, 1) := by decide +kernel
theorem dX6_fits_49 : decode cX6_fits 49 = .ok (.getfield 10, 3) := by decide +kernel
theorem dX6_fits_52 : decode cX6_fits 52 = .ok (.iload_n 1, 1) := by decide +kernel
theorem dX6_fits_53 : decode cX6_fits 53 = .ok (.iload_n 2, 1) := by decide +kernel
theorem dX6_fits_54 : decode cX6_fits 54 = .ok (.invokevirtual 177, 3) := by decide +kernel
theorem dX6_fits_57 : decode cX6_fits 57 = .ok (.iconst (-1), 1) := by decide +kernel
theorem dX6_fits_58 : decode cX6_fits 58 = .ok (.ixor, 1) := by decide +kernel
theorem dX6_fits_59 : decode cX6_fits 59 = .ok (.iand, 1) := by decide +kernel
theorem dX6_fits_60 : decode cX6_fits 60 = .ok (.ireturn, 1) := by decide +kernel
def gX6_fits_15 (s : Mem)  : Option (Int32 × Mem) :=
  (fX6_finding s (0 : Int32)).bind (fun y2 => some ((y2.1, y2.2)))
set_option maxRecDepth 4000 in
theorem jgX6_fits_15 {X : Scr} (d : Nat) (s : Mem)  {r : (Int32 × Mem)} {w : Option Value} {s' : Mem} (hh : gX6_fits_15 s = some r) (hk : w = some (.int r.1) ∧ r.2 = s') : J X MX6_fits (d + 3) 15 [some (.ref 0), none, none] [] s w s' := by
  unfold gX6_fits_15 at hh
  refine J_aload_n (pc := 15) dX6_fits_15 rfl ?_
  refine J_iconst (pc := 16) dX6_fits_16 ci_0 ?_
  obtain ⟨y2, hy2, hh⟩ := bd_some hh
  refine J_callVi (pc := 17) (M' := MX6_finding) (a := 0) (rest := []) (As := [.int (0 : Int32)]) (L0 := [some (.ref 0), some (.int (0 : Int32))]) okX6_finding ovX6_finding mlX6_68 clX6 so0 rfl rfl (Nat.le_of_ble_eq_true rfl) dX6_fits_17 rfl (Nat.le_of_ble_eq_true rfl) (jX6_finding (X := X) (d + 1) s (0 : Int32) hy2) ?_
  obtain rfl := Option.some.inj hh
  obtain ⟨rfl, rfl⟩ := hk
  exact J_ret (w := some (.int y2.1)) ⟨dX6_fits_20, _, rfl, rfl⟩
def fX6_fits (s : Mem) (p0 : Int32) (p1 : Int32) : Option (Int32 × Mem) :=
  (fX6_isPupil s p0).bind (fun y1 => if y1 = (0 : Int32) then gX6_fits_15 s else (fX6_isCourse p1).bind (fun y3 => if y3 = (0 : Int32) then gX6_fits_15 s else (fX0_wishes s p0 p1).bind (fun y4 => if y4 = (0 : Int32) then (fX6_finding s (3 : Int32)).bind (fun y7 => some ((y7.1, y7.2))) else (fX0_freeSet s p0 p1).bind (fun y5 => (fX0_crowded s p0 p1).bind (fun y6 => some ((y5 &&& (y6 ^^^ (-1 : Int32)), s)))))))
set_option maxRecDepth 4000 in
theorem jjX6_fits {X : Scr} (d : Nat) (s : Mem) (p0 : Int32) (p1 : Int32) {r : (Int32 × Mem)} {w : Option Value} {s' : Mem} (hh : fX6_fits s p0 p1 = some r) (hk : w = some (.int r.1) ∧ r.2 = s') : J X MX6_fits (d + 3) 0 [some (.ref 0), some (.int p0), some (.int p1)] [] s w s' := by
  unfold fX6_fits at hh
  refine J_aload_n (pc := 0) dX6_fits_0 rfl ?_
  refine J_iload_n (pc := 1) dX6_fits_1 rfl ?_
  obtain ⟨y1, hy1, hh⟩ := bd_some hh
  refine J_callVi (pc := 2) (M' := MX6_isPupil) (a := 0) (rest := []) (As := [.int p0]) (L0 := [some (.ref 0), some (.int p0)]) okX6_isPupil ovX6_isPupil mlX6_135 clX6 so0 rfl rfl (Nat.le_of_ble_eq_true rfl) dX6_fits_2 rfl (Nat.le_of_ble_eq_true rfl) (jX6_isPupil (X := X) (d + 1) s p0 hy1) ?_
  refine J_if_eq (pc := 5) 15 dX6_fits_5 (by decide) (fun c10 => ?_) (fun c10 => ?_)
  · replace hh := (if_pos c10).symm.trans hh
    refine J_drop 1 (L' := [some (.ref 0), none, some (.int p1)]) rfl ?_
    refine J_drop 2 (L' := [some (.ref 0), none, none]) rfl ?_
    exact jgX6_fits_15 d s hh hk
  · replace hh := (if_neg c10).symm.trans hh
    refine J_iload_n (pc := 8) dX6_fits_8 rfl ?_
    obtain ⟨y3, hy3, hh⟩ := bd_some hh
    refine J_callSi (pc := 9) (M' := MX6_isCourse) (rest := []) (As := [.int p1]) (L0 := [some (.int p1)]) okX6_isCourse osX6_isCourse mlX6_108 rfl rfl (Nat.le_of_ble_eq_true rfl) dX6_fits_9 rfl (Nat.le_of_ble_eq_true rfl) (jX6_isCourse (X := X) (d + 1) s p1 hy3) ?_
    refine J_if_ne (pc := 12) 21 dX6_fits_12 (by decide) (fun c9 => ?_) (fun c9 => ?_)
    · replace hh := (if_neg c9).symm.trans hh
      refine J_aload_n (pc := 21) dX6_fits_21 rfl ?_
      refine J_getR (pc := 22) (k := 0) flX6_10 so0 fk0_0 dX6_fits_22 ?_
      refine J_iload_n (pc := 25) dX6_fits_25 rfl ?_
      refine J_iload_n (pc := 26) dX6_fits_26 rfl ?_
      obtain ⟨y4, hy4, hh⟩ := bd_some hh
      refine J_callVi (pc := 27) (M' := MX0_wishes) (a := 1) (rest := []) (As := [.int p0, .int p1]) (L0 := [some (.ref 1), some (.int p0), some (.int p1)]) okX0_wishes ovX0_wishes mlX6_171 clX0 so1 rfl rfl (Nat.le_of_ble_eq_true rfl) dX6_fits_27 rfl (Nat.le_of_ble_eq_true rfl) (jX0_wishes (X := X) (d + 2) s p0 p1 hy4) ?_
      refine J_if_ne (pc := 30) 39 dX6_fits_30 (by decide) (fun c8 => ?_) (fun c8 => ?_)
      · replace hh := (if_neg c8).symm.trans hh
        refine J_aload_n (pc := 39) dX6_fits_39 rfl ?_
        refine J_getR (pc := 40) (k := 0) flX6_10 so0 fk0_0 dX6_fits_40 ?_
        refine J_iload_n (pc := 43) dX6_fits_43 rfl ?_
        refine J_iload_n (pc := 44) dX6_fits_44 rfl ?_
        obtain ⟨y5, hy5, hh⟩ := bd_some hh
        refine J_callVi (pc := 45) (M' := MX0_freeSet) (a := 1) (rest := []) (As := [.int p0, .int p1]) (L0 := [some (.ref 1), some (.int p0), some (.int p1), none, none, none, none]) okX0_freeSet ovX0_freeSet mlX6_174 clX0 so1 rfl rfl (Nat.le_of_ble_eq_true rfl) dX6_fits_45 rfl (Nat.le_of_ble_eq_true rfl) (jX0_freeSet (X := X) d s p0 p1 hy5) ?_
        refine J_aload_n (pc := 48) dX6_fits_48 rfl ?_
        refine J_getR (pc := 49) (k := 0) flX6_10 so0 fk0_0 dX6_fits_49 ?_
        refine J_iload_n (pc := 52) dX6_fits_52 rfl ?_
        refine J_iload_n (pc := 53) dX6_fits_53 rfl ?_
        obtain ⟨y6, hy6, hh⟩ := bd_some hh
        refine J_callVi (pc := 54) (M' := MX0_crowded) (a := 1) (rest := [.int y5]) (As := [.int p0, .int p1]) (L0 := [some (.ref 1), some (.int p0), some (.int p1), none, none]) okX0_crowded ovX0_crowded mlX6_177 clX0 so1 rfl rfl (Nat.le_of_ble_eq_true rfl) dX6_fits_54 rfl (Nat.le_of_ble_eq_true rfl) (jX0_crowded (X := X) d s p0 p1 hy6) ?_
        refine J_iconst (pc := 57) dX6_fits_57 ci_m1 ?_
        refine J_ixor (pc := 58) dX6_fits_58 ?_
        refine J_iand (pc := 59) dX6_fits_59 ?_
        obtain rfl := Option.some.inj hh
        obtain ⟨rfl, rfl⟩ := hk
        exact J_ret (w := some (.int (y5 &&& (y6 ^^^ (-1 : Int32))))) ⟨dX6_fits_60, _, rfl, rfl⟩
      · replace hh := (if_pos c8).symm.trans hh
        refine J_aload_n (pc := 33) dX6_fits_33 rfl ?_
        refine J_iconst (pc := 34) dX6_fits_34 ci_3 ?_
        obtain ⟨y7, hy7, hh⟩ := bd_some hh
        refine J_callVi (pc := 35) (M' := MX6_finding) (a := 0) (rest := []) (As := [.int (3 : Int32)]) (L0 := [some (.ref 0), some (.int (3 : Int32))]) okX6_finding ovX6_finding mlX6_68 clX6 so0 rfl rfl (Nat.le_of_ble_eq_true rfl) dX6_fits_35 rfl (Nat.le_of_ble_eq_true rfl) (jX6_finding (X := X) (d + 1) s (3 : Int32) hy7) ?_
        obtain rfl := Option.some.inj hh
        obtain ⟨rfl, rfl⟩ := hk
        exact J_ret (w := some (.int y7.1)) ⟨dX6_fits_38, _, rfl, rfl⟩
    · replace hh := (if_pos c9).symm.trans hh
      refine J_drop 1 (L' := [some (.ref 0), none, some (.int p1)]) rfl ?_
      refine J_drop 2 (L' := [some (.ref 0), none, none]) rfl ?_
      exact jgX6_fits_15 d s hh hk
theorem jX6_fits {X : Scr} (d : Nat) (s : Mem) (p0 : Int32) (p1 : Int32) {r : (Int32 × Mem)} (hh : fX6_fits s p0 p1 = some r) : J X MX6_fits (d + 3) 0 [some (.ref 0), some (.int p0), some (.int p1)] [] s (some (.int r.1)) r.2 := jjX6_fits d s p0 p1 hh ⟨rfl, rfl⟩
theorem dX6_why_0 : decode cX6_why 0 = .ok (.aload_n 0, 1) := by decide +kernel
theorem dX6_why_1 : decode cX6_why 1 = .ok (.iload_n 1, 1) := by decide +kernel
theorem dX6_why_2 : decode cX6_why 2 = .ok (.invokevirtual 135, 3) := by decide +kernel
theorem dX6_why_5 : decode cX6_why 5 = .ok (.ifCond .eq 20, 3) := by decide +kernel
theorem dX6_why_8 : decode cX6_why 8 = .ok (.iload_n 2, 1) := by decide +kernel
theorem dX6_why_9 : decode cX6_why 9 = .ok (.invokestatic 108, 3) := by decide +kernel
theorem dX6_why_12 : decode cX6_why 12 = .ok (.ifCond .eq 13, 3) := by decide +kernel
theorem dX6_why_15 : decode cX6_why 15 = .ok (.iload_n 3, 1) := by decide +kernel
theorem dX6_why_16 : decode cX6_why 16 = .ok (.i2l, 1) := by decide +kernel
theorem dX6_why_17 : decode cX6_why 17 = .ok (.lconst 0, 1) := by decide +kernel
theorem dX6_why_18 : decode cX6_why 18 = .ok (.lconst 1, 1) := by decide +kernel
theorem dX6_why_19 : decode cX6_why 19 = .ok (.invokestatic 62, 3) := by decide +kernel
theorem dX6_why_22 : decode cX6_why 22 = .ok (.ifCond .ne 9, 3) := by decide +kernel
theorem dX6_why_25 : decode cX6_why 25 = .ok (.aload_n 0, 1) := by decide +kernel
theorem dX6_why_26 : decode cX6_why 26 = .ok (.iconst 0, 1) := by decide +kernel
theorem dX6_why_27 : decode cX6_why 27 = .ok (.invokevirtual 68, 3) := by decide +kernel
theorem dX6_why_30 : decode cX6_why 30 = .ok (.ireturn, 1) := by decide +kernel
theorem dX6_why_31 : decode cX6_why 31 = .ok (.aload_n 0, 1) := by decide +kernel
theorem dX6_why_32 : decode cX6_why 32 = .ok (.getfield 10, 3) := by decide +kernel
theorem dX6_why_35 : decode cX6_why 35 = .ok (.iload_n 1, 1) := by decide +kernel
theorem dX6_why_36 : decode cX6_why 36 = .ok (.iload_n 2, 1) := by decide +kernel
theorem dX6_why_37 : decode cX6_why 37 = .ok (.invokevirtual 171, 3) := by decide +kernel
theorem dX6_why_40 : decode cX6_why 40 = .ok (.ifCond .ne 9, 3) := by decide +kernel
theorem dX6_why_43 : decode cX6_why 43 = .ok (.aload_n 0, 1) := by decide +kernel
theorem dX6_why_44 : decode cX6_why 44 = .ok (.iconst 3, 1) := by decide +kernel
theorem dX6_why_45 : decode cX6_why 45 = .ok (.invokevirtual 68, 3) := by decide +kernel
theorem dX6_why_48 : decode cX6_why 48 = .ok (.ireturn, 1) := by decide +kernel
theorem dX6_why_49 : decode cX6_why 49 = .ok (.aload_n 0, 1) := by decide +kernel
theorem dX6_why_50 : decode cX6_why 50 = .ok (.getfield 10, 3) := by decide +kernel
theorem dX6_why_53 : decode cX6_why 53 = .ok (.iload_n 1, 1) := by decide +kernel
theorem dX6_why_54 : decode cX6_why 54 = .ok (.iload_n 2, 1) := by decide +kernel
theorem dX6_why_55 : decode cX6_why 55 = .ok (.invokevirtual 174, 3) := by decide +kernel
theorem dX6_why_58 : decode cX6_why 58 = .ok (.istore 4, 2) := by decide +kernel
theorem dX6_why_60 : decode cX6_why 60 = .ok (.iload_n 3, 1) := by decide +kernel
theorem dX6_why_61 : decode cX6_why 61 = .ok (.ifCond .ne 17, 3) := by decide +kernel
theorem dX6_why_64 : decode cX6_why 64 = .ok (.aload_n 0, 1) := by decide +kernel
theorem dX6_why_65 : decode cX6_why 65 = .ok (.getfield 10, 3) := by decide +kernel
theorem dX6_why_68 : decode cX6_why 68 = .ok (.iload_n 2, 1) := by decide +kernel
theorem dX6_why_69 : decode cX6_why 69 = .ok (.invokevirtual 86, 3) := by decide +kernel
theorem dX6_why_72 : decode cX6_why 72 = .ok (.iload 4, 2) := by decide +kernel
theorem dX6_why_74 : decode cX6_why 74 = .ok (.iconst (-1), 1) := by decide +kernel
theorem dX6_why_75 : decode cX6_why 75 = .ok (.ixor, 1) := by decide +kernel
theorem dX6_why_76 : decode cX6_why 76 = .ok (.iand, 1) := by decide +kernel
theorem dX6_why_77 : decode cX6_why 77 = .ok (.ireturn, 1) := by decide +kernel
theorem dX6_why_78 : decode cX6_why 78 = .ok (.iload 4, 2) := by decide +kernel
theorem dX6_why_80 : decode cX6_why 80 = .ok (.aload_n 0, 1) := by decide +kernel
theorem dX6_why_81 : decode cX6_why 81 = .ok (.getfield 10, 3) := by decide +kernel
theorem dX6_why_84 : decode cX6_why 84 = .ok (.iload_n 1, 1) := by decide +kernel
theorem dX6_why_85 : decode cX6_why 85 = .ok (.iload_n 2, 1) := by decide +kernel
theorem dX6_why_86 : decode cX6_why 86 = .ok (.invokevirtual 177, 3) := by decide +kernel
theorem dX6_why_89 : decode cX6_why 89 = .ok (.iand, 1) := by decide +kernel
theorem dX6_why_90 : decode cX6_why 90 = .ok (.ireturn, 1) := by decide +kernel
def gX6_why_25 (s : Mem)  : Option (Int32 × Mem) :=
  (fX6_finding s (0 : Int32)).bind (fun y2 => some ((y2.1, y2.2)))
set_option maxRecDepth 4000 in
theorem jgX6_why_25 {X : Scr} (d : Nat) (s : Mem)  {r : (Int32 × Mem)} {w : Option Value} {s' : Mem} (hh : gX6_why_25 s = some r) (hk : w = some (.int r.1) ∧ r.2 = s') : J X MX6_why (d + 3) 25 [some (.ref 0), none, none, none, none] [] s w s' := by
  unfold gX6_why_25 at hh
  refine J_aload_n (pc := 25) dX6_why_25 rfl ?_
  refine J_iconst (pc := 26) dX6_why_26 ci_0 ?_
  obtain ⟨y2, hy2, hh⟩ := bd_some hh
  refine J_callVi (pc := 27) (M' := MX6_finding) (a := 0) (rest := []) (As := [.int (0 : Int32)]) (L0 := [some (.ref 0), some (.int (0 : Int32))]) okX6_finding ovX6_finding mlX6_68 clX6 so0 rfl rfl (Nat.le_of_ble_eq_true rfl) dX6_why_27 rfl (Nat.le_of_ble_eq_true rfl) (jX6_finding (X := X) (d + 1) s (0 : Int32) hy2) ?_
  obtain rfl := Option.some.inj hh
  obtain ⟨rfl, rfl⟩ := hk
  exact J_ret (w := some (.int y2.1)) ⟨dX6_why_30, _, rfl, rfl⟩
def fX6_why (s : Mem) (p0 : Int32) (p1 : Int32) (p2 : Int32) : Option (Int32 × Mem) :=
  (fX6_isPupil s p0).bind (fun y1 => if y1 = (0 : Int32) then gX6_why_25 s else (fX6_isCourse p1).bind (fun y3 => if y3 = (0 : Int32) then gX6_why_25 s else (fX6_within (p2.toInt64) (0 : Int64) (1 : Int64)).bind (fun y4 => if y4 = (0 : Int32) then gX6_why_25 s else (fX0_wishes s p0 p1).bind (fun y5 => if y5 = (0 : Int32) then (fX6_finding s (3 : Int32)).bind (fun y10 => some ((y10.1, y10.2))) else (fX0_freeSet s p0 p1).bind (fun y6 => if p2 = (0 : Int32) then (fX0_lawfulSet s p1).bind (fun y8 => some ((y8 &&& (y6 ^^^ (-1 : Int32)), s))) else (fX0_crowded s p0 p1).bind (fun y7 => some ((y6 &&& y7, s))))))))
set_option maxRecDepth 4000 in
theorem jjX6_why {X : Scr} (d : Nat) (s : Mem) (p0 : Int32) (p1 : Int32) (p2 : Int32) {r : (Int32 × Mem)} {w : Option Value} {s' : Mem} (hh : fX6_why s p0 p1 p2 = some r) (hk : w = some (.int r.1) ∧ r.2 = s') : J X MX6_why (d + 3) 0 [some (.ref 0), some (.int p0), some (.int p1), some (.int p2), none] [] s w s' := by
  unfold fX6_why at hh
  refine J_aload_n (pc := 0) dX6_why_0 rfl ?_
  refine J_iload_n (pc := 1) dX6_why_1 rfl ?_
  obtain ⟨y1, hy1, hh⟩ := bd_some hh
  refine J_callVi (pc := 2) (M' := MX6_isPupil) (a := 0) (rest := []) (As := [.int p0]) (L0 := [some (.ref 0), some (.int p0)]) okX6_isPupil ovX6_isPupil mlX6_135 clX6 so0 rfl rfl (Nat.le_of_ble_eq_true rfl) dX6_why_2 rfl (Nat.le_of_ble_eq_true rfl) (jX6_isPupil (X := X) (d + 1) s p0 hy1) ?_
  refine J_if_eq (pc := 5) 25 dX6_why_5 (by decide) (fun c14 => ?_) (fun c14 => ?_)
  · replace hh := (if_pos c14).symm.trans hh
    refine J_drop 1 (L' := [some (.ref 0), none, some (.int p1), some (.int p2), none]) rfl ?_
    refine J_drop 2 (L' := [some (.ref 0), none, none, some (.int p2), none]) rfl ?_
    refine J_drop 3 (L' := [some (.ref 0), none, none, none, none]) rfl ?_
    exact jgX6_why_25 d s hh hk
  · replace hh := (if_neg c14).symm.trans hh
    refine J_iload_n (pc := 8) dX6_why_8 rfl ?_
    obtain ⟨y3, hy3, hh⟩ := bd_some hh
    refine J_callSi (pc := 9) (M' := MX6_isCourse) (rest := []) (As := [.int p1]) (L0 := [some (.int p1)]) okX6_isCourse osX6_isCourse mlX6_108 rfl rfl (Nat.le_of_ble_eq_true rfl) dX6_why_9 rfl (Nat.le_of_ble_eq_true rfl) (jX6_isCourse (X := X) (d + 1) s p1 hy3) ?_
    refine J_if_eq (pc := 12) 25 dX6_why_12 (by decide) (fun c13 => ?_) (fun c13 => ?_)
    · replace hh := (if_pos c13).symm.trans hh
      refine J_drop 1 (L' := [some (.ref 0), none, some (.int p1), some (.int p2), none]) rfl ?_
      refine J_drop 2 (L' := [some (.ref 0), none, none, some (.int p2), none]) rfl ?_
      refine J_drop 3 (L' := [some (.ref 0), none, none, none, none]) rfl ?_
      exact jgX6_why_25 d s hh hk
    · replace hh := (if_neg c13).symm.trans hh
      refine J_iload_n (pc := 15) dX6_why_15 rfl ?_
      refine J_i2l (pc := 16) dX6_why_16 ?_
      refine J_lconst (pc := 17) (v := 0) dX6_why_17 rfl ?_
      refine J_lconst (pc := 18) (v := 1) dX6_why_18 rfl ?_
      obtain ⟨y4, hy4, hh⟩ := bd_some hh
      refine J_callSi (pc := 19) (M' := MX6_within) (rest := []) (As := [.long (p2.toInt64), .long (0 : Int64), .long (1 : Int64)]) (L0 := [some (.long (p2.toInt64)), none, some (.long (0 : Int64)), none, some (.long (1 : Int64)), none]) okX6_within osX6_within mlX6_62 rfl rfl (Nat.le_of_ble_eq_true rfl) dX6_why_19 rfl (Nat.le_of_ble_eq_true rfl) (jX6_within (X := X) (d + 2) s (p2.toInt64) (0 : Int64) (1 : Int64) hy4) ?_
      refine J_if_ne (pc := 22) 31 dX6_why_22 (by decide) (fun c12 => ?_) (fun c12 => ?_)
      · replace hh := (if_neg c12).symm.trans hh
        refine J_aload_n (pc := 31) dX6_why_31 rfl ?_
        refine J_getR (pc := 32) (k := 0) flX6_10 so0 fk0_0 dX6_why_32 ?_
        refine J_iload_n (pc := 35) dX6_why_35 rfl ?_
        refine J_iload_n (pc := 36) dX6_why_36 rfl ?_
        obtain ⟨y5, hy5, hh⟩ := bd_some hh
        refine J_callVi (pc := 37) (M' := MX0_wishes) (a := 1) (rest := []) (As := [.int p0, .int p1]) (L0 := [some (.ref 1), some (.int p0), some (.int p1)]) okX0_wishes ovX0_wishes mlX6_171 clX0 so1 rfl rfl (Nat.le_of_ble_eq_true rfl) dX6_why_37 rfl (Nat.le_of_ble_eq_true rfl) (jX0_wishes (X := X) (d + 2) s p0 p1 hy5) ?_
        refine J_if_ne (pc := 40) 49 dX6_why_40 (by decide) (fun c11 => ?_) (fun c11 => ?_)
        · replace hh := (if_neg c11).symm.trans hh
          refine J_aload_n (pc := 49) dX6_why_49 rfl ?_
          refine J_getR (pc := 50) (k := 0) flX6_10 so0 fk0_0 dX6_why_50 ?_
          refine J_iload_n (pc := 53) dX6_why_53 rfl ?_
          refine J_iload_n (pc := 54) dX6_why_54 rfl ?_
          obtain ⟨y6, hy6, hh⟩ := bd_some hh
          refine J_callVi (pc := 55) (M' := MX0_freeSet) (a := 1) (rest := []) (As := [.int p0, .int p1]) (L0 := [some (.ref 1), some (.int p0), some (.int p1), none, none, none, none]) okX0_freeSet ovX0_freeSet mlX6_174 clX0 so1 rfl rfl (Nat.le_of_ble_eq_true rfl) dX6_why_55 rfl (Nat.le_of_ble_eq_true rfl) (jX0_freeSet (X := X) d s p0 p1 hy6) ?_
          refine J_istore (pc := 58) (L' := [some (.ref 0), some (.int p0), some (.int p1), some (.int p2), some (.int y6)]) dX6_why_58 rfl (Nat.le_of_ble_eq_true rfl) rfl ?_
          refine J_iload_n (pc := 60) dX6_why_60 rfl ?_
          refine J_if_ne (pc := 61) 78 dX6_why_61 (by decide) (fun c9 => ?_) (fun c9 => ?_)
          · replace hh := (if_neg c9).symm.trans hh
            refine J_iload (pc := 78) dX6_why_78 rfl ?_
            refine J_aload_n (pc := 80) dX6_why_80 rfl ?_
            refine J_getR (pc := 81) (k := 0) flX6_10 so0 fk0_0 dX6_why_81 ?_
            refine J_iload_n (pc := 84) dX6_why_84 rfl ?_
            refine J_iload_n (pc := 85) dX6_why_85 rfl ?_
            obtain ⟨y7, hy7, hh⟩ := bd_some hh
            refine J_callVi (pc := 86) (M' := MX0_crowded) (a := 1) (rest := [.int y6]) (As := [.int p0, .int p1]) (L0 := [some (.ref 1), some (.int p0), some (.int p1), none, none]) okX0_crowded ovX0_crowded mlX6_177 clX0 so1 rfl rfl (Nat.le_of_ble_eq_true rfl) dX6_why_86 rfl (Nat.le_of_ble_eq_true rfl) (jX0_crowded (X := X) d s p0 p1 hy7) ?_
            refine J_iand (pc := 89) dX6_why_89 ?_
            obtain rfl := Option.some.inj hh
            obtain ⟨rfl, rfl⟩ := hk
            exact J_ret (w := some (.int (y6 &&& y7))) ⟨dX6_why_90, _, rfl, rfl⟩
          · replace hh := (if_pos c9).symm.trans hh
            refine J_aload_n (pc := 64) dX6_why_64 rfl ?_
            refine J_getR (pc := 65) (k := 0) flX6_10 so0 fk0_0 dX6_why_65 ?_
            refine J_iload_n (pc := 68) dX6_why_68 rfl ?_
            obtain ⟨y8, hy8, hh⟩ := bd_some hh
            refine J_callVi (pc := 69) (M' := MX0_lawfulSet) (a := 1) (rest := []) (As := [.int p1]) (L0 := [some (.ref 1), some (.int p1), none, none]) okX0_lawfulSet ovX0_lawfulSet mlX6_86 clX0 so1 rfl rfl (Nat.le_of_ble_eq_true rfl) dX6_why_69 rfl (Nat.le_of_ble_eq_true rfl) (jX0_lawfulSet (X := X) (d + 1) s p1 hy8) ?_
            refine J_iload (pc := 72) dX6_why_72 rfl ?_
            refine J_iconst (pc := 74) dX6_why_74 ci_m1 ?_
            refine J_ixor (pc := 75) dX6_why_75 ?_
            refine J_iand (pc := 76) dX6_why_76 ?_
            obtain rfl := Option.some.inj hh
            obtain ⟨rfl, rfl⟩ := hk
            exact J_ret (w := some (.int (y8 &&& (y6 ^^^ (-1 : Int32))))) ⟨dX6_why_77, _, rfl, rfl⟩
        · replace hh := (if_pos c11).symm.trans hh
          refine J_aload_n (pc := 43) dX6_why_43 rfl ?_
          refine J_iconst (pc := 44) dX6_why_44 ci_3 ?_
          obtain ⟨y10, hy10, hh⟩ := bd_some hh
          refine J_callVi (pc := 45) (M' := MX6_finding) (a := 0) (rest := []) (As := [.int (3 : Int32)]) (L0 := [some (.ref 0), some (.int (3 : Int32))]) okX6_finding ovX6_finding mlX6_68 clX6 so0 rfl rfl (Nat.le_of_ble_eq_true rfl) dX6_why_45 rfl (Nat.le_of_ble_eq_true rfl) (jX6_finding (X := X) (d + 1) s (3 : Int32) hy10) ?_
          obtain rfl := Option.some.inj hh
          obtain ⟨rfl, rfl⟩ := hk
          exact J_ret (w := some (.int y10.1)) ⟨dX6_why_48, _, rfl, rfl⟩
      · replace hh := (if_pos c12).symm.trans hh
        refine J_drop 1 (L' := [some (.ref 0), none, some (.int p1), some (.int p2), none]) rfl ?_
        refine J_drop 2 (L' := [some (.ref 0), none, none, some (.int p2), none]) rfl ?_
        refine J_drop 3 (L' := [some (.ref 0), none, none, none, none]) rfl ?_
        exact jgX6_why_25 d s hh hk
theorem jX6_why {X : Scr} (d : Nat) (s : Mem) (p0 : Int32) (p1 : Int32) (p2 : Int32) {r : (Int32 × Mem)} (hh : fX6_why s p0 p1 p2 = some r) : J X MX6_why (d + 3) 0 [some (.ref 0), some (.int p0), some (.int p1), some (.int p2), none] [] s (some (.int r.1)) r.2 := jjX6_why d s p0 p1 p2 hh ⟨rfl, rfl⟩
theorem dX6_both_0 : decode cX6_both 0 = .ok (.aload_n 0, 1) := by decide +kernel
theorem dX6_both_1 : decode cX6_both 1 = .ok (.iload_n 1, 1) := by decide +kernel
theorem dX6_both_2 : decode cX6_both 2 = .ok (.invokevirtual 135, 3) := by decide +kernel
theorem dX6_both_5 : decode cX6_both 5 = .ok (.ifCond .eq 16, 3) := by decide +kernel
theorem dX6_both_8 : decode cX6_both 8 = .ok (.aload_n 0, 1) := by decide +kernel
theorem dX6_both_9 : decode cX6_both 9 = .ok (.iload_n 2, 1) := by decide +kernel
theorem dX6_both_10 : decode cX6_both 10 = .ok (.invokevirtual 135, 3) := by decide +kernel
theorem dX6_both_13 : decode cX6_both 13 = .ok (.ifCond .eq 8, 3) := by decide +kernel
theorem dX6_both_16 : decode cX6_both 16 = .ok (.iload_n 1, 1) := by decide +kernel
theorem dX6_both_17 : decode cX6_both 17 = .ok (.iload_n 2, 1) := by decide +kernel
theorem dX6_both_18 : decode cX6_both 18 = .ok (.if_icmp .ne 9, 3) := by decide +kernel
theorem dX6_both_21 : decode cX6_both 21 = .ok (.aload_n 0, 1) := by decide +kernel
theorem dX6_both_22 : decode cX6_both 22 = .ok (.iconst 0, 1) := by decide +kernel
theorem dX6_both_23 : decode cX6_both 23 = .ok (.invokevirtual 68, 3) := by decide +kernel
theorem dX6_both_26 : decode cX6_both 26 = .ok (.ireturn, 1) := by decide +kernel
theorem dX6_both_27 : decode cX6_both 27 = .ok (.aload_n 0, 1) := by decide +kernel
theorem dX6_both_28 : decode cX6_both 28 = .ok (.getfield 10, 3) := by decide +kernel
theorem dX6_both_31 : decode cX6_both 31 = .ok (.iload_n 1, 1) := by decide +kernel
theorem dX6_both_32 : decode cX6_both 32 = .ok (.iconst (-1), 1) := by decide +kernel
theorem dX6_both_33 : decode cX6_both 33 = .ok (.invokevirtual 145, 3) := by decide +kernel
theorem dX6_both_36 : decode cX6_both 36 = .ok (.aload_n 0, 1) := by decide +kernel
theorem dX6_both_37 : decode cX6_both 37 = .ok (.getfield 10, 3) := by decide +kernel
theorem dX6_both_40 : decode cX6_both 40 = .ok (.iload_n 2, 1) := by decide +kernel
theorem dX6_both_41 : decode cX6_both 41 = .ok (.iconst (-1), 1) := by decide +kernel
theorem dX6_both_42 : decode cX6_both 42 = .ok (.invokevirtual 145, 3) := by decide +kernel
theorem dX6_both_45 : decode cX6_both 45 = .ok (.iand, 1) := by decide +kernel
theorem dX6_both_46 : decode cX6_both 46 = .ok (.ireturn, 1) := by decide +kernel
def gX6_both_21 (s : Mem)  : Option (Int32 × Mem) :=
  (fX6_finding s (0 : Int32)).bind (fun y2 => some ((y2.1, y2.2)))
set_option maxRecDepth 4000 in
theorem jgX6_both_21 {X : Scr} (d : Nat) (s : Mem)  {r : (Int32 × Mem)} {w : Option Value} {s' : Mem} (hh : gX6_both_21 s = some r) (hk : w = some (.int r.1) ∧ r.2 = s') : J X MX6_both (d + 2) 21 [some (.ref 0), none, none] [] s w s' := by
  unfold gX6_both_21 at hh
  refine J_aload_n (pc := 21) dX6_both_21 rfl ?_
  refine J_iconst (pc := 22) dX6_both_22 ci_0 ?_
  obtain ⟨y2, hy2, hh⟩ := bd_some hh
  refine J_callVi (pc := 23) (M' := MX6_finding) (a := 0) (rest := []) (As := [.int (0 : Int32)]) (L0 := [some (.ref 0), some (.int (0 : Int32))]) okX6_finding ovX6_finding mlX6_68 clX6 so0 rfl rfl (Nat.le_of_ble_eq_true rfl) dX6_both_23 rfl (Nat.le_of_ble_eq_true rfl) (jX6_finding (X := X) d s (0 : Int32) hy2) ?_
  obtain rfl := Option.some.inj hh
  obtain ⟨rfl, rfl⟩ := hk
  exact J_ret (w := some (.int y2.1)) ⟨dX6_both_26, _, rfl, rfl⟩
def fX6_both (s : Mem) (p0 : Int32) (p1 : Int32) : Option (Int32 × Mem) :=
  (fX6_isPupil s p0).bind (fun y1 => if y1 = (0 : Int32) then gX6_both_21 s else (fX6_isPupil s p1).bind (fun y3 => if y3 = (0 : Int32) then gX6_both_21 s else if p0 = p1 then gX6_both_21 s else (fX0_busy s p0 (-1 : Int32)).bind (fun y4 => (fX0_busy s p1 (-1 : Int32)).bind (fun y5 => some ((y4 &&& y5, s))))))
set_option maxRecDepth 4000 in
theorem jjX6_both {X : Scr} (d : Nat) (s : Mem) (p0 : Int32) (p1 : Int32) {r : (Int32 × Mem)} {w : Option Value} {s' : Mem} (hh : fX6_both s p0 p1 = some r) (hk : w = some (.int r.1) ∧ r.2 = s') : J X MX6_both (d + 2) 0 [some (.ref 0), some (.int p0), some (.int p1)] [] s w s' := by
  unfold fX6_both at hh
  refine J_aload_n (pc := 0) dX6_both_0 rfl ?_
  refine J_iload_n (pc := 1) dX6_both_1 rfl ?_
  obtain ⟨y1, hy1, hh⟩ := bd_some hh
  refine J_callVi (pc := 2) (M' := MX6_isPupil) (a := 0) (rest := []) (As := [.int p0]) (L0 := [some (.ref 0), some (.int p0)]) okX6_isPupil ovX6_isPupil mlX6_135 clX6 so0 rfl rfl (Nat.le_of_ble_eq_true rfl) dX6_both_2 rfl (Nat.le_of_ble_eq_true rfl) (jX6_isPupil (X := X) d s p0 hy1) ?_
  refine J_if_eq (pc := 5) 21 dX6_both_5 (by decide) (fun c8 => ?_) (fun c8 => ?_)
  · replace hh := (if_pos c8).symm.trans hh
    refine J_drop 1 (L' := [some (.ref 0), none, some (.int p1)]) rfl ?_
    refine J_drop 2 (L' := [some (.ref 0), none, none]) rfl ?_
    exact jgX6_both_21 d s hh hk
  · replace hh := (if_neg c8).symm.trans hh
    refine J_aload_n (pc := 8) dX6_both_8 rfl ?_
    refine J_iload_n (pc := 9) dX6_both_9 rfl ?_
    obtain ⟨y3, hy3, hh⟩ := bd_some hh
    refine J_callVi (pc := 10) (M' := MX6_isPupil) (a := 0) (rest := []) (As := [.int p1]) (L0 := [some (.ref 0), some (.int p1)]) okX6_isPupil ovX6_isPupil mlX6_135 clX6 so0 rfl rfl (Nat.le_of_ble_eq_true rfl) dX6_both_10 rfl (Nat.le_of_ble_eq_true rfl) (jX6_isPupil (X := X) d s p1 hy3) ?_
    refine J_if_eq (pc := 13) 21 dX6_both_13 (by decide) (fun c7 => ?_) (fun c7 => ?_)
    · replace hh := (if_pos c7).symm.trans hh
      refine J_drop 1 (L' := [some (.ref 0), none, some (.int p1)]) rfl ?_
      refine J_drop 2 (L' := [some (.ref 0), none, none]) rfl ?_
      exact jgX6_both_21 d s hh hk
    · replace hh := (if_neg c7).symm.trans hh
      refine J_iload_n (pc := 16) dX6_both_16 rfl ?_
      refine J_iload_n (pc := 17) dX6_both_17 rfl ?_
      refine J_icmp_ne (pc := 18) 27 dX6_both_18 (by decide) (fun c6 => ?_) (fun c6 => ?_)
      · replace hh := (if_neg c6).symm.trans hh
        refine J_aload_n (pc := 27) dX6_both_27 rfl ?_
        refine J_getR (pc := 28) (k := 0) flX6_10 so0 fk0_0 dX6_both_28 ?_
        refine J_iload_n (pc := 31) dX6_both_31 rfl ?_
        refine J_iconst (pc := 32) dX6_both_32 ci_m1 ?_
        obtain ⟨y4, hy4, hh⟩ := bd_some hh
        refine J_callVi (pc := 33) (M' := MX0_busy) (a := 1) (rest := []) (As := [.int p0, .int (-1 : Int32)]) (L0 := [some (.ref 1), some (.int p0), some (.int (-1 : Int32)), none, none, none]) okX0_busy ovX0_busy mlX6_145 clX0 so1 rfl rfl (Nat.le_of_ble_eq_true rfl) dX6_both_33 rfl (Nat.le_of_ble_eq_true rfl) (jX0_busy (X := X) d s p0 (-1 : Int32) hy4) ?_
        refine J_aload_n (pc := 36) dX6_both_36 rfl ?_
        refine J_getR (pc := 37) (k := 0) flX6_10 so0 fk0_0 dX6_both_37 ?_
        refine J_iload_n (pc := 40) dX6_both_40 rfl ?_
        refine J_iconst (pc := 41) dX6_both_41 ci_m1 ?_
        obtain ⟨y5, hy5, hh⟩ := bd_some hh
        refine J_callVi (pc := 42) (M' := MX0_busy) (a := 1) (rest := [.int y4]) (As := [.int p1, .int (-1 : Int32)]) (L0 := [some (.ref 1), some (.int p1), some (.int (-1 : Int32)), none, none, none]) okX0_busy ovX0_busy mlX6_145 clX0 so1 rfl rfl (Nat.le_of_ble_eq_true rfl) dX6_both_42 rfl (Nat.le_of_ble_eq_true rfl) (jX0_busy (X := X) d s p1 (-1 : Int32) hy5) ?_
        refine J_iand (pc := 45) dX6_both_45 ?_
        obtain rfl := Option.some.inj hh
        obtain ⟨rfl, rfl⟩ := hk
        exact J_ret (w := some (.int (y4 &&& y5))) ⟨dX6_both_46, _, rfl, rfl⟩
      · replace hh := (if_pos c6).symm.trans hh
        refine J_drop 1 (L' := [some (.ref 0), none, some (.int p1)]) rfl ?_
        refine J_drop 2 (L' := [some (.ref 0), none, none]) rfl ?_
        exact jgX6_both_21 d s hh hk
theorem jX6_both {X : Scr} (d : Nat) (s : Mem) (p0 : Int32) (p1 : Int32) {r : (Int32 × Mem)} (hh : fX6_both s p0 p1 = some r) : J X MX6_both (d + 2) 0 [some (.ref 0), some (.int p0), some (.int p1)] [] s (some (.int r.1)) r.2 := jjX6_both d s p0 p1 hh ⟨rfl, rfl⟩
theorem dX6_put_0 : decode cX6_put 0 = .ok (.aload_n 0, 1) := by decide +kernel
theorem dX6_put_1 : decode cX6_put 1 = .ok (.iload_n 1, 1) := by decide +kernel
theorem dX6_put_2 : decode cX6_put 2 = .ok (.invokevirtual 135, 3) := by decide +kernel
theorem dX6_put_5 : decode cX6_put 5 = .ok (.ifCond .eq 22, 3) := by decide +kernel
theorem dX6_put_8 : decode cX6_put 8 = .ok (.iload_n 2, 1) := by decide +kernel
theorem dX6_put_9 : decode cX6_put 9 = .ok (.invokestatic 108, 3) := by decide +kernel
theorem dX6_put_12 : decode cX6_put 12 = .ok (.ifCond .eq 15, 3) := by decide +kernel
theorem dX6_put_15 : decode cX6_put 15 = .ok (.iload_n 3, 1) := by decide +kernel
theorem dX6_put_16 : decode cX6_put 16 = .ok (.i2l, 1) := by decide +kernel
theorem dX6_put_17 : decode cX6_put 17 = .ok (.lconst 0, 1) := by decide +kernel
theorem dX6_put_18 : decode cX6_put 18 = .ok (.ldc2_w 111, 3) := by decide +kernel
theorem dX6_put_21 : decode cX6_put 21 = .ok (.invokestatic 62, 3) := by decide +kernel
theorem dX6_put_24 : decode cX6_put 24 = .ok (.ifCond .ne 9, 3) := by decide +kernel
theorem dX6_put_27 : decode cX6_put 27 = .ok (.aload_n 0, 1) := by decide +kernel
theorem dX6_put_28 : decode cX6_put 28 = .ok (.iconst 0, 1) := by decide +kernel
theorem dX6_put_29 : decode cX6_put 29 = .ok (.invokevirtual 68, 3) := by decide +kernel
theorem dX6_put_32 : decode cX6_put 32 = .ok (.ireturn, 1) := by decide +kernel
theorem dX6_put_33 : decode cX6_put 33 = .ok (.aload_n 0, 1) := by decide +kernel
theorem dX6_put_34 : decode cX6_put 34 = .ok (.getfield 10, 3) := by decide +kernel
theorem dX6_put_37 : decode cX6_put 37 = .ok (.iload_n 1, 1) := by decide +kernel
theorem dX6_put_38 : decode cX6_put 38 = .ok (.iload_n 2, 1) := by decide +kernel
theorem dX6_put_39 : decode cX6_put 39 = .ok (.invokevirtual 171, 3) := by decide +kernel
theorem dX6_put_42 : decode cX6_put 42 = .ok (.ifCond .ne 9, 3) := by decide +kernel
theorem dX6_put_45 : decode cX6_put 45 = .ok (.aload_n 0, 1) := by decide +kernel
theorem dX6_put_46 : decode cX6_put 46 = .ok (.iconst 3, 1) := by decide +kernel
theorem dX6_put_47 : decode cX6_put 47 = .ok (.invokevirtual 68, 3) := by decide +kernel
theorem dX6_put_50 : decode cX6_put 50 = .ok (.ireturn, 1) := by decide +kernel
theorem dX6_put_51 : decode cX6_put 51 = .ok (.aload_n 0, 1) := by decide +kernel
theorem dX6_put_52 : decode cX6_put 52 = .ok (.getfield 10, 3) := by decide +kernel
theorem dX6_put_55 : decode cX6_put 55 = .ok (.iload_n 1, 1) := by decide +kernel
theorem dX6_put_56 : decode cX6_put 56 = .ok (.iload_n 2, 1) := by decide +kernel
theorem dX6_put_57 : decode cX6_put 57 = .ok (.invokevirtual 174, 3) := by decide +kernel
theorem dX6_put_60 : decode cX6_put 60 = .ok (.aload_n 0, 1) := by decide +kernel
theorem dX6_put_61 : decode cX6_put 61 = .ok (.getfield 10, 3) := by decide +kernel
theorem dX6_put_64 : decode cX6_put 64 = .ok (.iload_n 1, 1) := by decide +kernel
theorem dX6_put_65 : decode cX6_put 65 = .ok (.iload_n 2, 1) := by decide +kernel
theorem dX6_put_66 : decode cX6_put 66 = .ok (.invokevirtual 177, 3) := by decide +kernel
theorem dX6_put_69 : decode cX6_put 69 = .ok (.iconst (-1), 1) := by decide +kernel
theorem dX6_put_70 : decode cX6_put 70 = .ok (.ixor, 1) := by decide +kernel
theorem dX6_put_71 : decode cX6_put 71 = .ok (.iand, 1) := by decide +kernel
theorem dX6_put_72 : decode cX6_put 72 = .ok (.istore 4, 2) := by decide +kernel
theorem dX6_put_74 : decode cX6_put 74 = .ok (.iload 4, 2) := by decide +kernel
theorem dX6_put_76 : decode cX6_put 76 = .ok (.iload_n 3, 1) := by decide +kernel
theorem dX6_put_77 : decode cX6_put 77 = .ok (.ishr, 1) := by decide +kernel
theorem dX6_put_78 : decode cX6_put 78 = .ok (.iconst 1, 1) := by decide +kernel
theorem dX6_put_79 : decode cX6_put 79 = .ok (.iand, 1) := by decide +kernel
theorem dX6_put_80 : decode cX6_put 80 = .ok (.ifCond .ne 9, 3) := by decide +kernel
theorem dX6_put_83 : decode cX6_put 83 = .ok (.aload_n 0, 1) := by decide +kernel
theorem dX6_put_84 : decode cX6_put 84 = .ok (.iconst 4, 1) := by decide +kernel
theorem dX6_put_85 : decode cX6_put 85 = .ok (.invokevirtual 68, 3) := by decide +kernel
theorem dX6_put_88 : decode cX6_put 88 = .ok (.ireturn, 1) := by decide +kernel
theorem dX6_put_89 : decode cX6_put 89 = .ok (.aload_n 0, 1) := by decide +kernel
theorem dX6_put_90 : decode cX6_put 90 = .ok (.invokevirtual 92, 3) := by decide +kernel
theorem dX6_put_93 : decode cX6_put 93 = .ok (.aload_n 0, 1) := by decide +kernel
theorem dX6_put_94 : decode cX6_put 94 = .ok (.getfield 10, 3) := by decide +kernel
theorem dX6_put_97 : decode cX6_put 97 = .ok (.iload_n 1, 1) := by decide +kernel
theorem dX6_put_98 : decode cX6_put 98 = .ok (.iload_n 2, 1) := by decide +kernel
theorem dX6_put_99 : decode cX6_put 99 = .ok (.iload_n 3, 1) := by decide +kernel
theorem dX6_put_100 : decode cX6_put 100 = .ok (.invokevirtual 180, 3) := by decide +kernel
theorem dX6_put_103 : decode cX6_put 103 = .ok (.ireturn, 1) := by decide +kernel
def gX6_put_27 (s : Mem)  : Option (Int32 × Mem) :=
  (fX6_finding s (0 : Int32)).bind (fun y2 => some ((y2.1, y2.2)))
set_option maxRecDepth 4000 in
theorem jgX6_put_27 {X : Scr} (d : Nat) (s : Mem)  {r : (Int32 × Mem)} {w : Option Value} {s' : Mem} (hh : gX6_put_27 s = some r) (hk : w = some (.int r.1) ∧ r.2 = s') : J X MX6_put (d + 4) 27 [some (.ref 0), none, none, none, none] [] s w s' := by
  unfold gX6_put_27 at hh
  refine J_aload_n (pc := 27) dX6_put_27 rfl ?_
  refine J_iconst (pc := 28) dX6_put_28 ci_0 ?_
  obtain ⟨y2, hy2, hh⟩ := bd_some hh
  refine J_callVi (pc := 29) (M' := MX6_finding) (a := 0) (rest := []) (As := [.int (0 : Int32)]) (L0 := [some (.ref 0), some (.int (0 : Int32))]) okX6_finding ovX6_finding mlX6_68 clX6 so0 rfl rfl (Nat.le_of_ble_eq_true rfl) dX6_put_29 rfl (Nat.le_of_ble_eq_true rfl) (jX6_finding (X := X) (d + 2) s (0 : Int32) hy2) ?_
  obtain rfl := Option.some.inj hh
  obtain ⟨rfl, rfl⟩ := hk
  exact J_ret (w := some (.int y2.1)) ⟨dX6_put_32, _, rfl, rfl⟩
def fX6_put (s : Mem) (p0 : Int32) (p1 : Int32) (p2 : Int32) : Option (Int32 × Mem) :=
  (fX6_isPupil s p0).bind (fun y1 => if y1 = (0 : Int32) then gX6_put_27 s else (fX6_isCourse p1).bind (fun y3 => if y3 = (0 : Int32) then gX6_put_27 s else (fX6_within (p2.toInt64) (0 : Int64) (7 : Int64)).bind (fun y4 => if y4 = (0 : Int32) then gX6_put_27 s else (fX0_wishes s p0 p1).bind (fun y5 => if y5 = (0 : Int32) then (fX6_finding s (3 : Int32)).bind (fun y13 => some ((y13.1, y13.2))) else (fX0_freeSet s p0 p1).bind (fun y6 => (fX0_crowded s p0 p1).bind (fun y7 => lt (y6 &&& (y7 ^^^ (-1 : Int32))) (fun x8 => if ((x8 >>> (p2 &&& 31)) &&& (1 : Int32)) = (0 : Int32) then (fX6_finding s (4 : Int32)).bind (fun y11 => some ((y11.1, y11.2))) else (fX6_begin s).bind (fun y9 => (fX0_sitsNow y9 p0 p1 p2).bind (fun y10 => some ((y10.1, y10.2)))))))))))
set_option maxRecDepth 4000 in
theorem jjX6_put {X : Scr} (d : Nat) (s : Mem) (p0 : Int32) (p1 : Int32) (p2 : Int32) {r : (Int32 × Mem)} {w : Option Value} {s' : Mem} (hh : fX6_put s p0 p1 p2 = some r) (hk : w = some (.int r.1) ∧ r.2 = s') : J X MX6_put (d + 4) 0 [some (.ref 0), some (.int p0), some (.int p1), some (.int p2), none] [] s w s' := by
  unfold fX6_put at hh
  refine J_aload_n (pc := 0) dX6_put_0 rfl ?_
  refine J_iload_n (pc := 1) dX6_put_1 rfl ?_
  obtain ⟨y1, hy1, hh⟩ := bd_some hh
  refine J_callVi (pc := 2) (M' := MX6_isPupil) (a := 0) (rest := []) (As := [.int p0]) (L0 := [some (.ref 0), some (.int p0)]) okX6_isPupil ovX6_isPupil mlX6_135 clX6 so0 rfl rfl (Nat.le_of_ble_eq_true rfl) dX6_put_2 rfl (Nat.le_of_ble_eq_true rfl) (jX6_isPupil (X := X) (d + 2) s p0 hy1) ?_
  refine J_if_eq (pc := 5) 27 dX6_put_5 (by decide) (fun c17 => ?_) (fun c17 => ?_)
  · replace hh := (if_pos c17).symm.trans hh
    refine J_drop 1 (L' := [some (.ref 0), none, some (.int p1), some (.int p2), none]) rfl ?_
    refine J_drop 2 (L' := [some (.ref 0), none, none, some (.int p2), none]) rfl ?_
    refine J_drop 3 (L' := [some (.ref 0), none, none, none, none]) rfl ?_
    exact jgX6_put_27 d s hh hk
  · replace hh := (if_neg c17).symm.trans hh
    refine J_iload_n (pc := 8) dX6_put_8 rfl ?_
    obtain ⟨y3, hy3, hh⟩ := bd_some hh
    refine J_callSi (pc := 9) (M' := MX6_isCourse) (rest := []) (As := [.int p1]) (L0 := [some (.int p1)]) okX6_isCourse osX6_isCourse mlX6_108 rfl rfl (Nat.le_of_ble_eq_true rfl) dX6_put_9 rfl (Nat.le_of_ble_eq_true rfl) (jX6_isCourse (X := X) (d + 2) s p1 hy3) ?_
    refine J_if_eq (pc := 12) 27 dX6_put_12 (by decide) (fun c16 => ?_) (fun c16 => ?_)
    · replace hh := (if_pos c16).symm.trans hh
      refine J_drop 1 (L' := [some (.ref 0), none, some (.int p1), some (.int p2), none]) rfl ?_
      refine J_drop 2 (L' := [some (.ref 0), none, none, some (.int p2), none]) rfl ?_
      refine J_drop 3 (L' := [some (.ref 0), none, none, none, none]) rfl ?_
      exact jgX6_put_27 d s hh hk
    · replace hh := (if_neg c16).symm.trans hh
      refine J_iload_n (pc := 15) dX6_put_15 rfl ?_
      refine J_i2l (pc := 16) dX6_put_16 ?_
      refine J_lconst (pc := 17) (v := 0) dX6_put_17 rfl ?_
      refine J_ldc2 (pc := 18) klX6_111 dX6_put_18 ?_
      obtain ⟨y4, hy4, hh⟩ := bd_some hh
      refine J_callSi (pc := 21) (M' := MX6_within) (rest := []) (As := [.long (p2.toInt64), .long (0 : Int64), .long (7 : Int64)]) (L0 := [some (.long (p2.toInt64)), none, some (.long (0 : Int64)), none, some (.long (7 : Int64)), none]) okX6_within osX6_within mlX6_62 rfl rfl (Nat.le_of_ble_eq_true rfl) dX6_put_21 rfl (Nat.le_of_ble_eq_true rfl) (jX6_within (X := X) (d + 3) s (p2.toInt64) (0 : Int64) (7 : Int64) hy4) ?_
      refine J_if_ne (pc := 24) 33 dX6_put_24 (by decide) (fun c15 => ?_) (fun c15 => ?_)
      · replace hh := (if_neg c15).symm.trans hh
        refine J_aload_n (pc := 33) dX6_put_33 rfl ?_
        refine J_getR (pc := 34) (k := 0) flX6_10 so0 fk0_0 dX6_put_34 ?_
        refine J_iload_n (pc := 37) dX6_put_37 rfl ?_
        refine J_iload_n (pc := 38) dX6_put_38 rfl ?_
        obtain ⟨y5, hy5, hh⟩ := bd_some hh
        refine J_callVi (pc := 39) (M' := MX0_wishes) (a := 1) (rest := []) (As := [.int p0, .int p1]) (L0 := [some (.ref 1), some (.int p0), some (.int p1)]) okX0_wishes ovX0_wishes mlX6_171 clX0 so1 rfl rfl (Nat.le_of_ble_eq_true rfl) dX6_put_39 rfl (Nat.le_of_ble_eq_true rfl) (jX0_wishes (X := X) (d + 3) s p0 p1 hy5) ?_
        refine J_if_ne (pc := 42) 51 dX6_put_42 (by decide) (fun c14 => ?_) (fun c14 => ?_)
        · replace hh := (if_neg c14).symm.trans hh
          refine J_aload_n (pc := 51) dX6_put_51 rfl ?_
          refine J_getR (pc := 52) (k := 0) flX6_10 so0 fk0_0 dX6_put_52 ?_
          refine J_iload_n (pc := 55) dX6_put_55 rfl ?_
          refine J_iload_n (pc := 56) dX6_put_56 rfl ?_
          obtain ⟨y6, hy6, hh⟩ := bd_some hh
          refine J_callVi (pc := 57) (M' := MX0_freeSet) (a := 1) (rest := []) (As := [.int p0, .int p1]) (L0 := [some (.ref 1), some (.int p0), some (.int p1), none, none, none, none]) okX0_freeSet ovX0_freeSet mlX6_174 clX0 so1 rfl rfl (Nat.le_of_ble_eq_true rfl) dX6_put_57 rfl (Nat.le_of_ble_eq_true rfl) (jX0_freeSet (X := X) (d + 1) s p0 p1 hy6) ?_
          refine J_aload_n (pc := 60) dX6_put_60 rfl ?_
          refine J_getR (pc := 61) (k := 0) flX6_10 so0 fk0_0 dX6_put_61 ?_
          refine J_iload_n (pc := 64) dX6_put_64 rfl ?_
          refine J_iload_n (pc := 65) dX6_put_65 rfl ?_
          obtain ⟨y7, hy7, hh⟩ := bd_some hh
          refine J_callVi (pc := 66) (M' := MX0_crowded) (a := 1) (rest := [.int y6]) (As := [.int p0, .int p1]) (L0 := [some (.ref 1), some (.int p0), some (.int p1), none, none]) okX0_crowded ovX0_crowded mlX6_177 clX0 so1 rfl rfl (Nat.le_of_ble_eq_true rfl) dX6_put_66 rfl (Nat.le_of_ble_eq_true rfl) (jX0_crowded (X := X) (d + 1) s p0 p1 hy7) ?_
          refine J_iconst (pc := 69) dX6_put_69 ci_m1 ?_
          refine J_ixor (pc := 70) dX6_put_70 ?_
          refine J_iand (pc := 71) dX6_put_71 ?_
          refine J_istoreL (pc := 72) (fun x8 => [some (.ref 0), some (.int p0), some (.int p1), some (.int p2), some (.int x8)]) dX6_put_72 rfl (Nat.le_of_ble_eq_true rfl) (fun _ => rfl) hh (fun x8 hh => ?_)
          refine J_iload (pc := 74) dX6_put_74 rfl ?_
          refine J_iload_n (pc := 76) dX6_put_76 rfl ?_
          refine J_ishr (pc := 77) dX6_put_77 ?_
          refine J_iconst (pc := 78) dX6_put_78 ci_1 ?_
          refine J_iand (pc := 79) dX6_put_79 ?_
          refine J_if_ne (pc := 80) 89 dX6_put_80 (by decide) (fun c12 => ?_) (fun c12 => ?_)
          · replace hh := (if_neg c12).symm.trans hh
            refine J_aload_n (pc := 89) dX6_put_89 rfl ?_
            obtain ⟨y9, hy9, hh⟩ := bd_some hh
            refine J_callV0 (pc := 90) (M' := MX6_begin) (a := 0) (rest := []) (As := []) (L0 := [some (.ref 0)]) okX6_begin ovX6_begin mlX6_92 clX6 so0 rfl rfl (Nat.le_of_ble_eq_true rfl) dX6_put_90 rfl (Nat.le_of_ble_eq_true rfl) (jX6_begin (X := X) d s hy9) ?_
            refine J_aload_n (pc := 93) dX6_put_93 rfl ?_
            refine J_getR (pc := 94) (k := 0) flX6_10 so0 fk0_0 dX6_put_94 ?_
            refine J_iload_n (pc := 97) dX6_put_97 rfl ?_
            refine J_iload_n (pc := 98) dX6_put_98 rfl ?_
            refine J_iload_n (pc := 99) dX6_put_99 rfl ?_
            obtain ⟨y10, hy10, hh⟩ := bd_some hh
            refine J_callVi (pc := 100) (M' := MX0_sitsNow) (a := 1) (rest := []) (As := [.int p0, .int p1, .int p2]) (L0 := [some (.ref 1), some (.int p0), some (.int p1), some (.int p2), none, none]) okX0_sitsNow ovX0_sitsNow mlX6_180 clX0 so1 rfl rfl (Nat.le_of_ble_eq_true rfl) dX6_put_100 rfl (Nat.le_of_ble_eq_true rfl) (jX0_sitsNow (X := X) (d + 3) y9 p0 p1 p2 hy10) ?_
            obtain rfl := Option.some.inj hh
            obtain ⟨rfl, rfl⟩ := hk
            exact J_ret (w := some (.int y10.1)) ⟨dX6_put_103, _, rfl, rfl⟩
          · replace hh := (if_pos c12).symm.trans hh
            refine J_aload_n (pc := 83) dX6_put_83 rfl ?_
            refine J_iconst (pc := 84) dX6_put_84 ci_4 ?_
            obtain ⟨y11, hy11, hh⟩ := bd_some hh
            refine J_callVi (pc := 85) (M' := MX6_finding) (a := 0) (rest := []) (As := [.int (4 : Int32)]) (L0 := [some (.ref 0), some (.int (4 : Int32))]) okX6_finding ovX6_finding mlX6_68 clX6 so0 rfl rfl (Nat.le_of_ble_eq_true rfl) dX6_put_85 rfl (Nat.le_of_ble_eq_true rfl) (jX6_finding (X := X) (d + 2) s (4 : Int32) hy11) ?_
            obtain rfl := Option.some.inj hh
            obtain ⟨rfl, rfl⟩ := hk
            exact J_ret (w := some (.int y11.1)) ⟨dX6_put_88, _, rfl, rfl⟩
        · replace hh := (if_pos c14).symm.trans hh
          refine J_aload_n (pc := 45) dX6_put_45 rfl ?_
          refine J_iconst (pc := 46) dX6_put_46 ci_3 ?_
          obtain ⟨y13, hy13, hh⟩ := bd_some hh
          refine J_callVi (pc := 47) (M' := MX6_finding) (a := 0) (rest := []) (As := [.int (3 : Int32)]) (L0 := [some (.ref 0), some (.int (3 : Int32))]) okX6_finding ovX6_finding mlX6_68 clX6 so0 rfl rfl (Nat.le_of_ble_eq_true rfl) dX6_put_47 rfl (Nat.le_of_ble_eq_true rfl) (jX6_finding (X := X) (d + 2) s (3 : Int32) hy13) ?_
          obtain rfl := Option.some.inj hh
          obtain ⟨rfl, rfl⟩ := hk
          exact J_ret (w := some (.int y13.1)) ⟨dX6_put_50, _, rfl, rfl⟩
      · replace hh := (if_pos c15).symm.trans hh
        refine J_drop 1 (L' := [some (.ref 0), none, some (.int p1), some (.int p2), none]) rfl ?_
        refine J_drop 2 (L' := [some (.ref 0), none, none, some (.int p2), none]) rfl ?_
        refine J_drop 3 (L' := [some (.ref 0), none, none, none, none]) rfl ?_
        exact jgX6_put_27 d s hh hk
theorem jX6_put {X : Scr} (d : Nat) (s : Mem) (p0 : Int32) (p1 : Int32) (p2 : Int32) {r : (Int32 × Mem)} (hh : fX6_put s p0 p1 p2 = some r) : J X MX6_put (d + 4) 0 [some (.ref 0), some (.int p0), some (.int p1), some (.int p2), none] [] s (some (.int r.1)) r.2 := jjX6_put d s p0 p1 p2 hh ⟨rfl, rfl⟩
theorem dX6_out_0 : decode cX6_out 0 = .ok (.aload_n 0, 1) := by decide +kernel
theorem dX6_out_1 : decode cX6_out 1 = .ok (.iload_n 1, 1) := by decide +kernel
theorem dX6_out_2 : decode cX6_out 2 = .ok (.invokevirtual 135, 3) := by decide +kernel
theorem dX6_out_5 : decode cX6_out 5 = .ok (.ifCond .eq 10, 3) := by decide +kernel
theorem dX6_out_8 : decode cX6_out 8 = .ok (.iload_n 2, 1) := by decide +kernel
theorem dX6_out_9 : decode cX6_out 9 = .ok (.invokestatic 108, 3) := by decide +kernel
theorem dX6_out_12 : decode cX6_out 12 = .ok (.ifCond .ne 9, 3) := by decide +kernel
theorem dX6_out_15 : decode cX6_out 15 = .ok (.aload_n 0, 1) := by decide +kernel
theorem dX6_out_16 : decode cX6_out 16 = .ok (.iconst 0, 1) := by decide +kernel
theorem dX6_out_17 : decode cX6_out 17 = .ok (.invokevirtual 68, 3) := by decide +kernel
theorem dX6_out_20 : decode cX6_out 20 = .ok (.ireturn, 1) := by decide +kernel
theorem dX6_out_21 : decode cX6_out 21 = .ok (.aload_n 0, 1) := by decide +kernel
theorem dX6_out_22 : decode cX6_out 22 = .ok (.getfield 10, 3) := by decide +kernel
theorem dX6_out_25 : decode cX6_out 25 = .ok (.iload_n 1, 1) := by decide +kernel
theorem dX6_out_26 : decode cX6_out 26 = .ok (.iload_n 2, 1) := by decide +kernel
theorem dX6_out_27 : decode cX6_out 27 = .ok (.invokevirtual 154, 3) := by decide +kernel
theorem dX6_out_30 : decode cX6_out 30 = .ok (.ifCond .ge 9, 3) := by decide +kernel
theorem dX6_out_33 : decode cX6_out 33 = .ok (.aload_n 0, 1) := by decide +kernel
theorem dX6_out_34 : decode cX6_out 34 = .ok (.iconst 3, 1) := by decide +kernel
theorem dX6_out_35 : decode cX6_out 35 = .ok (.invokevirtual 68, 3) := by decide +kernel
theorem dX6_out_38 : decode cX6_out 38 = .ok (.ireturn, 1) := by decide +kernel
theorem dX6_out_39 : decode cX6_out 39 = .ok (.aload_n 0, 1) := by decide +kernel
theorem dX6_out_40 : decode cX6_out 40 = .ok (.invokevirtual 92, 3) := by decide +kernel
theorem dX6_out_43 : decode cX6_out 43 = .ok (.aload_n 0, 1) := by decide +kernel
theorem dX6_out_44 : decode cX6_out 44 = .ok (.getfield 10, 3) := by decide +kernel
theorem dX6_out_47 : decode cX6_out 47 = .ok (.iload_n 1, 1) := by decide +kernel
theorem dX6_out_48 : decode cX6_out 48 = .ok (.iload_n 2, 1) := by decide +kernel
theorem dX6_out_49 : decode cX6_out 49 = .ok (.iconst (-1), 1) := by decide +kernel
theorem dX6_out_50 : decode cX6_out 50 = .ok (.invokevirtual 180, 3) := by decide +kernel
theorem dX6_out_53 : decode cX6_out 53 = .ok (.ireturn, 1) := by decide +kernel
def gX6_out_15 (s : Mem)  : Option (Int32 × Mem) :=
  (fX6_finding s (0 : Int32)).bind (fun y2 => some ((y2.1, y2.2)))
set_option maxRecDepth 4000 in
theorem jgX6_out_15 {X : Scr} (d : Nat) (s : Mem)  {r : (Int32 × Mem)} {w : Option Value} {s' : Mem} (hh : gX6_out_15 s = some r) (hk : w = some (.int r.1) ∧ r.2 = s') : J X MX6_out (d + 4) 15 [some (.ref 0), none, none] [] s w s' := by
  unfold gX6_out_15 at hh
  refine J_aload_n (pc := 15) dX6_out_15 rfl ?_
  refine J_iconst (pc := 16) dX6_out_16 ci_0 ?_
  obtain ⟨y2, hy2, hh⟩ := bd_some hh
  refine J_callVi (pc := 17) (M' := MX6_finding) (a := 0) (rest := []) (As := [.int (0 : Int32)]) (L0 := [some (.ref 0), some (.int (0 : Int32))]) okX6_finding ovX6_finding mlX6_68 clX6 so0 rfl rfl (Nat.le_of_ble_eq_true rfl) dX6_out_17 rfl (Nat.le_of_ble_eq_true rfl) (jX6_finding (X := X) (d + 2) s (0 : Int32) hy2) ?_
  obtain rfl := Option.some.inj hh
  obtain ⟨rfl, rfl⟩ := hk
  exact J_ret (w := some (.int y2.1)) ⟨dX6_out_20, _, rfl, rfl⟩
def fX6_out (s : Mem) (p0 : Int32) (p1 : Int32) : Option (Int32 × Mem) :=
  (fX6_isPupil s p0).bind (fun y1 => if y1 = (0 : Int32) then gX6_out_15 s else (fX6_isCourse p1).bind (fun y3 => if y3 = (0 : Int32) then gX6_out_15 s else (fX0_sits s p0 p1).bind (fun y4 => if (0 : Int32) ≤ y4 then (fX6_begin s).bind (fun y5 => (fX0_sitsNow y5 p0 p1 (-1 : Int32)).bind (fun y6 => some ((y6.1, y6.2)))) else (fX6_finding s (3 : Int32)).bind (fun y7 => some ((y7.1, y7.2))))))
set_option maxRecDepth 4000 in
theorem jjX6_out {X : Scr} (d : Nat) (s : Mem) (p0 : Int32) (p1 : Int32) {r : (Int32 × Mem)} {w : Option Value} {s' : Mem} (hh : fX6_out s p0 p1 = some r) (hk : w = some (.int r.1) ∧ r.2 = s') : J X MX6_out (d + 4) 0 [some (.ref 0), some (.int p0), some (.int p1)] [] s w s' := by
  unfold fX6_out at hh
  refine J_aload_n (pc := 0) dX6_out_0 rfl ?_
  refine J_iload_n (pc := 1) dX6_out_1 rfl ?_
  obtain ⟨y1, hy1, hh⟩ := bd_some hh
  refine J_callVi (pc := 2) (M' := MX6_isPupil) (a := 0) (rest := []) (As := [.int p0]) (L0 := [some (.ref 0), some (.int p0)]) okX6_isPupil ovX6_isPupil mlX6_135 clX6 so0 rfl rfl (Nat.le_of_ble_eq_true rfl) dX6_out_2 rfl (Nat.le_of_ble_eq_true rfl) (jX6_isPupil (X := X) (d + 2) s p0 hy1) ?_
  refine J_if_eq (pc := 5) 15 dX6_out_5 (by decide) (fun c10 => ?_) (fun c10 => ?_)
  · replace hh := (if_pos c10).symm.trans hh
    refine J_drop 1 (L' := [some (.ref 0), none, some (.int p1)]) rfl ?_
    refine J_drop 2 (L' := [some (.ref 0), none, none]) rfl ?_
    exact jgX6_out_15 d s hh hk
  · replace hh := (if_neg c10).symm.trans hh
    refine J_iload_n (pc := 8) dX6_out_8 rfl ?_
    obtain ⟨y3, hy3, hh⟩ := bd_some hh
    refine J_callSi (pc := 9) (M' := MX6_isCourse) (rest := []) (As := [.int p1]) (L0 := [some (.int p1)]) okX6_isCourse osX6_isCourse mlX6_108 rfl rfl (Nat.le_of_ble_eq_true rfl) dX6_out_9 rfl (Nat.le_of_ble_eq_true rfl) (jX6_isCourse (X := X) (d + 2) s p1 hy3) ?_
    refine J_if_ne (pc := 12) 21 dX6_out_12 (by decide) (fun c9 => ?_) (fun c9 => ?_)
    · replace hh := (if_neg c9).symm.trans hh
      refine J_aload_n (pc := 21) dX6_out_21 rfl ?_
      refine J_getR (pc := 22) (k := 0) flX6_10 so0 fk0_0 dX6_out_22 ?_
      refine J_iload_n (pc := 25) dX6_out_25 rfl ?_
      refine J_iload_n (pc := 26) dX6_out_26 rfl ?_
      obtain ⟨y4, hy4, hh⟩ := bd_some hh
      refine J_callVi (pc := 27) (M' := MX0_sits) (a := 1) (rest := []) (As := [.int p0, .int p1]) (L0 := [some (.ref 1), some (.int p0), some (.int p1)]) okX0_sits ovX0_sits mlX6_154 clX0 so1 rfl rfl (Nat.le_of_ble_eq_true rfl) dX6_out_27 rfl (Nat.le_of_ble_eq_true rfl) (jX0_sits (X := X) (d + 3) s p0 p1 hy4) ?_
      refine J_if_ge (pc := 30) 39 dX6_out_30 (by decide) (fun c8 => ?_) (fun c8 => ?_)
      · replace hh := (if_pos c8).symm.trans hh
        refine J_aload_n (pc := 39) dX6_out_39 rfl ?_
        obtain ⟨y5, hy5, hh⟩ := bd_some hh
        refine J_callV0 (pc := 40) (M' := MX6_begin) (a := 0) (rest := []) (As := []) (L0 := [some (.ref 0)]) okX6_begin ovX6_begin mlX6_92 clX6 so0 rfl rfl (Nat.le_of_ble_eq_true rfl) dX6_out_40 rfl (Nat.le_of_ble_eq_true rfl) (jX6_begin (X := X) d s hy5) ?_
        refine J_aload_n (pc := 43) dX6_out_43 rfl ?_
        refine J_getR (pc := 44) (k := 0) flX6_10 so0 fk0_0 dX6_out_44 ?_
        refine J_iload_n (pc := 47) dX6_out_47 rfl ?_
        refine J_iload_n (pc := 48) dX6_out_48 rfl ?_
        refine J_iconst (pc := 49) dX6_out_49 ci_m1 ?_
        obtain ⟨y6, hy6, hh⟩ := bd_some hh
        refine J_callVi (pc := 50) (M' := MX0_sitsNow) (a := 1) (rest := []) (As := [.int p0, .int p1, .int (-1 : Int32)]) (L0 := [some (.ref 1), some (.int p0), some (.int p1), some (.int (-1 : Int32)), none, none]) okX0_sitsNow ovX0_sitsNow mlX6_180 clX0 so1 rfl rfl (Nat.le_of_ble_eq_true rfl) dX6_out_50 rfl (Nat.le_of_ble_eq_true rfl) (jX0_sitsNow (X := X) (d + 3) y5 p0 p1 (-1 : Int32) hy6) ?_
        obtain rfl := Option.some.inj hh
        obtain ⟨rfl, rfl⟩ := hk
        exact J_ret (w := some (.int y6.1)) ⟨dX6_out_53, _, rfl, rfl⟩
      · replace hh := (if_neg c8).symm.trans hh
        refine J_aload_n (pc := 33) dX6_out_33 rfl ?_
        refine J_iconst (pc := 34) dX6_out_34 ci_3 ?_
        obtain ⟨y7, hy7, hh⟩ := bd_some hh
        refine J_callVi (pc := 35) (M' := MX6_finding) (a := 0) (rest := []) (As := [.int (3 : Int32)]) (L0 := [some (.ref 0), some (.int (3 : Int32))]) okX6_finding ovX6_finding mlX6_68 clX6 so0 rfl rfl (Nat.le_of_ble_eq_true rfl) dX6_out_35 rfl (Nat.le_of_ble_eq_true rfl) (jX6_finding (X := X) (d + 2) s (3 : Int32) hy7) ?_
        obtain rfl := Option.some.inj hh
        obtain ⟨rfl, rfl⟩ := hk
        exact J_ret (w := some (.int y7.1)) ⟨dX6_out_38, _, rfl, rfl⟩
    · replace hh := (if_pos c9).symm.trans hh
      refine J_drop 1 (L' := [some (.ref 0), none, some (.int p1)]) rfl ?_
      refine J_drop 2 (L' := [some (.ref 0), none, none]) rfl ?_
      exact jgX6_out_15 d s hh hk
theorem jX6_out {X : Scr} (d : Nat) (s : Mem) (p0 : Int32) (p1 : Int32) {r : (Int32 × Mem)} (hh : fX6_out s p0 p1 = some r) : J X MX6_out (d + 4) 0 [some (.ref 0), some (.int p0), some (.int p1)] [] s (some (.int r.1)) r.2 := jjX6_out d s p0 p1 hh ⟨rfl, rfl⟩
theorem dX6_choice_0 : decode cX6_choice 0 = .ok (.aload_n 0, 1) := by decide +kernel
theorem dX6_choice_1 : decode cX6_choice 1 = .ok (.iload_n 1, 1) := by decide +kernel
theorem dX6_choice_2 : decode cX6_choice 2 = .ok (.invokevirtual 135, 3) := by decide +kernel
theorem dX6_choice_5 : decode cX6_choice 5 = .ok (.ifCond .eq 22, 3) := by decide +kernel
theorem dX6_choice_8 : decode cX6_choice 8 = .ok (.iload_n 2, 1) := by decide +kernel
theorem dX6_choice_9 : decode cX6_choice 9 = .ok (.invokestatic 108, 3) := by decide +kernel
theorem dX6_choice_12 : decode cX6_choice 12 = .ok (.ifCond .eq 15, 3) := by decide +kernel
theorem dX6_choice_15 : decode cX6_choice 15 = .ok (.iload_n 3, 1) := by decide +kernel
theorem dX6_choice_16 : decode cX6_choice 16 = .ok (.i2l, 1) := by decide +kernel
theorem dX6_choice_17 : decode cX6_choice 17 = .ok (.lconst 0, 1) := by decide +kernel
theorem dX6_choice_18 : decode cX6_choice 18 = .ok (.ldc2_w 186, 3) := by decide +kernel
theorem dX6_choice_21 : decode cX6_choice 21 = .ok (.invokestatic 62, 3) := by decide +kernel
theorem dX6_choice_24 : decode cX6_choice 24 = .ok (.ifCond .ne 5, 3) := by decide +kernel
theorem dX6_choice_27 : decode cX6_choice 27 = .ok (.iconst (-1), 1) := by decide +kernel
theorem dX6_choice_28 : decode cX6_choice 28 = .ok (.ireturn, 1) := by decide +kernel
theorem dX6_choice_29 : decode cX6_choice 29 = .ok (.aload_n 0, 1) := by decide +kernel
theorem dX6_choice_30 : decode cX6_choice 30 = .ok (.getfield 10, 3) := by decide +kernel
theorem dX6_choice_33 : decode cX6_choice 33 = .ok (.iload_n 1, 1) := by decide +kernel
theorem dX6_choice_34 : decode cX6_choice 34 = .ok (.iload_n 2, 1) := by decide +kernel
theorem dX6_choice_35 : decode cX6_choice 35 = .ok (.invokevirtual 171, 3) := by decide +kernel
theorem dX6_choice_38 : decode cX6_choice 38 = .ok (.ifCond .ne 6, 3) := by decide +kernel
theorem dX6_choice_41 : decode cX6_choice 41 = .ok (.bipush (-4), 2) := by decide +kernel
theorem dX6_choice_43 : decode cX6_choice 43 = .ok (.ireturn, 1) := by decide +kernel
theorem dX6_choice_44 : decode cX6_choice 44 = .ok (.aload_n 0, 1) := by decide +kernel
theorem dX6_choice_45 : decode cX6_choice 45 = .ok (.getfield 10, 3) := by decide +kernel
theorem dX6_choice_48 : decode cX6_choice 48 = .ok (.iload_n 1, 1) := by decide +kernel
theorem dX6_choice_49 : decode cX6_choice 49 = .ok (.iload_n 2, 1) := by decide +kernel
theorem dX6_choice_50 : decode cX6_choice 50 = .ok (.iload_n 3, 1) := by decide +kernel
theorem dX6_choice_51 : decode cX6_choice 51 = .ok (.invokevirtual 306, 3) := by decide +kernel
theorem dX6_choice_54 : decode cX6_choice 54 = .ok (.istore 4, 2) := by decide +kernel
theorem dX6_choice_56 : decode cX6_choice 56 = .ok (.iload 4, 2) := by decide +kernel
theorem dX6_choice_58 : decode cX6_choice 58 = .ok (.ifCond .ge 8, 3) := by decide +kernel
theorem dX6_choice_61 : decode cX6_choice 61 = .ok (.bipush (-5), 2) := by decide +kernel
theorem dX6_choice_63 : decode cX6_choice 63 = .ok (.goto 5, 3) := by decide +kernel
theorem dX6_choice_66 : decode cX6_choice 66 = .ok (.iload 4, 2) := by decide +kernel
theorem dX6_choice_68 : decode cX6_choice 68 = .ok (.ireturn, 1) := by decide +kernel
def fX6_choice (s : Mem) (p0 : Int32) (p1 : Int32) (p2 : Int32) : Option Int32 :=
  (fX6_isPupil s p0).bind (fun y1 => if y1 = (0 : Int32) then some (-1 : Int32) else (fX6_isCourse p1).bind (fun y2 => if y2 = (0 : Int32) then some (-1 : Int32) else (fX6_within (p2.toInt64) (0 : Int64) (4 : Int64)).bind (fun y3 => if y3 = (0 : Int32) then some (-1 : Int32) else (fX0_wishes s p0 p1).bind (fun y4 => if y4 = (0 : Int32) then some (-4 : Int32) else (fX0_choose s p0 p1 p2).bind (fun y5 => if (0 : Int32) ≤ y5 then some y5 else some (-5 : Int32))))))
set_option maxRecDepth 4000 in
theorem jjX6_choice {X : Scr} (d : Nat) (s : Mem) (p0 : Int32) (p1 : Int32) (p2 : Int32) {r : Int32} {w : Option Value} {s' : Mem} (hh : fX6_choice s p0 p1 p2 = some r) (hk : w = some (.int r) ∧ s = s') : J X MX6_choice (d + 4) 0 [some (.ref 0), some (.int p0), some (.int p1), some (.int p2), none] [] s w s' := by
  unfold fX6_choice at hh
  refine J_aload_n (pc := 0) dX6_choice_0 rfl ?_
  refine J_iload_n (pc := 1) dX6_choice_1 rfl ?_
  obtain ⟨y1, hy1, hh⟩ := bd_some hh
  refine J_callVi (pc := 2) (M' := MX6_isPupil) (a := 0) (rest := []) (As := [.int p0]) (L0 := [some (.ref 0), some (.int p0)]) okX6_isPupil ovX6_isPupil mlX6_135 clX6 so0 rfl rfl (Nat.le_of_ble_eq_true rfl) dX6_choice_2 rfl (Nat.le_of_ble_eq_true rfl) (jX6_isPupil (X := X) (d + 2) s p0 hy1) ?_
  refine J_if_eq (pc := 5) 27 dX6_choice_5 (by decide) (fun c10 => ?_) (fun c10 => ?_)
  · replace hh := (if_pos c10).symm.trans hh
    refine J_iconst (pc := 27) dX6_choice_27 ci_m1 ?_
    obtain rfl := Option.some.inj hh
    obtain ⟨rfl, rfl⟩ := hk
    exact J_ret (w := some (.int (-1 : Int32))) ⟨dX6_choice_28, _, rfl, rfl⟩
  · replace hh := (if_neg c10).symm.trans hh
    refine J_iload_n (pc := 8) dX6_choice_8 rfl ?_
    obtain ⟨y2, hy2, hh⟩ := bd_some hh
    refine J_callSi (pc := 9) (M' := MX6_isCourse) (rest := []) (As := [.int p1]) (L0 := [some (.int p1)]) okX6_isCourse osX6_isCourse mlX6_108 rfl rfl (Nat.le_of_ble_eq_true rfl) dX6_choice_9 rfl (Nat.le_of_ble_eq_true rfl) (jX6_isCourse (X := X) (d + 2) s p1 hy2) ?_
    refine J_if_eq (pc := 12) 27 dX6_choice_12 (by decide) (fun c9 => ?_) (fun c9 => ?_)
    · replace hh := (if_pos c9).symm.trans hh
      refine J_iconst (pc := 27) dX6_choice_27 ci_m1 ?_
      obtain rfl := Option.some.inj hh
      obtain ⟨rfl, rfl⟩ := hk
      exact J_ret (w := some (.int (-1 : Int32))) ⟨dX6_choice_28, _, rfl, rfl⟩
    · replace hh := (if_neg c9).symm.trans hh
      refine J_iload_n (pc := 15) dX6_choice_15 rfl ?_
      refine J_i2l (pc := 16) dX6_choice_16 ?_
      refine J_lconst (pc := 17) (v := 0) dX6_choice_17 rfl ?_
      refine J_ldc2 (pc := 18) klX6_186 dX6_choice_18 ?_
      obtain ⟨y3, hy3, hh⟩ := bd_some hh
      refine J_callSi (pc := 21) (M' := MX6_within) (rest := []) (As := [.long (p2.toInt64), .long (0 : Int64), .long (4 : Int64)]) (L0 := [some (.long (p2.toInt64)), none, some (.long (0 : Int64)), none, some (.long (4 : Int64)), none]) okX6_within osX6_within mlX6_62 rfl rfl (Nat.le_of_ble_eq_true rfl) dX6_choice_21 rfl (Nat.le_of_ble_eq_true rfl) (jX6_within (X := X) (d + 3) s (p2.toInt64) (0 : Int64) (4 : Int64) hy3) ?_
      refine J_if_ne (pc := 24) 29 dX6_choice_24 (by decide) (fun c8 => ?_) (fun c8 => ?_)
      · replace hh := (if_neg c8).symm.trans hh
        refine J_aload_n (pc := 29) dX6_choice_29 rfl ?_
        refine J_getR (pc := 30) (k := 0) flX6_10 so0 fk0_0 dX6_choice_30 ?_
        refine J_iload_n (pc := 33) dX6_choice_33 rfl ?_
        refine J_iload_n (pc := 34) dX6_choice_34 rfl ?_
        obtain ⟨y4, hy4, hh⟩ := bd_some hh
        refine J_callVi (pc := 35) (M' := MX0_wishes) (a := 1) (rest := []) (As := [.int p0, .int p1]) (L0 := [some (.ref 1), some (.int p0), some (.int p1)]) okX0_wishes ovX0_wishes mlX6_171 clX0 so1 rfl rfl (Nat.le_of_ble_eq_true rfl) dX6_choice_35 rfl (Nat.le_of_ble_eq_true rfl) (jX0_wishes (X := X) (d + 3) s p0 p1 hy4) ?_
        refine J_if_ne (pc := 38) 44 dX6_choice_38 (by decide) (fun c7 => ?_) (fun c7 => ?_)
        · replace hh := (if_neg c7).symm.trans hh
          refine J_aload_n (pc := 44) dX6_choice_44 rfl ?_
          refine J_getR (pc := 45) (k := 0) flX6_10 so0 fk0_0 dX6_choice_45 ?_
          refine J_iload_n (pc := 48) dX6_choice_48 rfl ?_
          refine J_iload_n (pc := 49) dX6_choice_49 rfl ?_
          refine J_iload_n (pc := 50) dX6_choice_50 rfl ?_
          obtain ⟨y5, hy5, hh⟩ := bd_some hh
          refine J_callVi (pc := 51) (M' := MX0_choose) (a := 1) (rest := []) (As := [.int p0, .int p1, .int p2]) (L0 := [some (.ref 1), some (.int p0), some (.int p1), some (.int p2), none, none, none, none, none]) okX0_choose ovX0_choose mlX6_306 clX0 so1 rfl rfl (Nat.le_of_ble_eq_true rfl) dX6_choice_51 rfl (Nat.le_of_ble_eq_true rfl) (jX0_choose (X := X) d s p0 p1 p2 hy5) ?_
          refine J_istore (pc := 54) (L' := [some (.ref 0), some (.int p0), some (.int p1), some (.int p2), some (.int y5)]) dX6_choice_54 rfl (Nat.le_of_ble_eq_true rfl) rfl ?_
          refine J_iload (pc := 56) dX6_choice_56 rfl ?_
          refine J_if_ge (pc := 58) 66 dX6_choice_58 (by decide) (fun c6 => ?_) (fun c6 => ?_)
          · replace hh := (if_pos c6).symm.trans hh
            refine J_iload (pc := 66) dX6_choice_66 rfl ?_
            obtain rfl := Option.some.inj hh
            obtain ⟨rfl, rfl⟩ := hk
            exact J_ret (w := some (.int y5)) ⟨dX6_choice_68, _, rfl, rfl⟩
          · replace hh := (if_neg c6).symm.trans hh
            refine J_bipush (pc := 61) dX6_choice_61 cb_m5 ?_
            refine J_goto (pc := 63) 68 dX6_choice_63 (by decide) ?_
            obtain rfl := Option.some.inj hh
            obtain ⟨rfl, rfl⟩ := hk
            exact J_ret (w := some (.int (-5 : Int32))) ⟨dX6_choice_68, _, rfl, rfl⟩
        · replace hh := (if_pos c7).symm.trans hh
          refine J_bipush (pc := 41) dX6_choice_41 cb_m4 ?_
          obtain rfl := Option.some.inj hh
          obtain ⟨rfl, rfl⟩ := hk
          exact J_ret (w := some (.int (-4 : Int32))) ⟨dX6_choice_43, _, rfl, rfl⟩
      · replace hh := (if_pos c8).symm.trans hh
        refine J_iconst (pc := 27) dX6_choice_27 ci_m1 ?_
        obtain rfl := Option.some.inj hh
        obtain ⟨rfl, rfl⟩ := hk
        exact J_ret (w := some (.int (-1 : Int32))) ⟨dX6_choice_28, _, rfl, rfl⟩
theorem jX6_choice {X : Scr} (d : Nat) (s : Mem) (p0 : Int32) (p1 : Int32) (p2 : Int32) {r : Int32} (hh : fX6_choice s p0 p1 p2 = some r) : J X MX6_choice (d + 4) 0 [some (.ref 0), some (.int p0), some (.int p1), some (.int p2), none] [] s (some (.int r)) s := jjX6_choice d s p0 p1 p2 hh ⟨rfl, rfl⟩
theorem dX6_pick_0 : decode cX6_pick 0 = .ok (.aload_n 0, 1) := by decide +kernel
theorem dX6_pick_1 : decode cX6_pick 1 = .ok (.iload_n 1, 1) := by decide +kernel
theorem dX6_pick_2 : decode cX6_pick 2 = .ok (.iload_n 2, 1) := by decide +kernel
theorem dX6_pick_3 : decode cX6_pick 3 = .ok (.iload_n 3, 1) := by decide +kernel
theorem dX6_pick_4 : decode cX6_pick 4 = .ok (.invokevirtual 183, 3) := by decide +kernel
theorem dX6_pick_7 : decode cX6_pick 7 = .ok (.istore 4, 2) := by decide +kernel
theorem dX6_pick_9 : decode cX6_pick 9 = .ok (.iload 4, 2) := by decide +kernel
theorem dX6_pick_11 : decode cX6_pick 11 = .ok (.ifCond .ge 12, 3) := by decide +kernel
theorem dX6_pick_14 : decode cX6_pick 14 = .ok (.aload_n 0, 1) := by decide +kernel
theorem dX6_pick_15 : decode cX6_pick 15 = .ok (.iconst (-1), 1) := by decide +kernel
theorem dX6_pick_16 : decode cX6_pick 16 = .ok (.iload 4, 2) := by decide +kernel
theorem dX6_pick_18 : decode cX6_pick 18 = .ok (.isub, 1) := by decide +kernel
theorem dX6_pick_19 : decode cX6_pick 19 = .ok (.invokevirtual 68, 3) := by decide +kernel
theorem dX6_pick_22 : decode cX6_pick 22 = .ok (.ireturn, 1) := by decide +kernel
theorem dX6_pick_23 : decode cX6_pick 23 = .ok (.aload_n 0, 1) := by decide +kernel
theorem dX6_pick_24 : decode cX6_pick 24 = .ok (.invokevirtual 92, 3) := by decide +kernel
theorem dX6_pick_27 : decode cX6_pick 27 = .ok (.aload_n 0, 1) := by decide +kernel
theorem dX6_pick_28 : decode cX6_pick 28 = .ok (.getfield 10, 3) := by decide +kernel
theorem dX6_pick_31 : decode cX6_pick 31 = .ok (.iload_n 1, 1) := by decide +kernel
theorem dX6_pick_32 : decode cX6_pick 32 = .ok (.iload_n 2, 1) := by decide +kernel
theorem dX6_pick_33 : decode cX6_pick 33 = .ok (.iload 4, 2) := by decide +kernel
theorem dX6_pick_35 : decode cX6_pick 35 = .ok (.invokevirtual 180, 3) := by decide +kernel
theorem dX6_pick_38 : decode cX6_pick 38 = .ok (.pop, 1) := by decide +kernel
theorem dX6_pick_39 : decode cX6_pick 39 = .ok (.iload 4, 2) := by decide +kernel
theorem dX6_pick_41 : decode cX6_pick 41 = .ok (.ireturn, 1) := by decide +kernel
def fX6_pick (s : Mem) (p0 : Int32) (p1 : Int32) (p2 : Int32) : Option (Int32 × Mem) :=
  (fX6_choice s p0 p1 p2).bind (fun y1 => if (0 : Int32) ≤ y1 then (fX6_begin s).bind (fun y2 => (fX0_sitsNow y2 p0 p1 y1).bind (fun y3 => some ((y1, y3.2)))) else (fX6_finding s ((-1 : Int32) - y1)).bind (fun y4 => some ((y4.1, y4.2))))
set_option maxRecDepth 4000 in
theorem jjX6_pick {X : Scr} (d : Nat) (s : Mem) (p0 : Int32) (p1 : Int32) (p2 : Int32) {r : (Int32 × Mem)} {w : Option Value} {s' : Mem} (hh : fX6_pick s p0 p1 p2 = some r) (hk : w = some (.int r.1) ∧ r.2 = s') : J X MX6_pick (d + 5) 0 [some (.ref 0), some (.int p0), some (.int p1), some (.int p2), none] [] s w s' := by
  unfold fX6_pick at hh
  refine J_aload_n (pc := 0) dX6_pick_0 rfl ?_
  refine J_iload_n (pc := 1) dX6_pick_1 rfl ?_
  refine J_iload_n (pc := 2) dX6_pick_2 rfl ?_
  refine J_iload_n (pc := 3) dX6_pick_3 rfl ?_
  obtain ⟨y1, hy1, hh⟩ := bd_some hh
  refine J_callVi (pc := 4) (M' := MX6_choice) (a := 0) (rest := []) (As := [.int p0, .int p1, .int p2]) (L0 := [some (.ref 0), some (.int p0), some (.int p1), some (.int p2), none]) okX6_choice ovX6_choice mlX6_183 clX6 so0 rfl rfl (Nat.le_of_ble_eq_true rfl) dX6_pick_4 rfl (Nat.le_of_ble_eq_true rfl) (jX6_choice (X := X) d s p0 p1 p2 hy1) ?_
  refine J_istore (pc := 7) (L' := [some (.ref 0), some (.int p0), some (.int p1), some (.int p2), some (.int y1)]) dX6_pick_7 rfl (Nat.le_of_ble_eq_true rfl) rfl ?_
  refine J_iload (pc := 9) dX6_pick_9 rfl ?_
  refine J_if_ge (pc := 11) 23 dX6_pick_11 (by decide) (fun c5 => ?_) (fun c5 => ?_)
  · replace hh := (if_pos c5).symm.trans hh
    refine J_aload_n (pc := 23) dX6_pick_23 rfl ?_
    obtain ⟨y2, hy2, hh⟩ := bd_some hh
    refine J_callV0 (pc := 24) (M' := MX6_begin) (a := 0) (rest := []) (As := []) (L0 := [some (.ref 0)]) okX6_begin ovX6_begin mlX6_92 clX6 so0 rfl rfl (Nat.le_of_ble_eq_true rfl) dX6_pick_24 rfl (Nat.le_of_ble_eq_true rfl) (jX6_begin (X := X) (d + 1) s hy2) ?_
    refine J_aload_n (pc := 27) dX6_pick_27 rfl ?_
    refine J_getR (pc := 28) (k := 0) flX6_10 so0 fk0_0 dX6_pick_28 ?_
    refine J_iload_n (pc := 31) dX6_pick_31 rfl ?_
    refine J_iload_n (pc := 32) dX6_pick_32 rfl ?_
    refine J_iload (pc := 33) dX6_pick_33 rfl ?_
    obtain ⟨y3, hy3, hh⟩ := bd_some hh
    refine J_callVi (pc := 35) (M' := MX0_sitsNow) (a := 1) (rest := []) (As := [.int p0, .int p1, .int y1]) (L0 := [some (.ref 1), some (.int p0), some (.int p1), some (.int y1), none, none]) okX0_sitsNow ovX0_sitsNow mlX6_180 clX0 so1 rfl rfl (Nat.le_of_ble_eq_true rfl) dX6_pick_35 rfl (Nat.le_of_ble_eq_true rfl) (jX0_sitsNow (X := X) (d + 4) y2 p0 p1 y1 hy3) ?_
    refine J_pop (pc := 38) dX6_pick_38 rfl ?_
    refine J_iload (pc := 39) dX6_pick_39 rfl ?_
    obtain rfl := Option.some.inj hh
    obtain ⟨rfl, rfl⟩ := hk
    exact J_ret (w := some (.int y1)) ⟨dX6_pick_41, _, rfl, rfl⟩
  · replace hh := (if_neg c5).symm.trans hh
    refine J_aload_n (pc := 14) dX6_pick_14 rfl ?_
    refine J_iconst (pc := 15) dX6_pick_15 ci_m1 ?_
    refine J_iload (pc := 16) dX6_pick_16 rfl ?_
    refine J_isub (pc := 18) dX6_pick_18 ?_
    obtain ⟨y4, hy4, hh⟩ := bd_some hh
    refine J_callVi (pc := 19) (M' := MX6_finding) (a := 0) (rest := []) (As := [.int ((-1 : Int32) - y1)]) (L0 := [some (.ref 0), some (.int ((-1 : Int32) - y1))]) okX6_finding ovX6_finding mlX6_68 clX6 so0 rfl rfl (Nat.le_of_ble_eq_true rfl) dX6_pick_19 rfl (Nat.le_of_ble_eq_true rfl) (jX6_finding (X := X) (d + 3) s ((-1 : Int32) - y1) hy4) ?_
    obtain rfl := Option.some.inj hh
    obtain ⟨rfl, rfl⟩ := hk
    exact J_ret (w := some (.int y4.1)) ⟨dX6_pick_22, _, rfl, rfl⟩
theorem jX6_pick {X : Scr} (d : Nat) (s : Mem) (p0 : Int32) (p1 : Int32) (p2 : Int32) {r : (Int32 × Mem)} (hh : fX6_pick s p0 p1 p2 = some r) : J X MX6_pick (d + 5) 0 [some (.ref 0), some (.int p0), some (.int p1), some (.int p2), none] [] s (some (.int r.1)) r.2 := jjX6_pick d s p0 p1 p2 hh ⟨rfl, rfl⟩
theorem dX6_would_0 : decode cX6_would 0 = .ok (.aload_n 0, 1) := by decide +kernel
theorem dX6_would_1 : decode cX6_would 1 = .ok (.iload_n 1, 1) := by decide +kernel
theorem dX6_would_2 : decode cX6_would 2 = .ok (.iload_n 2, 1) := by decide +kernel
theorem dX6_would_3 : decode cX6_would 3 = .ok (.iload_n 3, 1) := by decide +kernel
theorem dX6_would_4 : decode cX6_would 4 = .ok (.invokevirtual 183, 3) := by decide +kernel
theorem dX6_would_7 : decode cX6_would 7 = .ok (.istore 4, 2) := by decide +kernel
theorem dX6_would_9 : decode cX6_would 9 = .ok (.iload 4, 2) := by decide +kernel
theorem dX6_would_11 : decode cX6_would 11 = .ok (.ifCond .ge 14, 3) := by decide +kernel
theorem dX6_would_14 : decode cX6_would 14 = .ok (.aload_n 0, 1) := by decide +kernel
theorem dX6_would_15 : decode cX6_would 15 = .ok (.iconst (-1), 1) := by decide +kernel
theorem dX6_would_16 : decode cX6_would 16 = .ok (.iload 4, 2) := by decide +kernel
theorem dX6_would_18 : decode cX6_would 18 = .ok (.isub, 1) := by decide +kernel
theorem dX6_would_19 : decode cX6_would 19 = .ok (.invokevirtual 68, 3) := by decide +kernel
theorem dX6_would_22 : decode cX6_would 22 = .ok (.goto 5, 3) := by decide +kernel
theorem dX6_would_25 : decode cX6_would 25 = .ok (.iload 4, 2) := by decide +kernel
theorem dX6_would_27 : decode cX6_would 27 = .ok (.ireturn, 1) := by decide +kernel
def fX6_would (s : Mem) (p0 : Int32) (p1 : Int32) (p2 : Int32) : Option (Int32 × Mem) :=
  (fX6_choice s p0 p1 p2).bind (fun y1 => if (0 : Int32) ≤ y1 then some ((y1, s)) else (fX6_finding s ((-1 : Int32) - y1)).bind (fun y2 => some ((y2.1, y2.2))))
set_option maxRecDepth 4000 in
theorem jjX6_would {X : Scr} (d : Nat) (s : Mem) (p0 : Int32) (p1 : Int32) (p2 : Int32) {r : (Int32 × Mem)} {w : Option Value} {s' : Mem} (hh : fX6_would s p0 p1 p2 = some r) (hk : w = some (.int r.1) ∧ r.2 = s') : J X MX6_would (d + 5) 0 [some (.ref 0), some (.int p0), some (.int p1), some (.int p2), none] [] s w s' := by
  unfold fX6_would at hh
  refine J_aload_n (pc := 0) dX6_would_0 rfl ?_
  refine J_iload_n (pc := 1) dX6_would_1 rfl ?_
  refine J_iload_n (pc := 2) dX6_would_2 rfl ?_
  refine J_iload_n (pc := 3) dX6_would_3 rfl ?_
  obtain ⟨y1, hy1, hh⟩ := bd_some hh
  refine J_callVi (pc := 4) (M' := MX6_choice) (a := 0) (rest := []) (As := [.int p0, .int p1, .int p2]) (L0 := [some (.ref 0), some (.int p0), some (.int p1), some (.int p2), none]) okX6_choice ovX6_choice mlX6_183 clX6 so0 rfl rfl (Nat.le_of_ble_eq_true rfl) dX6_would_4 rfl (Nat.le_of_ble_eq_true rfl) (jX6_choice (X := X) d s p0 p1 p2 hy1) ?_
  refine J_istore (pc := 7) (L' := [some (.ref 0), some (.int p0), some (.int p1), some (.int p2), some (.int y1)]) dX6_would_7 rfl (Nat.le_of_ble_eq_true rfl) rfl ?_
  refine J_iload (pc := 9) dX6_would_9 rfl ?_
  refine J_if_ge (pc := 11) 25 dX6_would_11 (by decide) (fun c3 => ?_) (fun c3 => ?_)
  · replace hh := (if_pos c3).symm.trans hh
    refine J_iload (pc := 25) dX6_would_25 rfl ?_
    obtain rfl := Option.some.inj hh
    obtain ⟨rfl, rfl⟩ := hk
    exact J_ret (w := some (.int y1)) ⟨dX6_would_27, _, rfl, rfl⟩
  · replace hh := (if_neg c3).symm.trans hh
    refine J_aload_n (pc := 14) dX6_would_14 rfl ?_
    refine J_iconst (pc := 15) dX6_would_15 ci_m1 ?_
    refine J_iload (pc := 16) dX6_would_16 rfl ?_
    refine J_isub (pc := 18) dX6_would_18 ?_
    obtain ⟨y2, hy2, hh⟩ := bd_some hh
    refine J_callVi (pc := 19) (M' := MX6_finding) (a := 0) (rest := []) (As := [.int ((-1 : Int32) - y1)]) (L0 := [some (.ref 0), some (.int ((-1 : Int32) - y1))]) okX6_finding ovX6_finding mlX6_68 clX6 so0 rfl rfl (Nat.le_of_ble_eq_true rfl) dX6_would_19 rfl (Nat.le_of_ble_eq_true rfl) (jX6_finding (X := X) (d + 3) s ((-1 : Int32) - y1) hy2) ?_
    refine J_goto (pc := 22) 27 dX6_would_22 (by decide) ?_
    obtain rfl := Option.some.inj hh
    obtain ⟨rfl, rfl⟩ := hk
    exact J_ret (w := some (.int y2.1)) ⟨dX6_would_27, _, rfl, rfl⟩
theorem jX6_would {X : Scr} (d : Nat) (s : Mem) (p0 : Int32) (p1 : Int32) (p2 : Int32) {r : (Int32 × Mem)} (hh : fX6_would s p0 p1 p2 = some r) : J X MX6_would (d + 5) 0 [some (.ref 0), some (.int p0), some (.int p1), some (.int p2), none] [] s (some (.int r.1)) r.2 := jjX6_would d s p0 p1 p2 hh ⟨rfl, rfl⟩
theorem dX6_carriedOut_0 : decode cX6_carriedOut 0 = .ok (.lload_n 1, 1) := by decide +kernel
theorem dX6_carriedOut_1 : decode cX6_carriedOut 1 = .ok (.lload_n 1, 1) := by decide +kernel
theorem dX6_carriedOut_2 : decode cX6_carriedOut 2 = .ok (.l2i, 1) := by decide +kernel
theorem dX6_carriedOut_3 : decode cX6_carriedOut 3 = .ok (.i2l, 1) := by decide +kernel
theorem dX6_carriedOut_4 : decode cX6_carriedOut 4 = .ok (.lcmp, 1) := by decide +kernel
theorem dX6_carriedOut_5 : decode cX6_carriedOut 5 = .ok (.ifCond .ne 21, 3) := by decide +kernel
theorem dX6_carriedOut_8 : decode cX6_carriedOut 8 = .ok (.lload_n 3, 1) := by decide +kernel
theorem dX6_carriedOut_9 : decode cX6_carriedOut 9 = .ok (.lload_n 3, 1) := by decide +kernel
theorem dX6_carriedOut_10 : decode cX6_carriedOut 10 = .ok (.l2i, 1) := by decide +kernel
theorem dX6_carriedOut_11 : decode cX6_carriedOut 11 = .ok (.i2l, 1) := by decide +kernel
theorem dX6_carriedOut_12 : decode cX6_carriedOut 12 = .ok (.lcmp, 1) := by decide +kernel
theorem dX6_carriedOut_13 : decode cX6_carriedOut 13 = .ok (.ifCond .ne 13, 3) := by decide +kernel
theorem dX6_carriedOut_16 : decode cX6_carriedOut 16 = .ok (.lload 5, 2) := by decide +kernel
theorem dX6_carriedOut_18 : decode cX6_carriedOut 18 = .ok (.lload 5, 2) := by decide +kernel
theorem dX6_carriedOut_20 : decode cX6_carriedOut 20 = .ok (.l2i, 1) := by decide +kernel
theorem dX6_carriedOut_21 : decode cX6_carriedOut 21 = .ok (.i2l, 1) := by decide +kernel
theorem dX6_carriedOut_22 : decode cX6_carriedOut 22 = .ok (.lcmp, 1) := by decide +kernel
theorem dX6_carriedOut_23 : decode cX6_carriedOut 23 = .ok (.ifCond .eq 5, 3) := by decide +kernel
theorem dX6_carriedOut_26 : decode cX6_carriedOut 26 = .ok (.iconst 0, 1) := by decide +kernel
theorem dX6_carriedOut_27 : decode cX6_carriedOut 27 = .ok (.ireturn, 1) := by decide +kernel
theorem dX6_carriedOut_28 : decode cX6_carriedOut 28 = .ok (.aload_n 0, 1) := by decide +kernel
theorem dX6_carriedOut_29 : decode cX6_carriedOut 29 = .ok (.lload_n 1, 1) := by decide +kernel
theorem dX6_carriedOut_30 : decode cX6_carriedOut 30 = .ok (.l2i, 1) := by decide +kernel
theorem dX6_carriedOut_31 : decode cX6_carriedOut 31 = .ok (.lload_n 3, 1) := by decide +kernel
theorem dX6_carriedOut_32 : decode cX6_carriedOut 32 = .ok (.l2i, 1) := by decide +kernel
theorem dX6_carriedOut_33 : decode cX6_carriedOut 33 = .ok (.lload 5, 2) := by decide +kernel
theorem dX6_carriedOut_35 : decode cX6_carriedOut 35 = .ok (.l2i, 1) := by decide +kernel
theorem dX6_carriedOut_36 : decode cX6_carriedOut 36 = .ok (.invokevirtual 183, 3) := by decide +kernel
theorem dX6_carriedOut_39 : decode cX6_carriedOut 39 = .ok (.istore 7, 2) := by decide +kernel
theorem dX6_carriedOut_41 : decode cX6_carriedOut 41 = .ok (.iload 7, 2) := by decide +kernel
theorem dX6_carriedOut_43 : decode cX6_carriedOut 43 = .ok (.ifCond .ge 5, 3) := by decide +kernel
theorem dX6_carriedOut_46 : decode cX6_carriedOut 46 = .ok (.iconst 0, 1) := by decide +kernel
theorem dX6_carriedOut_47 : decode cX6_carriedOut 47 = .ok (.ireturn, 1) := by decide +kernel
theorem dX6_carriedOut_48 : decode cX6_carriedOut 48 = .ok (.aload_n 0, 1) := by decide +kernel
theorem dX6_carriedOut_49 : decode cX6_carriedOut 49 = .ok (.getfield 10, 3) := by decide +kernel
theorem dX6_carriedOut_52 : decode cX6_carriedOut 52 = .ok (.lload_n 1, 1) := by decide +kernel
theorem dX6_carriedOut_53 : decode cX6_carriedOut 53 = .ok (.l2i, 1) := by decide +kernel
theorem dX6_carriedOut_54 : decode cX6_carriedOut 54 = .ok (.lload_n 3, 1) := by decide +kernel
theorem dX6_carriedOut_55 : decode cX6_carriedOut 55 = .ok (.l2i, 1) := by decide +kernel
theorem dX6_carriedOut_56 : decode cX6_carriedOut 56 = .ok (.iload 7, 2) := by decide +kernel
theorem dX6_carriedOut_58 : decode cX6_carriedOut 58 = .ok (.invokevirtual 180, 3) := by decide +kernel
theorem dX6_carriedOut_61 : decode cX6_carriedOut 61 = .ok (.pop, 1) := by decide +kernel
theorem dX6_carriedOut_62 : decode cX6_carriedOut 62 = .ok (.iconst 1, 1) := by decide +kernel
theorem dX6_carriedOut_63 : decode cX6_carriedOut 63 = .ok (.ireturn, 1) := by decide +kernel
def fX6_carriedOut (s : Mem) (p0 : Int64) (p1 : Int64) (p2 : Int64) : Option (Int32 × Mem) :=
  if (lg_cmp p0 ((p0.toInt32).toInt64)) = (0 : Int32) then if (lg_cmp p1 ((p1.toInt32).toInt64)) = (0 : Int32) then if (lg_cmp p2 ((p2.toInt32).toInt64)) = (0 : Int32) then (fX6_choice s (p0.toInt32) (p1.toInt32) (p2.toInt32)).bind (fun y1 => if (0 : Int32) ≤ y1 then (fX0_sitsNow s (p0.toInt32) (p1.toInt32) y1).bind (fun y2 => some (((1 : Int32), y2.2))) else some (((0 : Int32), s))) else some (((0 : Int32), s)) else some (((0 : Int32), s)) else some (((0 : Int32), s))
set_option maxRecDepth 4000 in
theorem jjX6_carriedOut {X : Scr} (d : Nat) (s : Mem) (p0 : Int64) (p1 : Int64) (p2 : Int64) {r : (Int32 × Mem)} {w : Option Value} {s' : Mem} (hh : fX6_carriedOut s p0 p1 p2 = some r) (hk : w = some (.int r.1) ∧ r.2 = s') : J X MX6_carriedOut (d + 5) 0 [some (.ref 0), some (.long p0), none, some (.long p1), none, some (.long p2), none, none] [] s w s' := by
  unfold fX6_carriedOut at hh
  refine J_lload_n (pc := 0) dX6_carriedOut_0 rfl ?_
  refine J_lload_n (pc := 1) dX6_carriedOut_1 rfl ?_
  refine J_l2i (pc := 2) dX6_carriedOut_2 ?_
  refine J_i2l (pc := 3) dX6_carriedOut_3 ?_
  refine J_lcmp (pc := 4) dX6_carriedOut_4 ?_
  refine J_if_ne (pc := 5) 26 dX6_carriedOut_5 (by decide) (fun c6 => ?_) (fun c6 => ?_)
  · replace hh := (if_neg c6).symm.trans hh
    refine J_iconst (pc := 26) dX6_carriedOut_26 ci_0 ?_
    obtain rfl := Option.some.inj hh
    obtain ⟨rfl, rfl⟩ := hk
    exact J_ret (w := some (.int (0 : Int32))) ⟨dX6_carriedOut_27, _, rfl, rfl⟩
  · replace hh := (if_pos c6).symm.trans hh
    refine J_lload_n (pc := 8) dX6_carriedOut_8 rfl ?_
    refine J_lload_n (pc := 9) dX6_carriedOut_9 rfl ?_
    refine J_l2i (pc := 10) dX6_carriedOut_10 ?_
    refine J_i2l (pc := 11) dX6_carriedOut_11 ?_
    refine J_lcmp (pc := 12) dX6_carriedOut_12 ?_
    refine J_if_ne (pc := 13) 26 dX6_carriedOut_13 (by decide) (fun c5 => ?_) (fun c5 => ?_)
    · replace hh := (if_neg c5).symm.trans hh
      refine J_iconst (pc := 26) dX6_carriedOut_26 ci_0 ?_
      obtain rfl := Option.some.inj hh
      obtain ⟨rfl, rfl⟩ := hk
      exact J_ret (w := some (.int (0 : Int32))) ⟨dX6_carriedOut_27, _, rfl, rfl⟩
    · replace hh := (if_pos c5).symm.trans hh
      refine J_lload (pc := 16) dX6_carriedOut_16 rfl ?_
      refine J_lload (pc := 18) dX6_carriedOut_18 rfl ?_
      refine J_l2i (pc := 20) dX6_carriedOut_20 ?_
      refine J_i2l (pc := 21) dX6_carriedOut_21 ?_
      refine J_lcmp (pc := 22) dX6_carriedOut_22 ?_
      refine J_if_eq (pc := 23) 28 dX6_carriedOut_23 (by decide) (fun c4 => ?_) (fun c4 => ?_)
      · replace hh := (if_pos c4).symm.trans hh
        refine J_aload_n (pc := 28) dX6_carriedOut_28 rfl ?_
        refine J_lload_n (pc := 29) dX6_carriedOut_29 rfl ?_
        refine J_l2i (pc := 30) dX6_carriedOut_30 ?_
        refine J_lload_n (pc := 31) dX6_carriedOut_31 rfl ?_
        refine J_l2i (pc := 32) dX6_carriedOut_32 ?_
        refine J_lload (pc := 33) dX6_carriedOut_33 rfl ?_
        refine J_l2i (pc := 35) dX6_carriedOut_35 ?_
        obtain ⟨y1, hy1, hh⟩ := bd_some hh
        refine J_callVi (pc := 36) (M' := MX6_choice) (a := 0) (rest := []) (As := [.int (p0.toInt32), .int (p1.toInt32), .int (p2.toInt32)]) (L0 := [some (.ref 0), some (.int (p0.toInt32)), some (.int (p1.toInt32)), some (.int (p2.toInt32)), none]) okX6_choice ovX6_choice mlX6_183 clX6 so0 rfl rfl (Nat.le_of_ble_eq_true rfl) dX6_carriedOut_36 rfl (Nat.le_of_ble_eq_true rfl) (jX6_choice (X := X) d s (p0.toInt32) (p1.toInt32) (p2.toInt32) hy1) ?_
        refine J_istore (pc := 39) (L' := [some (.ref 0), some (.long p0), none, some (.long p1), none, some (.long p2), none, some (.int y1)]) dX6_carriedOut_39 rfl (Nat.le_of_ble_eq_true rfl) rfl ?_
        refine J_iload (pc := 41) dX6_carriedOut_41 rfl ?_
        refine J_if_ge (pc := 43) 48 dX6_carriedOut_43 (by decide) (fun c3 => ?_) (fun c3 => ?_)
        · replace hh := (if_pos c3).symm.trans hh
          refine J_aload_n (pc := 48) dX6_carriedOut_48 rfl ?_
          refine J_getR (pc := 49) (k := 0) flX6_10 so0 fk0_0 dX6_carriedOut_49 ?_
          refine J_lload_n (pc := 52) dX6_carriedOut_52 rfl ?_
          refine J_l2i (pc := 53) dX6_carriedOut_53 ?_
          refine J_lload_n (pc := 54) dX6_carriedOut_54 rfl ?_
          refine J_l2i (pc := 55) dX6_carriedOut_55 ?_
          refine J_iload (pc := 56) dX6_carriedOut_56 rfl ?_
          obtain ⟨y2, hy2, hh⟩ := bd_some hh
          refine J_callVi (pc := 58) (M' := MX0_sitsNow) (a := 1) (rest := []) (As := [.int (p0.toInt32), .int (p1.toInt32), .int y1]) (L0 := [some (.ref 1), some (.int (p0.toInt32)), some (.int (p1.toInt32)), some (.int y1), none, none]) okX0_sitsNow ovX0_sitsNow mlX6_180 clX0 so1 rfl rfl (Nat.le_of_ble_eq_true rfl) dX6_carriedOut_58 rfl (Nat.le_of_ble_eq_true rfl) (jX0_sitsNow (X := X) (d + 4) s (p0.toInt32) (p1.toInt32) y1 hy2) ?_
          refine J_pop (pc := 61) dX6_carriedOut_61 rfl ?_
          refine J_iconst (pc := 62) dX6_carriedOut_62 ci_1 ?_
          obtain rfl := Option.some.inj hh
          obtain ⟨rfl, rfl⟩ := hk
          exact J_ret (w := some (.int (1 : Int32))) ⟨dX6_carriedOut_63, _, rfl, rfl⟩
        · replace hh := (if_neg c3).symm.trans hh
          refine J_iconst (pc := 46) dX6_carriedOut_46 ci_0 ?_
          obtain rfl := Option.some.inj hh
          obtain ⟨rfl, rfl⟩ := hk
          exact J_ret (w := some (.int (0 : Int32))) ⟨dX6_carriedOut_47, _, rfl, rfl⟩
      · replace hh := (if_neg c4).symm.trans hh
        refine J_iconst (pc := 26) dX6_carriedOut_26 ci_0 ?_
        obtain rfl := Option.some.inj hh
        obtain ⟨rfl, rfl⟩ := hk
        exact J_ret (w := some (.int (0 : Int32))) ⟨dX6_carriedOut_27, _, rfl, rfl⟩
theorem jX6_carriedOut {X : Scr} (d : Nat) (s : Mem) (p0 : Int64) (p1 : Int64) (p2 : Int64) {r : (Int32 × Mem)} (hh : fX6_carriedOut s p0 p1 p2 = some r) : J X MX6_carriedOut (d + 5) 0 [some (.ref 0), some (.long p0), none, some (.long p1), none, some (.long p2), none, none] [] s (some (.int r.1)) r.2 := jjX6_carriedOut d s p0 p1 p2 hh ⟨rfl, rfl⟩
theorem dX6_fill_0 : decode cX6_fill 0 = .ok (.iload_n 1, 1) := by decide +kernel
theorem dX6_fill_1 : decode cX6_fill 1 = .ok (.i2l, 1) := by decide +kernel
theorem dX6_fill_2 : decode cX6_fill 2 = .ok (.lconst 0, 1) := by decide +kernel
theorem dX6_fill_3 : decode cX6_fill 3 = .ok (.ldc2_w 186, 3) := by decide +kernel
theorem dX6_fill_6 : decode cX6_fill 6 = .ok (.invokestatic 62, 3) := by decide +kernel
theorem dX6_fill_9 : decode cX6_fill 9 = .ok (.ifCond .ne 9, 3) := by decide +kernel
theorem dX6_fill_12 : decode cX6_fill 12 = .ok (.aload_n 0, 1) := by decide +kernel
theorem dX6_fill_13 : decode cX6_fill 13 = .ok (.iconst 0, 1) := by decide +kernel
theorem dX6_fill_14 : decode cX6_fill 14 = .ok (.invokevirtual 68, 3) := by decide +kernel
theorem dX6_fill_17 : decode cX6_fill 17 = .ok (.ireturn, 1) := by decide +kernel
theorem dX6_fill_18 : decode cX6_fill 18 = .ok (.aload_n 0, 1) := by decide +kernel
theorem dX6_fill_19 : decode cX6_fill 19 = .ok (.invokevirtual 92, 3) := by decide +kernel
theorem dX6_fill_22 : decode cX6_fill 22 = .ok (.iconst 0, 1) := by decide +kernel
theorem dX6_fill_23 : decode cX6_fill 23 = .ok (.istore_n 2, 1) := by decide +kernel
theorem dX6_fill_24 : decode cX6_fill 24 = .ok (.iconst 0, 1) := by decide +kernel
theorem dX6_fill_25 : decode cX6_fill 25 = .ok (.istore_n 3, 1) := by decide +kernel
theorem dX6_fill_26 : decode cX6_fill 26 = .ok (.iload_n 3, 1) := by decide +kernel
theorem dX6_fill_27 : decode cX6_fill 27 = .ok (.aload_n 0, 1) := by decide +kernel
theorem dX6_fill_28 : decode cX6_fill 28 = .ok (.getfield 10, 3) := by decide +kernel
theorem dX6_fill_31 : decode cX6_fill 31 = .ok (.invokevirtual 125, 3) := by decide +kernel
theorem dX6_fill_34 : decode cX6_fill 34 = .ok (.if_icmp .ge 51, 3) := by decide +kernel
theorem dX6_fill_37 : decode cX6_fill 37 = .ok (.iconst 0, 1) := by decide +kernel
theorem dX6_fill_38 : decode cX6_fill 38 = .ok (.istore 4, 2) := by decide +kernel
theorem dX6_fill_40 : decode cX6_fill 40 = .ok (.iload 4, 2) := by decide +kernel
theorem dX6_fill_42 : decode cX6_fill 42 = .ok (.iconst 4, 1) := by decide +kernel
theorem dX6_fill_43 : decode cX6_fill 43 = .ok (.if_icmp .ge 36, 3) := by decide +kernel
theorem dX6_fill_46 : decode cX6_fill 46 = .ok (.aload_n 0, 1) := by decide +kernel
theorem dX6_fill_47 : decode cX6_fill 47 = .ok (.getfield 10, 3) := by decide +kernel
theorem dX6_fill_50 : decode cX6_fill 50 = .ok (.iload_n 3, 1) := by decide +kernel
theorem dX6_fill_51 : decode cX6_fill 51 = .ok (.iload 4, 2) := by decide +kernel
theorem dX6_fill_53 : decode cX6_fill 53 = .ok (.invokevirtual 154, 3) := by decide +kernel
theorem dX6_fill_56 : decode cX6_fill 56 = .ok (.ifCond .ge 17, 3) := by decide +kernel
theorem dX6_fill_59 : decode cX6_fill 59 = .ok (.iload_n 2, 1) := by decide +kernel
theorem dX6_fill_60 : decode cX6_fill 60 = .ok (.aload_n 0, 1) := by decide +kernel
theorem dX6_fill_61 : decode cX6_fill 61 = .ok (.iload_n 3, 1) := by decide +kernel
theorem dX6_fill_62 : decode cX6_fill 62 = .ok (.i2l, 1) := by decide +kernel
theorem dX6_fill_63 : decode cX6_fill 63 = .ok (.iload 4, 2) := by decide +kernel
theorem dX6_fill_65 : decode cX6_fill 65 = .ok (.i2l, 1) := by decide +kernel
theorem dX6_fill_66 : decode cX6_fill 66 = .ok (.iload_n 1, 1) := by decide +kernel
theorem dX6_fill_67 : decode cX6_fill 67 = .ok (.i2l, 1) := by decide +kernel
theorem dX6_fill_68 : decode cX6_fill 68 = .ok (.invokevirtual 188, 3) := by decide +kernel
theorem dX6_fill_71 : decode cX6_fill 71 = .ok (.iadd, 1) := by decide +kernel
theorem dX6_fill_72 : decode cX6_fill 72 = .ok (.istore_n 2, 1) := by decide +kernel
theorem dX6_fill_73 : decode cX6_fill 73 = .ok (.iinc 4 1, 3) := by decide +kernel
theorem dX6_fill_76 : decode cX6_fill 76 = .ok (.goto (-36), 3) := by decide +kernel
theorem dX6_fill_79 : decode cX6_fill 79 = .ok (.iinc 3 1, 3) := by decide +kernel
theorem dX6_fill_82 : decode cX6_fill 82 = .ok (.goto (-56), 3) := by decide +kernel
theorem dX6_fill_85 : decode cX6_fill 85 = .ok (.iload_n 2, 1) := by decide +kernel
theorem dX6_fill_86 : decode cX6_fill 86 = .ok (.ireturn, 1) := by decide +kernel
def bX6_fill_40 (s : Mem) (v1 : Int32) (v3 : Int32) (v2 : Int32) (v4 : Int32) : Option ((Int32 × Mem) ⊕ (Int32 × Int32 × Mem)) :=
  if (4 : Int32) ≤ v4 then some (Sum.inl (v2, s)) else (fX0_sits s v3 v4).bind (fun y4 => if (0 : Int32) ≤ y4 then lt (v4 + (1 : Int32)) (fun x5 => some (Sum.inr (v2, x5, s))) else (fX6_carriedOut s (v3.toInt64) (v4.toInt64) (v1.toInt64)).bind (fun y6 => lt (v2 + y6.1) (fun x7 => lt (v4 + (1 : Int32)) (fun x8 => some (Sum.inr (x7, x8, y6.2))))))
set_option maxRecDepth 4000 in
theorem jbX6_fill_40 {X : Scr} (d : Nat) (s : Mem) (v1 : Int32) (v3 : Int32) (v2 : Int32) (v4 : Int32) {r : ((Int32 × Mem) ⊕ (Int32 × Int32 × Mem))} {w : Option Value} {s' : Mem} (hh : bX6_fill_40 s v1 v3 v2 v4 = some r) (hk : Sum.elim (fun t : (Int32 × Mem) => J X MX6_fill (d + 6) 79 [some (.ref 0), some (.int v1), some (.int t.1), some (.int v3), none] [] t.2 w s') (fun a : (Int32 × Int32 × Mem) => J X MX6_fill (d + 6) 40 [some (.ref 0), some (.int v1), some (.int a.1), some (.int v3), some (.int a.2.1)] [] a.2.2 w s') r) : J X MX6_fill (d + 6) 40 [some (.ref 0), some (.int v1), some (.int v2), some (.int v3), some (.int v4)] [] s w s' := by
  unfold bX6_fill_40 at hh
  refine J_iload (pc := 40) dX6_fill_40 rfl ?_
  refine J_iconst (pc := 42) dX6_fill_42 ci_4 ?_
  refine J_icmp_ge (pc := 43) 79 dX6_fill_43 (by decide) (fun c10 => ?_) (fun c10 => ?_)
  · replace hh := (if_pos c10).symm.trans hh
    refine J_drop 4 (L' := [some (.ref 0), some (.int v1), some (.int v2), some (.int v3), none]) rfl ?_
    obtain rfl := Option.some.inj hh
    exact hk
  · replace hh := (if_neg c10).symm.trans hh
    refine J_aload_n (pc := 46) dX6_fill_46 rfl ?_
    refine J_getR (pc := 47) (k := 0) flX6_10 so0 fk0_0 dX6_fill_47 ?_
    refine J_iload_n (pc := 50) dX6_fill_50 rfl ?_
    refine J_iload (pc := 51) dX6_fill_51 rfl ?_
    obtain ⟨y4, hy4, hh⟩ := bd_some hh
    refine J_callVi (pc := 53) (M' := MX0_sits) (a := 1) (rest := []) (As := [.int v3, .int v4]) (L0 := [some (.ref 1), some (.int v3), some (.int v4)]) okX0_sits ovX0_sits mlX6_154 clX0 so1 rfl rfl (Nat.le_of_ble_eq_true rfl) dX6_fill_53 rfl (Nat.le_of_ble_eq_true rfl) (jX0_sits (X := X) (d + 5) s v3 v4 hy4) ?_
    refine J_if_ge (pc := 56) 73 dX6_fill_56 (by decide) (fun c9 => ?_) (fun c9 => ?_)
    · replace hh := (if_pos c9).symm.trans hh
      refine J_iincL (pc := 73) (v := v4 + (1 : Int32)) (fun x5 => [some (.ref 0), some (.int v1), some (.int v2), some (.int v3), some (.int x5)]) dX6_fill_73 rfl rfl (Nat.le_of_ble_eq_true rfl) (congrArg _ ci_1) (fun _ => rfl) hh (fun x5 hh => ?_)
      refine J_goto (pc := 76) 40 dX6_fill_76 (by decide) ?_
      obtain rfl := Option.some.inj hh
      exact hk
    · replace hh := (if_neg c9).symm.trans hh
      refine J_iload_n (pc := 59) dX6_fill_59 rfl ?_
      refine J_aload_n (pc := 60) dX6_fill_60 rfl ?_
      refine J_iload_n (pc := 61) dX6_fill_61 rfl ?_
      refine J_i2l (pc := 62) dX6_fill_62 ?_
      refine J_iload (pc := 63) dX6_fill_63 rfl ?_
      refine J_i2l (pc := 65) dX6_fill_65 ?_
      refine J_iload_n (pc := 66) dX6_fill_66 rfl ?_
      refine J_i2l (pc := 67) dX6_fill_67 ?_
      obtain ⟨y6, hy6, hh⟩ := bd_some hh
      refine J_callVi (pc := 68) (M' := MX6_carriedOut) (a := 0) (rest := [.int v2]) (As := [.long (v3.toInt64), .long (v4.toInt64), .long (v1.toInt64)]) (L0 := [some (.ref 0), some (.long (v3.toInt64)), none, some (.long (v4.toInt64)), none, some (.long (v1.toInt64)), none, none]) okX6_carriedOut ovX6_carriedOut mlX6_188 clX6 so0 rfl rfl (Nat.le_of_ble_eq_true rfl) dX6_fill_68 rfl (Nat.le_of_ble_eq_true rfl) (jX6_carriedOut (X := X) d s (v3.toInt64) (v4.toInt64) (v1.toInt64) hy6) ?_
      refine J_iadd (pc := 71) dX6_fill_71 ?_
      refine J_istoreL_n (pc := 72) (fun x7 => [some (.ref 0), some (.int v1), some (.int x7), some (.int v3), some (.int v4)]) dX6_fill_72 rfl (Nat.le_of_ble_eq_true rfl) (fun _ => rfl) hh (fun x7 hh => ?_)
      refine J_iincL (pc := 73) (v := v4 + (1 : Int32)) (fun x8 => [some (.ref 0), some (.int v1), some (.int x7), some (.int v3), some (.int x8)]) dX6_fill_73 rfl rfl (Nat.le_of_ble_eq_true rfl) (congrArg _ ci_1) (fun _ => rfl) hh (fun x8 hh => ?_)
      refine J_goto (pc := 76) 40 dX6_fill_76 (by decide) ?_
      obtain rfl := Option.some.inj hh
      exact hk
def bX6_fill_26 (s : Mem) (v1 : Int32) (v2 : Int32) (v3 : Int32) : Option ((Int32 × Mem) ⊕ (Int32 × Int32 × Mem)) :=
  (fX0_pupils s).bind (fun y3 => if y3 ≤ v3 then some (Sum.inl (v2, s)) else (lp (fun a => bX6_fill_40 a.2.2 v1 v3 a.1 a.2.1) 600 (v2, (0 : Int32), s)).bind (fun y11 => lt (v3 + (1 : Int32)) (fun x12 => some (Sum.inr (y11.1, x12, y11.2)))))
set_option maxRecDepth 4000 in
theorem jbX6_fill_26 {X : Scr} (d : Nat) (s : Mem) (v1 : Int32) (v2 : Int32) (v3 : Int32) {r : ((Int32 × Mem) ⊕ (Int32 × Int32 × Mem))} {w : Option Value} {s' : Mem} (hh : bX6_fill_26 s v1 v2 v3 = some r) (hk : Sum.elim (fun t : (Int32 × Mem) => J X MX6_fill (d + 6) 85 [none, none, some (.int t.1), none, none] [] t.2 w s') (fun a : (Int32 × Int32 × Mem) => J X MX6_fill (d + 6) 26 [some (.ref 0), some (.int v1), some (.int a.1), some (.int a.2.1), none] [] a.2.2 w s') r) : J X MX6_fill (d + 6) 26 [some (.ref 0), some (.int v1), some (.int v2), some (.int v3), none] [] s w s' := by
  unfold bX6_fill_26 at hh
  refine J_iload_n (pc := 26) dX6_fill_26 rfl ?_
  refine J_aload_n (pc := 27) dX6_fill_27 rfl ?_
  refine J_getR (pc := 28) (k := 0) flX6_10 so0 fk0_0 dX6_fill_28 ?_
  obtain ⟨y3, hy3, hh⟩ := bd_some hh
  refine J_callVi (pc := 31) (M' := MX0_pupils) (a := 1) (rest := [.int v3]) (As := []) (L0 := [some (.ref 1)]) okX0_pupils ovX0_pupils mlX6_125 clX0 so1 rfl rfl (Nat.le_of_ble_eq_true rfl) dX6_fill_31 rfl (Nat.le_of_ble_eq_true rfl) (jX0_pupils (X := X) (d + 5) s hy3) ?_
  refine J_icmp_ge (pc := 34) 85 dX6_fill_34 (by decide) (fun c13 => ?_) (fun c13 => ?_)
  · replace hh := (if_pos c13).symm.trans hh
    refine J_drop 0 (L' := [none, some (.int v1), some (.int v2), some (.int v3), none]) rfl ?_
    refine J_drop 1 (L' := [none, none, some (.int v2), some (.int v3), none]) rfl ?_
    refine J_drop 3 (L' := [none, none, some (.int v2), none, none]) rfl ?_
    obtain rfl := Option.some.inj hh
    exact hk
  · replace hh := (if_neg c13).symm.trans hh
    refine J_iconst (pc := 37) dX6_fill_37 ci_0 ?_
    refine J_istore (pc := 38) (L' := [some (.ref 0), some (.int v1), some (.int v2), some (.int v3), some (.int (0 : Int32))]) dX6_fill_38 rfl (Nat.le_of_ble_eq_true rfl) rfl ?_
    obtain ⟨y11, hy11, hh⟩ := bd_some hh
    refine J_lp (a := (v2, (0 : Int32), s)) (fun a : (Int32 × Int32 × Mem) => J X MX6_fill (d + 6) 40 [some (.ref 0), some (.int v1), some (.int a.1), some (.int v3), some (.int a.2.1)] [] a.2.2 w s') (fun t : (Int32 × Mem) => J X MX6_fill (d + 6) 79 [some (.ref 0), some (.int v1), some (.int t.1), some (.int v3), none] [] t.2 w s') (fun a q h1 h2 => jbX6_fill_40 d a.2.2 v1 v3 a.1 a.2.1 h1 h2) hy11 ?_
    refine J_iincL (pc := 79) (v := v3 + (1 : Int32)) (fun x12 => [some (.ref 0), some (.int v1), some (.int y11.1), some (.int x12), none]) dX6_fill_79 rfl rfl (Nat.le_of_ble_eq_true rfl) (congrArg _ ci_1) (fun _ => rfl) hh (fun x12 hh => ?_)
    refine J_goto (pc := 82) 26 dX6_fill_82 (by decide) ?_
    obtain rfl := Option.some.inj hh
    exact hk
def fX6_fill (s : Mem) (p0 : Int32) : Option (Int32 × Mem) :=
  (fX6_within (p0.toInt64) (0 : Int64) (4 : Int64)).bind (fun y1 => if y1 = (0 : Int32) then (fX6_finding s (0 : Int32)).bind (fun y15 => some ((y15.1, y15.2))) else (fX6_begin s).bind (fun y2 => (lp (fun a => bX6_fill_26 a.2.2 p0 a.1 a.2.1) 600 ((0 : Int32), (0 : Int32), y2)).bind (fun y14 => some ((y14.1, y14.2)))))
set_option maxRecDepth 4000 in
theorem jjX6_fill {X : Scr} (d : Nat) (s : Mem) (p0 : Int32) {r : (Int32 × Mem)} {w : Option Value} {s' : Mem} (hh : fX6_fill s p0 = some r) (hk : w = some (.int r.1) ∧ r.2 = s') : J X MX6_fill (d + 6) 0 [some (.ref 0), some (.int p0), none, none, none] [] s w s' := by
  unfold fX6_fill at hh
  refine J_iload_n (pc := 0) dX6_fill_0 rfl ?_
  refine J_i2l (pc := 1) dX6_fill_1 ?_
  refine J_lconst (pc := 2) (v := 0) dX6_fill_2 rfl ?_
  refine J_ldc2 (pc := 3) klX6_186 dX6_fill_3 ?_
  obtain ⟨y1, hy1, hh⟩ := bd_some hh
  refine J_callSi (pc := 6) (M' := MX6_within) (rest := []) (As := [.long (p0.toInt64), .long (0 : Int64), .long (4 : Int64)]) (L0 := [some (.long (p0.toInt64)), none, some (.long (0 : Int64)), none, some (.long (4 : Int64)), none]) okX6_within osX6_within mlX6_62 rfl rfl (Nat.le_of_ble_eq_true rfl) dX6_fill_6 rfl (Nat.le_of_ble_eq_true rfl) (jX6_within (X := X) (d + 5) s (p0.toInt64) (0 : Int64) (4 : Int64) hy1) ?_
  refine J_if_ne (pc := 9) 18 dX6_fill_9 (by decide) (fun c16 => ?_) (fun c16 => ?_)
  · replace hh := (if_neg c16).symm.trans hh
    refine J_aload_n (pc := 18) dX6_fill_18 rfl ?_
    obtain ⟨y2, hy2, hh⟩ := bd_some hh
    refine J_callV0 (pc := 19) (M' := MX6_begin) (a := 0) (rest := []) (As := []) (L0 := [some (.ref 0)]) okX6_begin ovX6_begin mlX6_92 clX6 so0 rfl rfl (Nat.le_of_ble_eq_true rfl) dX6_fill_19 rfl (Nat.le_of_ble_eq_true rfl) (jX6_begin (X := X) (d + 2) s hy2) ?_
    refine J_iconst (pc := 22) dX6_fill_22 ci_0 ?_
    refine J_istore_n (pc := 23) (L' := [some (.ref 0), some (.int p0), some (.int (0 : Int32)), none, none]) dX6_fill_23 rfl (Nat.le_of_ble_eq_true rfl) rfl ?_
    refine J_iconst (pc := 24) dX6_fill_24 ci_0 ?_
    refine J_istore_n (pc := 25) (L' := [some (.ref 0), some (.int p0), some (.int (0 : Int32)), some (.int (0 : Int32)), none]) dX6_fill_25 rfl (Nat.le_of_ble_eq_true rfl) rfl ?_
    obtain ⟨y14, hy14, hh⟩ := bd_some hh
    refine J_lp (a := ((0 : Int32), (0 : Int32), y2)) (fun a : (Int32 × Int32 × Mem) => J X MX6_fill (d + 6) 26 [some (.ref 0), some (.int p0), some (.int a.1), some (.int a.2.1), none] [] a.2.2 w s') (fun t : (Int32 × Mem) => J X MX6_fill (d + 6) 85 [none, none, some (.int t.1), none, none] [] t.2 w s') (fun a q h1 h2 => jbX6_fill_26 d a.2.2 p0 a.1 a.2.1 h1 h2) hy14 ?_
    refine J_iload_n (pc := 85) dX6_fill_85 rfl ?_
    obtain rfl := Option.some.inj hh
    obtain ⟨rfl, rfl⟩ := hk
    exact J_ret (w := some (.int y14.1)) ⟨dX6_fill_86, _, rfl, rfl⟩
  · replace hh := (if_pos c16).symm.trans hh
    refine J_aload_n (pc := 12) dX6_fill_12 rfl ?_
    refine J_iconst (pc := 13) dX6_fill_13 ci_0 ?_
    obtain ⟨y15, hy15, hh⟩ := bd_some hh
    refine J_callVi (pc := 14) (M' := MX6_finding) (a := 0) (rest := []) (As := [.int (0 : Int32)]) (L0 := [some (.ref 0), some (.int (0 : Int32))]) okX6_finding ovX6_finding mlX6_68 clX6 so0 rfl rfl (Nat.le_of_ble_eq_true rfl) dX6_fill_14 rfl (Nat.le_of_ble_eq_true rfl) (jX6_finding (X := X) (d + 4) s (0 : Int32) hy15) ?_
    obtain rfl := Option.some.inj hh
    obtain ⟨rfl, rfl⟩ := hk
    exact J_ret (w := some (.int y15.1)) ⟨dX6_fill_17, _, rfl, rfl⟩
theorem jX6_fill {X : Scr} (d : Nat) (s : Mem) (p0 : Int32) {r : (Int32 × Mem)} (hh : fX6_fill s p0 = some r) : J X MX6_fill (d + 6) 0 [some (.ref 0), some (.int p0), none, none, none] [] s (some (.int r.1)) r.2 := jjX6_fill d s p0 hh ⟨rfl, rfl⟩
theorem dX6_trade_0 : decode cX6_trade 0 = .ok (.aload_n 0, 1) := by decide +kernel
theorem dX6_trade_1 : decode cX6_trade 1 = .ok (.iload_n 1, 1) := by decide +kernel
theorem dX6_trade_2 : decode cX6_trade 2 = .ok (.invokevirtual 135, 3) := by decide +kernel
theorem dX6_trade_5 : decode cX6_trade 5 = .ok (.ifCond .eq 23, 3) := by decide +kernel
theorem dX6_trade_8 : decode cX6_trade 8 = .ok (.aload_n 0, 1) := by decide +kernel
theorem dX6_trade_9 : decode cX6_trade 9 = .ok (.iload_n 2, 1) := by decide +kernel
theorem dX6_trade_10 : decode cX6_trade 10 = .ok (.invokevirtual 135, 3) := by decide +kernel
theorem dX6_trade_13 : decode cX6_trade 13 = .ok (.ifCond .eq 15, 3) := by decide +kernel
theorem dX6_trade_16 : decode cX6_trade 16 = .ok (.iload_n 1, 1) := by decide +kernel
theorem dX6_trade_17 : decode cX6_trade 17 = .ok (.iload_n 2, 1) := by decide +kernel
theorem dX6_trade_18 : decode cX6_trade 18 = .ok (.if_icmp .eq 10, 3) := by decide +kernel
theorem dX6_trade_21 : decode cX6_trade 21 = .ok (.iload_n 3, 1) := by decide +kernel
theorem dX6_trade_22 : decode cX6_trade 22 = .ok (.invokestatic 108, 3) := by decide +kernel
theorem dX6_trade_25 : decode cX6_trade 25 = .ok (.ifCond .ne 9, 3) := by decide +kernel
theorem dX6_trade_28 : decode cX6_trade 28 = .ok (.aload_n 0, 1) := by decide +kernel
theorem dX6_trade_29 : decode cX6_trade 29 = .ok (.iconst 0, 1) := by decide +kernel
theorem dX6_trade_30 : decode cX6_trade 30 = .ok (.invokevirtual 68, 3) := by decide +kernel
theorem dX6_trade_33 : decode cX6_trade 33 = .ok (.ireturn, 1) := by decide +kernel
theorem dX6_trade_34 : decode cX6_trade 34 = .ok (.aload_n 0, 1) := by decide +kernel
theorem dX6_trade_35 : decode cX6_trade 35 = .ok (.getfield 10, 3) := by decide +kernel
theorem dX6_trade_38 : decode cX6_trade 38 = .ok (.iload_n 1, 1) := by decide +kernel
theorem dX6_trade_39 : decode cX6_trade 39 = .ok (.iload_n 3, 1) := by decide +kernel
theorem dX6_trade_40 : decode cX6_trade 40 = .ok (.invokevirtual 154, 3) := by decide +kernel
theorem dX6_trade_43 : decode cX6_trade 43 = .ok (.istore 4, 2) := by decide +kernel
theorem dX6_trade_45 : decode cX6_trade 45 = .ok (.aload_n 0, 1) := by decide +kernel
theorem dX6_trade_46 : decode cX6_trade 46 = .ok (.getfield 10, 3) := by decide +kernel
theorem dX6_trade_49 : decode cX6_trade 49 = .ok (.iload_n 2, 1) := by decide +kernel
theorem dX6_trade_50 : decode cX6_trade 50 = .ok (.iload_n 3, 1) := by decide +kernel
theorem dX6_trade_51 : decode cX6_trade 51 = .ok (.invokevirtual 154, 3) := by decide +kernel
theorem dX6_trade_54 : decode cX6_trade 54 = .ok (.istore 5, 2) := by decide +kernel
theorem dX6_trade_56 : decode cX6_trade 56 = .ok (.iload 4, 2) := by decide +kernel
theorem dX6_trade_58 : decode cX6_trade 58 = .ok (.ifCond .lt 8, 3) := by decide +kernel
theorem dX6_trade_61 : decode cX6_trade 61 = .ok (.iload 5, 2) := by decide +kernel
theorem dX6_trade_63 : decode cX6_trade 63 = .ok (.ifCond .ge 9, 3) := by decide +kernel
theorem dX6_trade_66 : decode cX6_trade 66 = .ok (.aload_n 0, 1) := by decide +kernel
theorem dX6_trade_67 : decode cX6_trade 67 = .ok (.iconst 3, 1) := by decide +kernel
theorem dX6_trade_68 : decode cX6_trade 68 = .ok (.invokevirtual 68, 3) := by decide +kernel
theorem dX6_trade_71 : decode cX6_trade 71 = .ok (.ireturn, 1) := by decide +kernel
theorem dX6_trade_72 : decode cX6_trade 72 = .ok (.aload_n 0, 1) := by decide +kernel
theorem dX6_trade_73 : decode cX6_trade 73 = .ok (.getfield 10, 3) := by decide +kernel
theorem dX6_trade_76 : decode cX6_trade 76 = .ok (.iload_n 1, 1) := by decide +kernel
theorem dX6_trade_77 : decode cX6_trade 77 = .ok (.iload_n 3, 1) := by decide +kernel
theorem dX6_trade_78 : decode cX6_trade 78 = .ok (.invokevirtual 174, 3) := by decide +kernel
theorem dX6_trade_81 : decode cX6_trade 81 = .ok (.iload 5, 2) := by decide +kernel
theorem dX6_trade_83 : decode cX6_trade 83 = .ok (.ishr, 1) := by decide +kernel
theorem dX6_trade_84 : decode cX6_trade 84 = .ok (.iconst 1, 1) := by decide +kernel
theorem dX6_trade_85 : decode cX6_trade 85 = .ok (.iand, 1) := by decide +kernel
theorem dX6_trade_86 : decode cX6_trade 86 = .ok (.ifCond .eq 20, 3) := by decide +kernel
theorem dX6_trade_89 : decode cX6_trade 89 = .ok (.aload_n 0, 1) := by decide +kernel
theorem dX6_trade_90 : decode cX6_trade 90 = .ok (.getfield 10, 3) := by decide +kernel
theorem dX6_trade_93 : decode cX6_trade 93 = .ok (.iload_n 2, 1) := by decide +kernel
theorem dX6_trade_94 : decode cX6_trade 94 = .ok (.iload_n 3, 1) := by decide +kernel
theorem dX6_trade_95 : decode cX6_trade 95 = .ok (.invokevirtual 174, 3) := by decide +kernel
theorem dX6_trade_98 : decode cX6_trade 98 = .ok (.iload 4, 2) := by decide +kernel
theorem dX6_trade_100 : decode cX6_trade 100 = .ok (.ishr, 1) := by decide +kernel
theorem dX6_trade_101 : decode cX6_trade 101 = .ok (.iconst 1, 1) := by decide +kernel
theorem dX6_trade_102 : decode cX6_trade 102 = .ok (.iand, 1) := by decide +kernel
theorem dX6_trade_103 : decode cX6_trade 103 = .ok (.ifCond .ne 9, 3) := by decide +kernel
theorem dX6_trade_106 : decode cX6_trade 106 = .ok (.aload_n 0, 1) := by decide +kernel
theorem dX6_trade_107 : decode cX6_trade 107 = .ok (.iconst 4, 1) := by decide +kernel
theorem dX6_trade_108 : decode cX6_trade 108 = .ok (.invokevirtual 68, 3) := by decide +kernel
theorem dX6_trade_111 : decode cX6_trade 111 = .ok (.ireturn, 1) := by decide +kernel
theorem dX6_trade_112 : decode cX6_trade 112 = .ok (.aload_n 0, 1) := by decide +kernel
theorem dX6_trade_113 : decode cX6_trade 113 = .ok (.invokevirtual 92, 3) := by decide +kernel
theorem dX6_trade_116 : decode cX6_trade 116 = .ok (.aload_n 0, 1) := by decide +kernel
theorem dX6_trade_117 : decode cX6_trade 117 = .ok (.getfield 10, 3) := by decide +kernel
theorem dX6_trade_120 : decode cX6_trade 120 = .ok (.iload_n 1, 1) := by decide +kernel
theorem dX6_trade_121 : decode cX6_trade 121 = .ok (.iload_n 3, 1) := by decide +kernel
theorem dX6_trade_122 : decode cX6_trade 122 = .ok (.iload 5, 2) := by decide +kernel
theorem dX6_trade_124 : decode cX6_trade 124 = .ok (.invokevirtual 180, 3) := by decide +kernel
theorem dX6_trade_127 : decode cX6_trade 127 = .ok (.pop, 1) := by decide +kernel
theorem dX6_trade_128 : decode cX6_trade 128 = .ok (.aload_n 0, 1) := by decide +kernel
theorem dX6_trade_129 : decode cX6_trade 129 = .ok (.getfield 10, 3) := by decide +kernel
theorem dX6_trade_132 : decode cX6_trade 132 = .ok (.iload_n 2, 1) := by decide +kernel
theorem dX6_trade_133 : decode cX6_trade 133 = .ok (.iload_n 3, 1) := by decide +kernel
theorem dX6_trade_134 : decode cX6_trade 134 = .ok (.iload 4, 2) := by decide +kernel
theorem dX6_trade_136 : decode cX6_trade 136 = .ok (.invokevirtual 180, 3) := by decide +kernel
theorem dX6_trade_139 : decode cX6_trade 139 = .ok (.pop, 1) := by decide +kernel
theorem dX6_trade_140 : decode cX6_trade 140 = .ok (.iconst 1, 1) := by decide +kernel
theorem dX6_trade_141 : decode cX6_trade 141 = .ok (.ireturn, 1) := by decide +kernel
def gX6_trade_28 (s : Mem)  : Option (Int32 × Mem) :=
  (fX6_finding s (0 : Int32)).bind (fun y2 => some ((y2.1, y2.2)))
set_option maxRecDepth 4000 in
theorem jgX6_trade_28 {X : Scr} (d : Nat) (s : Mem)  {r : (Int32 × Mem)} {w : Option Value} {s' : Mem} (hh : gX6_trade_28 s = some r) (hk : w = some (.int r.1) ∧ r.2 = s') : J X MX6_trade (d + 4) 28 [some (.ref 0), none, none, none, none, none] [] s w s' := by
  unfold gX6_trade_28 at hh
  refine J_aload_n (pc := 28) dX6_trade_28 rfl ?_
  refine J_iconst (pc := 29) dX6_trade_29 ci_0 ?_
  obtain ⟨y2, hy2, hh⟩ := bd_some hh
  refine J_callVi (pc := 30) (M' := MX6_finding) (a := 0) (rest := []) (As := [.int (0 : Int32)]) (L0 := [some (.ref 0), some (.int (0 : Int32))]) okX6_finding ovX6_finding mlX6_68 clX6 so0 rfl rfl (Nat.le_of_ble_eq_true rfl) dX6_trade_30 rfl (Nat.le_of_ble_eq_true rfl) (jX6_finding (X := X) (d + 2) s (0 : Int32) hy2) ?_
  obtain rfl := Option.some.inj hh
  obtain ⟨rfl, rfl⟩ := hk
  exact J_ret (w := some (.int y2.1)) ⟨dX6_trade_33, _, rfl, rfl⟩
def gX6_trade_66 (s : Mem)  : Option (Int32 × Mem) :=
  (fX6_finding s (3 : Int32)).bind (fun y7 => some ((y7.1, y7.2)))
set_option maxRecDepth 4000 in
theorem jgX6_trade_66 {X : Scr} (d : Nat) (s : Mem)  {r : (Int32 × Mem)} {w : Option Value} {s' : Mem} (hh : gX6_trade_66 s = some r) (hk : w = some (.int r.1) ∧ r.2 = s') : J X MX6_trade (d + 4) 66 [some (.ref 0), none, none, none, none, none] [] s w s' := by
  unfold gX6_trade_66 at hh
  refine J_aload_n (pc := 66) dX6_trade_66 rfl ?_
  refine J_iconst (pc := 67) dX6_trade_67 ci_3 ?_
  obtain ⟨y7, hy7, hh⟩ := bd_some hh
  refine J_callVi (pc := 68) (M' := MX6_finding) (a := 0) (rest := []) (As := [.int (3 : Int32)]) (L0 := [some (.ref 0), some (.int (3 : Int32))]) okX6_finding ovX6_finding mlX6_68 clX6 so0 rfl rfl (Nat.le_of_ble_eq_true rfl) dX6_trade_68 rfl (Nat.le_of_ble_eq_true rfl) (jX6_finding (X := X) (d + 2) s (3 : Int32) hy7) ?_
  obtain rfl := Option.some.inj hh
  obtain ⟨rfl, rfl⟩ := hk
  exact J_ret (w := some (.int y7.1)) ⟨dX6_trade_71, _, rfl, rfl⟩
def gX6_trade_106 (s : Mem)  : Option (Int32 × Mem) :=
  (fX6_finding s (4 : Int32)).bind (fun y9 => some ((y9.1, y9.2)))
set_option maxRecDepth 4000 in
theorem jgX6_trade_106 {X : Scr} (d : Nat) (s : Mem)  {r : (Int32 × Mem)} {w : Option Value} {s' : Mem} (hh : gX6_trade_106 s = some r) (hk : w = some (.int r.1) ∧ r.2 = s') : J X MX6_trade (d + 4) 106 [some (.ref 0), none, none, none, none, none] [] s w s' := by
  unfold gX6_trade_106 at hh
  refine J_aload_n (pc := 106) dX6_trade_106 rfl ?_
  refine J_iconst (pc := 107) dX6_trade_107 ci_4 ?_
  obtain ⟨y9, hy9, hh⟩ := bd_some hh
  refine J_callVi (pc := 108) (M' := MX6_finding) (a := 0) (rest := []) (As := [.int (4 : Int32)]) (L0 := [some (.ref 0), some (.int (4 : Int32))]) okX6_finding ovX6_finding mlX6_68 clX6 so0 rfl rfl (Nat.le_of_ble_eq_true rfl) dX6_trade_108 rfl (Nat.le_of_ble_eq_true rfl) (jX6_finding (X := X) (d + 2) s (4 : Int32) hy9) ?_
  obtain rfl := Option.some.inj hh
  obtain ⟨rfl, rfl⟩ := hk
  exact J_ret (w := some (.int y9.1)) ⟨dX6_trade_111, _, rfl, rfl⟩
def fX6_trade (s : Mem) (p0 : Int32) (p1 : Int32) (p2 : Int32) : Option (Int32 × Mem) :=
  (fX6_isPupil s p0).bind (fun y1 => if y1 = (0 : Int32) then gX6_trade_28 s else (fX6_isPupil s p1).bind (fun y3 => if y3 = (0 : Int32) then gX6_trade_28 s else if p0 = p1 then gX6_trade_28 s else (fX6_isCourse p2).bind (fun y4 => if y4 = (0 : Int32) then gX6_trade_28 s else (fX0_sits s p0 p2).bind (fun y5 => (fX0_sits s p1 p2).bind (fun y6 => if y5 < (0 : Int32) then gX6_trade_66 s else if (0 : Int32) ≤ y6 then (fX0_freeSet s p0 p2).bind (fun y8 => if ((y8 >>> (y6 &&& 31)) &&& (1 : Int32)) = (0 : Int32) then gX6_trade_106 s else (fX0_freeSet s p1 p2).bind (fun y10 => if ((y10 >>> (y5 &&& 31)) &&& (1 : Int32)) = (0 : Int32) then gX6_trade_106 s else (fX6_begin s).bind (fun y11 => (fX0_sitsNow y11 p0 p2 y6).bind (fun y12 => (fX0_sitsNow y12.2 p1 p2 y5).bind (fun y13 => some (((1 : Int32), y13.2))))))) else gX6_trade_66 s)))))
set_option maxRecDepth 4000 in
theorem jjX6_trade {X : Scr} (d : Nat) (s : Mem) (p0 : Int32) (p1 : Int32) (p2 : Int32) {r : (Int32 × Mem)} {w : Option Value} {s' : Mem} (hh : fX6_trade s p0 p1 p2 = some r) (hk : w = some (.int r.1) ∧ r.2 = s') : J X MX6_trade (d + 4) 0 [some (.ref 0), some (.int p0), some (.int p1), some (.int p2), none, none] [] s w s' := by
  unfold fX6_trade at hh
  refine J_aload_n (pc := 0) dX6_trade_0 rfl ?_
  refine J_iload_n (pc := 1) dX6_trade_1 rfl ?_
  obtain ⟨y1, hy1, hh⟩ := bd_some hh
  refine J_callVi (pc := 2) (M' := MX6_isPupil) (a := 0) (rest := []) (As := [.int p0]) (L0 := [some (.ref 0), some (.int p0)]) okX6_isPupil ovX6_isPupil mlX6_135 clX6 so0 rfl rfl (Nat.le_of_ble_eq_true rfl) dX6_trade_2 rfl (Nat.le_of_ble_eq_true rfl) (jX6_isPupil (X := X) (d + 2) s p0 hy1) ?_
  refine J_if_eq (pc := 5) 28 dX6_trade_5 (by decide) (fun c21 => ?_) (fun c21 => ?_)
  · replace hh := (if_pos c21).symm.trans hh
    refine J_drop 1 (L' := [some (.ref 0), none, some (.int p1), some (.int p2), none, none]) rfl ?_
    refine J_drop 2 (L' := [some (.ref 0), none, none, some (.int p2), none, none]) rfl ?_
    refine J_drop 3 (L' := [some (.ref 0), none, none, none, none, none]) rfl ?_
    exact jgX6_trade_28 d s hh hk
  · replace hh := (if_neg c21).symm.trans hh
    refine J_aload_n (pc := 8) dX6_trade_8 rfl ?_
    refine J_iload_n (pc := 9) dX6_trade_9 rfl ?_
    obtain ⟨y3, hy3, hh⟩ := bd_some hh
    refine J_callVi (pc := 10) (M' := MX6_isPupil) (a := 0) (rest := []) (As := [.int p1]) (L0 := [some (.ref 0), some (.int p1)]) okX6_isPupil ovX6_isPupil mlX6_135 clX6 so0 rfl rfl (Nat.le_of_ble_eq_true rfl) dX6_trade_10 rfl (Nat.le_of_ble_eq_true rfl) (jX6_isPupil (X := X) (d + 2) s p1 hy3) ?_
    refine J_if_eq (pc := 13) 28 dX6_trade_13 (by decide) (fun c20 => ?_) (fun c20 => ?_)
    · replace hh := (if_pos c20).symm.trans hh
      refine J_drop 1 (L' := [some (.ref 0), none, some (.int p1), some (.int p2), none, none]) rfl ?_
      refine J_drop 2 (L' := [some (.ref 0), none, none, some (.int p2), none, none]) rfl ?_
      refine J_drop 3 (L' := [some (.ref 0), none, none, none, none, none]) rfl ?_
      exact jgX6_trade_28 d s hh hk
    · replace hh := (if_neg c20).symm.trans hh
      refine J_iload_n (pc := 16) dX6_trade_16 rfl ?_
      refine J_iload_n (pc := 17) dX6_trade_17 rfl ?_
      refine J_icmp_eq (pc := 18) 28 dX6_trade_18 (by decide) (fun c19 => ?_) (fun c19 => ?_)
      · replace hh := (if_pos c19).symm.trans hh
        refine J_drop 1 (L' := [some (.ref 0), none, some (.int p1), some (.int p2), none, none]) rfl ?_
        refine J_drop 2 (L' := [some (.ref 0), none, none, some (.int p2), none, none]) rfl ?_
        refine J_drop 3 (L' := [some (.ref 0), none, none, none, none, none]) rfl ?_
        exact jgX6_trade_28 d s hh hk
      · replace hh := (if_neg c19).symm.trans hh
        refine J_iload_n (pc := 21) dX6_trade_21 rfl ?_
        obtain ⟨y4, hy4, hh⟩ := bd_some hh
        refine J_callSi (pc := 22) (M' := MX6_isCourse) (rest := []) (As := [.int p2]) (L0 := [some (.int p2)]) okX6_isCourse osX6_isCourse mlX6_108 rfl rfl (Nat.le_of_ble_eq_true rfl) dX6_trade_22 rfl (Nat.le_of_ble_eq_true rfl) (jX6_isCourse (X := X) (d + 2) s p2 hy4) ?_
        refine J_if_ne (pc := 25) 34 dX6_trade_25 (by decide) (fun c18 => ?_) (fun c18 => ?_)
        · replace hh := (if_neg c18).symm.trans hh
          refine J_aload_n (pc := 34) dX6_trade_34 rfl ?_
          refine J_getR (pc := 35) (k := 0) flX6_10 so0 fk0_0 dX6_trade_35 ?_
          refine J_iload_n (pc := 38) dX6_trade_38 rfl ?_
          refine J_iload_n (pc := 39) dX6_trade_39 rfl ?_
          obtain ⟨y5, hy5, hh⟩ := bd_some hh
          refine J_callVi (pc := 40) (M' := MX0_sits) (a := 1) (rest := []) (As := [.int p0, .int p2]) (L0 := [some (.ref 1), some (.int p0), some (.int p2)]) okX0_sits ovX0_sits mlX6_154 clX0 so1 rfl rfl (Nat.le_of_ble_eq_true rfl) dX6_trade_40 rfl (Nat.le_of_ble_eq_true rfl) (jX0_sits (X := X) (d + 3) s p0 p2 hy5) ?_
          refine J_istore (pc := 43) (L' := [some (.ref 0), some (.int p0), some (.int p1), some (.int p2), some (.int y5), none]) dX6_trade_43 rfl (Nat.le_of_ble_eq_true rfl) rfl ?_
          refine J_aload_n (pc := 45) dX6_trade_45 rfl ?_
          refine J_getR (pc := 46) (k := 0) flX6_10 so0 fk0_0 dX6_trade_46 ?_
          refine J_iload_n (pc := 49) dX6_trade_49 rfl ?_
          refine J_iload_n (pc := 50) dX6_trade_50 rfl ?_
          obtain ⟨y6, hy6, hh⟩ := bd_some hh
          refine J_callVi (pc := 51) (M' := MX0_sits) (a := 1) (rest := []) (As := [.int p1, .int p2]) (L0 := [some (.ref 1), some (.int p1), some (.int p2)]) okX0_sits ovX0_sits mlX6_154 clX0 so1 rfl rfl (Nat.le_of_ble_eq_true rfl) dX6_trade_51 rfl (Nat.le_of_ble_eq_true rfl) (jX0_sits (X := X) (d + 3) s p1 p2 hy6) ?_
          refine J_istore (pc := 54) (L' := [some (.ref 0), some (.int p0), some (.int p1), some (.int p2), some (.int y5), some (.int y6)]) dX6_trade_54 rfl (Nat.le_of_ble_eq_true rfl) rfl ?_
          refine J_iload (pc := 56) dX6_trade_56 rfl ?_
          refine J_if_lt (pc := 58) 66 dX6_trade_58 (by decide) (fun c17 => ?_) (fun c17 => ?_)
          · replace hh := (if_pos c17).symm.trans hh
            refine J_drop 1 (L' := [some (.ref 0), none, some (.int p1), some (.int p2), some (.int y5), some (.int y6)]) rfl ?_
            refine J_drop 2 (L' := [some (.ref 0), none, none, some (.int p2), some (.int y5), some (.int y6)]) rfl ?_
            refine J_drop 3 (L' := [some (.ref 0), none, none, none, some (.int y5), some (.int y6)]) rfl ?_
            refine J_drop 4 (L' := [some (.ref 0), none, none, none, none, some (.int y6)]) rfl ?_
            refine J_drop 5 (L' := [some (.ref 0), none, none, none, none, none]) rfl ?_
            exact jgX6_trade_66 d s hh hk
          · replace hh := (if_neg c17).symm.trans hh
            refine J_iload (pc := 61) dX6_trade_61 rfl ?_
            refine J_if_ge (pc := 63) 72 dX6_trade_63 (by decide) (fun c16 => ?_) (fun c16 => ?_)
            · replace hh := (if_pos c16).symm.trans hh
              refine J_aload_n (pc := 72) dX6_trade_72 rfl ?_
              refine J_getR (pc := 73) (k := 0) flX6_10 so0 fk0_0 dX6_trade_73 ?_
              refine J_iload_n (pc := 76) dX6_trade_76 rfl ?_
              refine J_iload_n (pc := 77) dX6_trade_77 rfl ?_
              obtain ⟨y8, hy8, hh⟩ := bd_some hh
              refine J_callVi (pc := 78) (M' := MX0_freeSet) (a := 1) (rest := []) (As := [.int p0, .int p2]) (L0 := [some (.ref 1), some (.int p0), some (.int p2), none, none, none, none]) okX0_freeSet ovX0_freeSet mlX6_174 clX0 so1 rfl rfl (Nat.le_of_ble_eq_true rfl) dX6_trade_78 rfl (Nat.le_of_ble_eq_true rfl) (jX0_freeSet (X := X) (d + 1) s p0 p2 hy8) ?_
              refine J_iload (pc := 81) dX6_trade_81 rfl ?_
              refine J_ishr (pc := 83) dX6_trade_83 ?_
              refine J_iconst (pc := 84) dX6_trade_84 ci_1 ?_
              refine J_iand (pc := 85) dX6_trade_85 ?_
              refine J_if_eq (pc := 86) 106 dX6_trade_86 (by decide) (fun c15 => ?_) (fun c15 => ?_)
              · replace hh := (if_pos c15).symm.trans hh
                refine J_drop 1 (L' := [some (.ref 0), none, some (.int p1), some (.int p2), some (.int y5), some (.int y6)]) rfl ?_
                refine J_drop 2 (L' := [some (.ref 0), none, none, some (.int p2), some (.int y5), some (.int y6)]) rfl ?_
                refine J_drop 3 (L' := [some (.ref 0), none, none, none, some (.int y5), some (.int y6)]) rfl ?_
                refine J_drop 4 (L' := [some (.ref 0), none, none, none, none, some (.int y6)]) rfl ?_
                refine J_drop 5 (L' := [some (.ref 0), none, none, none, none, none]) rfl ?_
                exact jgX6_trade_106 d s hh hk
              · replace hh := (if_neg c15).symm.trans hh
                refine J_aload_n (pc := 89) dX6_trade_89 rfl ?_
                refine J_getR (pc := 90) (k := 0) flX6_10 so0 fk0_0 dX6_trade_90 ?_
                refine J_iload_n (pc := 93) dX6_trade_93 rfl ?_
                refine J_iload_n (pc := 94) dX6_trade_94 rfl ?_
                obtain ⟨y10, hy10, hh⟩ := bd_some hh
                refine J_callVi (pc := 95) (M' := MX0_freeSet) (a := 1) (rest := []) (As := [.int p1, .int p2]) (L0 := [some (.ref 1), some (.int p1), some (.int p2), none, none, none, none]) okX0_freeSet ovX0_freeSet mlX6_174 clX0 so1 rfl rfl (Nat.le_of_ble_eq_true rfl) dX6_trade_95 rfl (Nat.le_of_ble_eq_true rfl) (jX0_freeSet (X := X) (d + 1) s p1 p2 hy10) ?_
                refine J_iload (pc := 98) dX6_trade_98 rfl ?_
                refine J_ishr (pc := 100) dX6_trade_100 ?_
                refine J_iconst (pc := 101) dX6_trade_101 ci_1 ?_
                refine J_iand (pc := 102) dX6_trade_102 ?_
                refine J_if_ne (pc := 103) 112 dX6_trade_103 (by decide) (fun c14 => ?_) (fun c14 => ?_)
                · replace hh := (if_neg c14).symm.trans hh
                  refine J_aload_n (pc := 112) dX6_trade_112 rfl ?_
                  obtain ⟨y11, hy11, hh⟩ := bd_some hh
                  refine J_callV0 (pc := 113) (M' := MX6_begin) (a := 0) (rest := []) (As := []) (L0 := [some (.ref 0)]) okX6_begin ovX6_begin mlX6_92 clX6 so0 rfl rfl (Nat.le_of_ble_eq_true rfl) dX6_trade_113 rfl (Nat.le_of_ble_eq_true rfl) (jX6_begin (X := X) d s hy11) ?_
                  refine J_aload_n (pc := 116) dX6_trade_116 rfl ?_
                  refine J_getR (pc := 117) (k := 0) flX6_10 so0 fk0_0 dX6_trade_117 ?_
                  refine J_iload_n (pc := 120) dX6_trade_120 rfl ?_
                  refine J_iload_n (pc := 121) dX6_trade_121 rfl ?_
                  refine J_iload (pc := 122) dX6_trade_122 rfl ?_
                  obtain ⟨y12, hy12, hh⟩ := bd_some hh
                  refine J_callVi (pc := 124) (M' := MX0_sitsNow) (a := 1) (rest := []) (As := [.int p0, .int p2, .int y6]) (L0 := [some (.ref 1), some (.int p0), some (.int p2), some (.int y6), none, none]) okX0_sitsNow ovX0_sitsNow mlX6_180 clX0 so1 rfl rfl (Nat.le_of_ble_eq_true rfl) dX6_trade_124 rfl (Nat.le_of_ble_eq_true rfl) (jX0_sitsNow (X := X) (d + 3) y11 p0 p2 y6 hy12) ?_
                  refine J_pop (pc := 127) dX6_trade_127 rfl ?_
                  refine J_aload_n (pc := 128) dX6_trade_128 rfl ?_
                  refine J_getR (pc := 129) (k := 0) flX6_10 so0 fk0_0 dX6_trade_129 ?_
                  refine J_iload_n (pc := 132) dX6_trade_132 rfl ?_
                  refine J_iload_n (pc := 133) dX6_trade_133 rfl ?_
                  refine J_iload (pc := 134) dX6_trade_134 rfl ?_
                  obtain ⟨y13, hy13, hh⟩ := bd_some hh
                  refine J_callVi (pc := 136) (M' := MX0_sitsNow) (a := 1) (rest := []) (As := [.int p1, .int p2, .int y5]) (L0 := [some (.ref 1), some (.int p1), some (.int p2), some (.int y5), none, none]) okX0_sitsNow ovX0_sitsNow mlX6_180 clX0 so1 rfl rfl (Nat.le_of_ble_eq_true rfl) dX6_trade_136 rfl (Nat.le_of_ble_eq_true rfl) (jX0_sitsNow (X := X) (d + 3) y12.2 p1 p2 y5 hy13) ?_
                  refine J_pop (pc := 139) dX6_trade_139 rfl ?_
                  refine J_iconst (pc := 140) dX6_trade_140 ci_1 ?_
                  obtain rfl := Option.some.inj hh
                  obtain ⟨rfl, rfl⟩ := hk
                  exact J_ret (w := some (.int (1 : Int32))) ⟨dX6_trade_141, _, rfl, rfl⟩
                · replace hh := (if_pos c14).symm.trans hh
                  refine J_drop 1 (L' := [some (.ref 0), none, some (.int p1), some (.int p2), some (.int y5), some (.int y6)]) rfl ?_
                  refine J_drop 2 (L' := [some (.ref 0), none, none, some (.int p2), some (.int y5), some (.int y6)]) rfl ?_
                  refine J_drop 3 (L' := [some (.ref 0), none, none, none, some (.int y5), some (.int y6)]) rfl ?_
                  refine J_drop 4 (L' := [some (.ref 0), none, none, none, none, some (.int y6)]) rfl ?_
                  refine J_drop 5 (L' := [some (.ref 0), none, none, none, none, none]) rfl ?_
                  exact jgX6_trade_106 d s hh hk
            · replace hh := (if_neg c16).symm.trans hh
              refine J_drop 1 (L' := [some (.ref 0), none, some (.int p1), some (.int p2), some (.int y5), some (.int y6)]) rfl ?_
              refine J_drop 2 (L' := [some (.ref 0), none, none, some (.int p2), some (.int y5), some (.int y6)]) rfl ?_
              refine J_drop 3 (L' := [some (.ref 0), none, none, none, some (.int y5), some (.int y6)]) rfl ?_
              refine J_drop 4 (L' := [some (.ref 0), none, none, none, none, some (.int y6)]) rfl ?_
              refine J_drop 5 (L' := [some (.ref 0), none, none, none, none, none]) rfl ?_
              exact jgX6_trade_66 d s hh hk
        · replace hh := (if_pos c18).symm.trans hh
          refine J_drop 1 (L' := [some (.ref 0), none, some (.int p1), some (.int p2), none, none]) rfl ?_
          refine J_drop 2 (L' := [some (.ref 0), none, none, some (.int p2), none, none]) rfl ?_
          refine J_drop 3 (L' := [some (.ref 0), none, none, none, none, none]) rfl ?_
          exact jgX6_trade_28 d s hh hk
theorem jX6_trade {X : Scr} (d : Nat) (s : Mem) (p0 : Int32) (p1 : Int32) (p2 : Int32) {r : (Int32 × Mem)} (hh : fX6_trade s p0 p1 p2 = some r) : J X MX6_trade (d + 4) 0 [some (.ref 0), some (.int p0), some (.int p1), some (.int p2), none, none] [] s (some (.int r.1)) r.2 := jjX6_trade d s p0 p1 p2 hh ⟨rfl, rfl⟩
