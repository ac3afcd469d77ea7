theorem dX6_most_0 : decode cX6_most 0 = .ok (.iload_n 1, 1) := by decide +kernel
theorem dX6_most_1 : decode cX6_most 1 = .ok (.invokestatic 108, 3) := by decide +kernel
theorem dX6_most_4 : decode cX6_most 4 = .ok (.ifCond .ne 9, 3) := by decide +kernel
theorem dX6_most_7 : decode cX6_most 7 = .ok (.aload_n 0, 1) := by decide +kernel
theorem dX6_most_8 : decode cX6_most 8 = .ok (.iconst 0, 1) := by decide +kernel
theorem dX6_most_9 : decode cX6_most 9 = .ok (.invokevirtual 68, 3) := by decide +kernel
theorem dX6_most_12 : decode cX6_most 12 = .ok (.ireturn, 1) := by decide +kernel
theorem dX6_most_13 : decode cX6_most 13 = .ok (.aload_n 0, 1) := by decide +kernel
theorem dX6_most_14 : decode cX6_most 14 = .ok (.getfield 26, 3) := by decide +kernel
theorem dX6_most_17 : decode cX6_most 17 = .ok (.aload_n 0, 1) := by decide +kernel
theorem dX6_most_18 : decode cX6_most 18 = .ok (.getfield 10, 3) := by decide +kernel
theorem dX6_most_21 : decode cX6_most 21 = .ok (.iload_n 1, 1) := by decide +kernel
theorem dX6_most_22 : decode cX6_most 22 = .ok (.invokevirtual 192, 3) := by decide +kernel
theorem dX6_most_25 : decode cX6_most 25 = .ok (.aload_n 0, 1) := by decide +kernel
theorem dX6_most_26 : decode cX6_most 26 = .ok (.getfield 26, 3) := by decide +kernel
theorem dX6_most_29 : decode cX6_most 29 = .ok (.sipush 10000, 3) := by decide +kernel
theorem dX6_most_32 : decode cX6_most 32 = .ok (.iconst 0, 1) := by decide +kernel
theorem dX6_most_33 : decode cX6_most 33 = .ok (.iconst 0, 1) := by decide +kernel
theorem dX6_most_34 : decode cX6_most 34 = .ok (.invokevirtual 196, 3) := by decide +kernel
theorem dX6_most_37 : decode cX6_most 37 = .ok (.pop, 1) := by decide +kernel
theorem dX6_most_38 : decode cX6_most 38 = .ok (.aload_n 0, 1) := by decide +kernel
theorem dX6_most_39 : decode cX6_most 39 = .ok (.getfield 26, 3) := by decide +kernel
theorem dX6_most_42 : decode cX6_most 42 = .ok (.invokevirtual 199, 3) := by decide +kernel
theorem dX6_most_45 : decode cX6_most 45 = .ok (.ireturn, 1) := by decide +kernel
def fX6_most (s : Mem) (p0 : Int32) : Option (Int32 × Mem) :=
  (fX6_isCourse p0).bind (fun y1 => if y1 = (0 : Int32) then (fX6_finding s (0 : Int32)).bind (fun y5 => some ((y5.1, y5.2))) else (fX3_prepare s p0).bind (fun y2 => (fX3_finds y2 (10000 : Int32) (0 : Int32) (0 : Int32)).bind (fun y3 => (fX3_seated y3.2).bind (fun y4 => some ((y4, y3.2))))))
set_option maxRecDepth 4000 in
theorem jjX6_most {X : Scr} (d : Nat) (s : Mem) (p0 : Int32) {r : (Int32 × Mem)} {w : Option Value} {s' : Mem} (hh : fX6_most s p0 = some r) (hk : w = some (.int r.1) ∧ r.2 = s') : J X MX6_most (d + 5) 0 [some (.ref 0), some (.int p0)] [] s w s' := by
  unfold fX6_most at hh
  refine J_iload_n (pc := 0) dX6_most_0 rfl ?_
  obtain ⟨y1, hy1, hh⟩ := bd_some hh
  refine J_callSi (pc := 1) (M' := MX6_isCourse) (rest := []) (As := [.int p0]) (L0 := [some (.int p0)]) okX6_isCourse osX6_isCourse mlX6_108 rfl rfl (Nat.le_of_ble_eq_true rfl) dX6_most_1 rfl (Nat.le_of_ble_eq_true rfl) (jX6_isCourse (X := X) (d + 3) s p0 hy1) ?_
  refine J_if_ne (pc := 4) 13 dX6_most_4 (by decide) (fun c6 => ?_) (fun c6 => ?_)
  · replace hh := (if_neg c6).symm.trans hh
    refine J_aload_n (pc := 13) dX6_most_13 rfl ?_
    refine J_getR (pc := 14) (k := 2) flX6_26 so0 fk0_2 dX6_most_14 ?_
    refine J_aload_n (pc := 17) dX6_most_17 rfl ?_
    refine J_getR (pc := 18) (k := 0) flX6_10 so0 fk0_0 dX6_most_18 ?_
    refine J_iload_n (pc := 21) dX6_most_21 rfl ?_
    obtain ⟨y2, hy2, hh⟩ := bd_some hh
    refine J_callV0 (pc := 22) (M' := MX3_prepare) (a := 5) (rest := []) (As := [.ref 1, .int p0]) (L0 := [some (.ref 5), some (.ref 1), some (.int p0), none, none, none]) okX3_prepare ovX3_prepare mlX6_192 clX3 so5 rfl rfl (Nat.le_of_ble_eq_true rfl) dX6_most_22 rfl (Nat.le_of_ble_eq_true rfl) (jX3_prepare (X := X) (d + 1) s p0 hy2) ?_
    refine J_aload_n (pc := 25) dX6_most_25 rfl ?_
    refine J_getR (pc := 26) (k := 2) flX6_26 so0 fk0_2 dX6_most_26 ?_
    refine J_sipush (pc := 29) dX6_most_29 cs_10000 ?_
    refine J_iconst (pc := 32) dX6_most_32 ci_0 ?_
    refine J_iconst (pc := 33) dX6_most_33 ci_0 ?_
    obtain ⟨y3, hy3, hh⟩ := bd_some hh
    refine J_callVi (pc := 34) (M' := MX3_finds) (a := 5) (rest := []) (As := [.int (10000 : Int32), .int (0 : Int32), .int (0 : Int32)]) (L0 := [some (.ref 5), some (.int (10000 : Int32)), some (.int (0 : Int32)), some (.int (0 : Int32)), none]) okX3_finds ovX3_finds mlX6_196 clX3 so5 rfl rfl (Nat.le_of_ble_eq_true rfl) dX6_most_34 rfl (Nat.le_of_ble_eq_true rfl) (jX3_finds (X := X) d y2 (10000 : Int32) (0 : Int32) (0 : Int32) hy3) ?_
    refine J_pop (pc := 37) dX6_most_37 rfl ?_
    refine J_aload_n (pc := 38) dX6_most_38 rfl ?_
    refine J_getR (pc := 39) (k := 2) flX6_26 so0 fk0_2 dX6_most_39 ?_
    obtain ⟨y4, hy4, hh⟩ := bd_some hh
    refine J_callVi (pc := 42) (M' := MX3_seated) (a := 5) (rest := []) (As := []) (L0 := [some (.ref 5), none, none]) okX3_seated ovX3_seated mlX6_199 clX3 so5 rfl rfl (Nat.le_of_ble_eq_true rfl) dX6_most_42 rfl (Nat.le_of_ble_eq_true rfl) (jX3_seated (X := X) (d + 4) y3.2 hy4) ?_
    obtain rfl := Option.some.inj hh
    obtain ⟨rfl, rfl⟩ := hk
    exact J_ret (w := some (.int y4)) ⟨dX6_most_45, _, rfl, rfl⟩
  · replace hh := (if_pos c6).symm.trans hh
    refine J_aload_n (pc := 7) dX6_most_7 rfl ?_
    refine J_iconst (pc := 8) dX6_most_8 ci_0 ?_
    obtain ⟨y5, hy5, hh⟩ := bd_some hh
    refine J_callVi (pc := 9) (M' := MX6_finding) (a := 0) (rest := []) (As := [.int (0 : Int32)]) (L0 := [some (.ref 0), some (.int (0 : Int32))]) okX6_finding ovX6_finding mlX6_68 clX6 so0 rfl rfl (Nat.le_of_ble_eq_true rfl) dX6_most_9 rfl (Nat.le_of_ble_eq_true rfl) (jX6_finding (X := X) (d + 3) s (0 : Int32) hy5) ?_
    obtain rfl := Option.some.inj hh
    obtain ⟨rfl, rfl⟩ := hk
    exact J_ret (w := some (.int y5.1)) ⟨dX6_most_12, _, rfl, rfl⟩
theorem jX6_most {X : Scr} (d : Nat) (s : Mem) (p0 : Int32) {r : (Int32 × Mem)} (hh : fX6_most s p0 = some r) : J X MX6_most (d + 5) 0 [some (.ref 0), some (.int p0)] [] s (some (.int r.1)) r.2 := jjX6_most d s p0 hh ⟨rfl, rfl⟩
theorem dX6_seat_0 : decode cX6_seat 0 = .ok (.iload_n 1, 1) := by decide +kernel
theorem dX6_seat_1 : decode cX6_seat 1 = .ok (.invokestatic 108, 3) := by decide +kernel
theorem dX6_seat_4 : decode cX6_seat 4 = .ok (.ifCond .ne 9, 3) := by decide +kernel
theorem dX6_seat_7 : decode cX6_seat 7 = .ok (.aload_n 0, 1) := by decide +kernel
theorem dX6_seat_8 : decode cX6_seat 8 = .ok (.iconst 0, 1) := by decide +kernel
theorem dX6_seat_9 : decode cX6_seat 9 = .ok (.invokevirtual 68, 3) := by decide +kernel
theorem dX6_seat_12 : decode cX6_seat 12 = .ok (.ireturn, 1) := by decide +kernel
theorem dX6_seat_13 : decode cX6_seat 13 = .ok (.aload_n 0, 1) := by decide +kernel
theorem dX6_seat_14 : decode cX6_seat 14 = .ok (.invokevirtual 92, 3) := by decide +kernel
theorem dX6_seat_17 : decode cX6_seat 17 = .ok (.aload_n 0, 1) := by decide +kernel
theorem dX6_seat_18 : decode cX6_seat 18 = .ok (.getfield 26, 3) := by decide +kernel
theorem dX6_seat_21 : decode cX6_seat 21 = .ok (.aload_n 0, 1) := by decide +kernel
theorem dX6_seat_22 : decode cX6_seat 22 = .ok (.getfield 10, 3) := by decide +kernel
theorem dX6_seat_25 : decode cX6_seat 25 = .ok (.iload_n 1, 1) := by decide +kernel
theorem dX6_seat_26 : decode cX6_seat 26 = .ok (.invokevirtual 192, 3) := by decide +kernel
theorem dX6_seat_29 : decode cX6_seat 29 = .ok (.aload_n 0, 1) := by decide +kernel
theorem dX6_seat_30 : decode cX6_seat 30 = .ok (.getfield 26, 3) := by decide +kernel
theorem dX6_seat_33 : decode cX6_seat 33 = .ok (.sipush 10000, 3) := by decide +kernel
theorem dX6_seat_36 : decode cX6_seat 36 = .ok (.iconst 0, 1) := by decide +kernel
theorem dX6_seat_37 : decode cX6_seat 37 = .ok (.iconst 1, 1) := by decide +kernel
theorem dX6_seat_38 : decode cX6_seat 38 = .ok (.invokevirtual 196, 3) := by decide +kernel
theorem dX6_seat_41 : decode cX6_seat 41 = .ok (.ifCond .eq 15, 3) := by decide +kernel
theorem dX6_seat_44 : decode cX6_seat 44 = .ok (.aload_n 0, 1) := by decide +kernel
theorem dX6_seat_45 : decode cX6_seat 45 = .ok (.getfield 26, 3) := by decide +kernel
theorem dX6_seat_48 : decode cX6_seat 48 = .ok (.aload_n 0, 1) := by decide +kernel
theorem dX6_seat_49 : decode cX6_seat 49 = .ok (.getfield 10, 3) := by decide +kernel
theorem dX6_seat_52 : decode cX6_seat 52 = .ok (.iload_n 1, 1) := by decide +kernel
theorem dX6_seat_53 : decode cX6_seat 53 = .ok (.invokevirtual 202, 3) := by decide +kernel
theorem dX6_seat_56 : decode cX6_seat 56 = .ok (.aload_n 0, 1) := by decide +kernel
theorem dX6_seat_57 : decode cX6_seat 57 = .ok (.getfield 26, 3) := by decide +kernel
theorem dX6_seat_60 : decode cX6_seat 60 = .ok (.invokevirtual 205, 3) := by decide +kernel
theorem dX6_seat_63 : decode cX6_seat 63 = .ok (.ireturn, 1) := by decide +kernel
def gX6_seat_56 (s : Mem)  : Option (Int32 × Mem) :=
  (fX3_moved s).bind (fun y5 => some ((y5, s)))
set_option maxRecDepth 4000 in
theorem jgX6_seat_56 {X : Scr} (d : Nat) (s : Mem)  {r : (Int32 × Mem)} {w : Option Value} {s' : Mem} (hh : gX6_seat_56 s = some r) (hk : w = some (.int r.1) ∧ r.2 = s') : J X MX6_seat (d + 5) 56 [some (.ref 0), none] [] s w s' := by
  unfold gX6_seat_56 at hh
  refine J_aload_n (pc := 56) dX6_seat_56 rfl ?_
  refine J_getR (pc := 57) (k := 2) flX6_26 so0 fk0_2 dX6_seat_57 ?_
  obtain ⟨y5, hy5, hh⟩ := bd_some hh
  refine J_callVi (pc := 60) (M' := MX3_moved) (a := 5) (rest := []) (As := []) (L0 := [some (.ref 5), none, none]) okX3_moved ovX3_moved mlX6_205 clX3 so5 rfl rfl (Nat.le_of_ble_eq_true rfl) dX6_seat_60 rfl (Nat.le_of_ble_eq_true rfl) (jX3_moved (X := X) (d + 4) s hy5) ?_
  obtain rfl := Option.some.inj hh
  obtain ⟨rfl, rfl⟩ := hk
  exact J_ret (w := some (.int y5)) ⟨dX6_seat_63, _, rfl, rfl⟩
def fX6_seat (s : Mem) (p0 : Int32) : Option (Int32 × Mem) :=
  (fX6_isCourse p0).bind (fun y1 => if y1 = (0 : Int32) then (fX6_finding s (0 : Int32)).bind (fun y8 => some ((y8.1, y8.2))) else (fX6_begin s).bind (fun y2 => (fX3_prepare y2 p0).bind (fun y3 => (fX3_finds y3 (10000 : Int32) (0 : Int32) (1 : Int32)).bind (fun y4 => if y4.1 = (0 : Int32) then gX6_seat_56 y4.2 else (fX3_becomesSo y4.2 p0).bind (fun y6 => gX6_seat_56 y6)))))
set_option maxRecDepth 4000 in
theorem jjX6_seat {X : Scr} (d : Nat) (s : Mem) (p0 : Int32) {r : (Int32 × Mem)} {w : Option Value} {s' : Mem} (hh : fX6_seat s p0 = some r) (hk : w = some (.int r.1) ∧ r.2 = s') : J X MX6_seat (d + 5) 0 [some (.ref 0), some (.int p0)] [] s w s' := by
  unfold fX6_seat at hh
  refine J_iload_n (pc := 0) dX6_seat_0 rfl ?_
  obtain ⟨y1, hy1, hh⟩ := bd_some hh
  refine J_callSi (pc := 1) (M' := MX6_isCourse) (rest := []) (As := [.int p0]) (L0 := [some (.int p0)]) okX6_isCourse osX6_isCourse mlX6_108 rfl rfl (Nat.le_of_ble_eq_true rfl) dX6_seat_1 rfl (Nat.le_of_ble_eq_true rfl) (jX6_isCourse (X := X) (d + 3) s p0 hy1) ?_
  refine J_if_ne (pc := 4) 13 dX6_seat_4 (by decide) (fun c9 => ?_) (fun c9 => ?_)
  · replace hh := (if_neg c9).symm.trans hh
    refine J_aload_n (pc := 13) dX6_seat_13 rfl ?_
    obtain ⟨y2, hy2, hh⟩ := bd_some hh
    refine J_callV0 (pc := 14) (M' := MX6_begin) (a := 0) (rest := []) (As := []) (L0 := [some (.ref 0)]) okX6_begin ovX6_begin mlX6_92 clX6 so0 rfl rfl (Nat.le_of_ble_eq_true rfl) dX6_seat_14 rfl (Nat.le_of_ble_eq_true rfl) (jX6_begin (X := X) (d + 1) s hy2) ?_
    refine J_aload_n (pc := 17) dX6_seat_17 rfl ?_
    refine J_getR (pc := 18) (k := 2) flX6_26 so0 fk0_2 dX6_seat_18 ?_
    refine J_aload_n (pc := 21) dX6_seat_21 rfl ?_
    refine J_getR (pc := 22) (k := 0) flX6_10 so0 fk0_0 dX6_seat_22 ?_
    refine J_iload_n (pc := 25) dX6_seat_25 rfl ?_
    obtain ⟨y3, hy3, hh⟩ := bd_some hh
    refine J_callV0 (pc := 26) (M' := MX3_prepare) (a := 5) (rest := []) (As := [.ref 1, .int p0]) (L0 := [some (.ref 5), some (.ref 1), some (.int p0), none, none, none]) okX3_prepare ovX3_prepare mlX6_192 clX3 so5 rfl rfl (Nat.le_of_ble_eq_true rfl) dX6_seat_26 rfl (Nat.le_of_ble_eq_true rfl) (jX3_prepare (X := X) (d + 1) y2 p0 hy3) ?_
    refine J_aload_n (pc := 29) dX6_seat_29 rfl ?_
    refine J_getR (pc := 30) (k := 2) flX6_26 so0 fk0_2 dX6_seat_30 ?_
    refine J_sipush (pc := 33) dX6_seat_33 cs_10000 ?_
    refine J_iconst (pc := 36) dX6_seat_36 ci_0 ?_
    refine J_iconst (pc := 37) dX6_seat_37 ci_1 ?_
    obtain ⟨y4, hy4, hh⟩ := bd_some hh
    refine J_callVi (pc := 38) (M' := MX3_finds) (a := 5) (rest := []) (As := [.int (10000 : Int32), .int (0 : Int32), .int (1 : Int32)]) (L0 := [some (.ref 5), some (.int (10000 : Int32)), some (.int (0 : Int32)), some (.int (1 : Int32)), none]) okX3_finds ovX3_finds mlX6_196 clX3 so5 rfl rfl (Nat.le_of_ble_eq_true rfl) dX6_seat_38 rfl (Nat.le_of_ble_eq_true rfl) (jX3_finds (X := X) d y3 (10000 : Int32) (0 : Int32) (1 : Int32) hy4) ?_
    refine J_if_eq (pc := 41) 56 dX6_seat_41 (by decide) (fun c7 => ?_) (fun c7 => ?_)
    · replace hh := (if_pos c7).symm.trans hh
      refine J_drop 1 (L' := [some (.ref 0), none]) rfl ?_
      exact jgX6_seat_56 d y4.2 hh hk
    · replace hh := (if_neg c7).symm.trans hh
      refine J_aload_n (pc := 44) dX6_seat_44 rfl ?_
      refine J_getR (pc := 45) (k := 2) flX6_26 so0 fk0_2 dX6_seat_45 ?_
      refine J_aload_n (pc := 48) dX6_seat_48 rfl ?_
      refine J_getR (pc := 49) (k := 0) flX6_10 so0 fk0_0 dX6_seat_49 ?_
      refine J_iload_n (pc := 52) dX6_seat_52 rfl ?_
      obtain ⟨y6, hy6, hh⟩ := bd_some hh
      refine J_callV0 (pc := 53) (M' := MX3_becomesSo) (a := 5) (rest := []) (As := [.ref 1, .int p0]) (L0 := [some (.ref 5), some (.ref 1), some (.int p0), none]) okX3_becomesSo ovX3_becomesSo mlX6_202 clX3 so5 rfl rfl (Nat.le_of_ble_eq_true rfl) dX6_seat_53 rfl (Nat.le_of_ble_eq_true rfl) (jX3_becomesSo (X := X) (d + 3) y4.2 p0 hy6) ?_
      refine J_drop 1 (L' := [some (.ref 0), none]) rfl ?_
      exact jgX6_seat_56 d y6 hh hk
  · replace hh := (if_pos c9).symm.trans hh
    refine J_aload_n (pc := 7) dX6_seat_7 rfl ?_
    refine J_iconst (pc := 8) dX6_seat_8 ci_0 ?_
    obtain ⟨y8, hy8, hh⟩ := bd_some hh
    refine J_callVi (pc := 9) (M' := MX6_finding) (a := 0) (rest := []) (As := [.int (0 : Int32)]) (L0 := [some (.ref 0), some (.int (0 : Int32))]) okX6_finding ovX6_finding mlX6_68 clX6 so0 rfl rfl (Nat.le_of_ble_eq_true rfl) dX6_seat_9 rfl (Nat.le_of_ble_eq_true rfl) (jX6_finding (X := X) (d + 3) s (0 : Int32) hy8) ?_
    obtain rfl := Option.some.inj hh
    obtain ⟨rfl, rfl⟩ := hk
    exact J_ret (w := some (.int y8.1)) ⟨dX6_seat_12, _, rfl, rfl⟩
theorem jX6_seat {X : Scr} (d : Nat) (s : Mem) (p0 : Int32) {r : (Int32 × Mem)} (hh : fX6_seat s p0 = some r) : J X MX6_seat (d + 5) 0 [some (.ref 0), some (.int p0)] [] s (some (.int r.1)) r.2 := jjX6_seat d s p0 hh ⟨rfl, rfl⟩
theorem dX6_evens_0 : decode cX6_evens 0 = .ok (.iload_n 1, 1) := by decide +kernel
theorem dX6_evens_1 : decode cX6_evens 1 = .ok (.invokestatic 108, 3) := by decide +kernel
theorem dX6_evens_4 : decode cX6_evens 4 = .ok (.ifCond .ne 9, 3) := by decide +kernel
theorem dX6_evens_7 : decode cX6_evens 7 = .ok (.aload_n 0, 1) := by decide +kernel
theorem dX6_evens_8 : decode cX6_evens 8 = .ok (.iconst 0, 1) := by decide +kernel
theorem dX6_evens_9 : decode cX6_evens 9 = .ok (.invokevirtual 68, 3) := by decide +kernel
theorem dX6_evens_12 : decode cX6_evens 12 = .ok (.ireturn, 1) := by decide +kernel
theorem dX6_evens_13 : decode cX6_evens 13 = .ok (.aload_n 0, 1) := by decide +kernel
theorem dX6_evens_14 : decode cX6_evens 14 = .ok (.invokevirtual 92, 3) := by decide +kernel
theorem dX6_evens_17 : decode cX6_evens 17 = .ok (.aload_n 0, 1) := by decide +kernel
theorem dX6_evens_18 : decode cX6_evens 18 = .ok (.getfield 26, 3) := by decide +kernel
theorem dX6_evens_21 : decode cX6_evens 21 = .ok (.aload_n 0, 1) := by decide +kernel
theorem dX6_evens_22 : decode cX6_evens 22 = .ok (.getfield 10, 3) := by decide +kernel
theorem dX6_evens_25 : decode cX6_evens 25 = .ok (.iload_n 1, 1) := by decide +kernel
theorem dX6_evens_26 : decode cX6_evens 26 = .ok (.invokevirtual 192, 3) := by decide +kernel
theorem dX6_evens_29 : decode cX6_evens 29 = .ok (.aload_n 0, 1) := by decide +kernel
theorem dX6_evens_30 : decode cX6_evens 30 = .ok (.getfield 26, 3) := by decide +kernel
theorem dX6_evens_33 : decode cX6_evens 33 = .ok (.sipush 10000, 3) := by decide +kernel
theorem dX6_evens_36 : decode cX6_evens 36 = .ok (.bipush 100, 2) := by decide +kernel
theorem dX6_evens_38 : decode cX6_evens 38 = .ok (.iconst 1, 1) := by decide +kernel
theorem dX6_evens_39 : decode cX6_evens 39 = .ok (.invokevirtual 196, 3) := by decide +kernel
theorem dX6_evens_42 : decode cX6_evens 42 = .ok (.ifCond .eq 15, 3) := by decide +kernel
theorem dX6_evens_45 : decode cX6_evens 45 = .ok (.aload_n 0, 1) := by decide +kernel
theorem dX6_evens_46 : decode cX6_evens 46 = .ok (.getfield 26, 3) := by decide +kernel
theorem dX6_evens_49 : decode cX6_evens 49 = .ok (.aload_n 0, 1) := by decide +kernel
theorem dX6_evens_50 : decode cX6_evens 50 = .ok (.getfield 10, 3) := by decide +kernel
theorem dX6_evens_53 : decode cX6_evens 53 = .ok (.iload_n 1, 1) := by decide +kernel
theorem dX6_evens_54 : decode cX6_evens 54 = .ok (.invokevirtual 202, 3) := by decide +kernel
theorem dX6_evens_57 : decode cX6_evens 57 = .ok (.aload_n 0, 1) := by decide +kernel
theorem dX6_evens_58 : decode cX6_evens 58 = .ok (.getfield 10, 3) := by decide +kernel
theorem dX6_evens_61 : decode cX6_evens 61 = .ok (.iload_n 1, 1) := by decide +kernel
theorem dX6_evens_62 : decode cX6_evens 62 = .ok (.invokevirtual 117, 3) := by decide +kernel
theorem dX6_evens_65 : decode cX6_evens 65 = .ok (.ireturn, 1) := by decide +kernel
def gX6_evens_57 (s : Mem) (v1 : Int32) : Option (Int32 × Mem) :=
  (fX0_unevenness s v1).bind (fun y5 => some ((y5, s)))
set_option maxRecDepth 4000 in
theorem jgX6_evens_57 {X : Scr} (d : Nat) (s : Mem) (v1 : Int32) {r : (Int32 × Mem)} {w : Option Value} {s' : Mem} (hh : gX6_evens_57 s v1 = some r) (hk : w = some (.int r.1) ∧ r.2 = s') : J X MX6_evens (d + 5) 57 [some (.ref 0), some (.int v1)] [] s w s' := by
  unfold gX6_evens_57 at hh
  refine J_aload_n (pc := 57) dX6_evens_57 rfl ?_
  refine J_getR (pc := 58) (k := 0) flX6_10 so0 fk0_0 dX6_evens_58 ?_
  refine J_iload_n (pc := 61) dX6_evens_61 rfl ?_
  obtain ⟨y5, hy5, hh⟩ := bd_some hh
  refine J_callVi (pc := 62) (M' := MX0_unevenness) (a := 1) (rest := []) (As := [.int v1]) (L0 := [some (.ref 1), some (.int v1), none, none]) okX0_unevenness ovX0_unevenness mlX6_117 clX0 so1 rfl rfl (Nat.le_of_ble_eq_true rfl) dX6_evens_62 rfl (Nat.le_of_ble_eq_true rfl) (jX0_unevenness (X := X) (d + 2) s v1 hy5) ?_
  obtain rfl := Option.some.inj hh
  obtain ⟨rfl, rfl⟩ := hk
  exact J_ret (w := some (.int y5)) ⟨dX6_evens_65, _, rfl, rfl⟩
def fX6_evens (s : Mem) (p0 : Int32) : Option (Int32 × Mem) :=
  (fX6_isCourse p0).bind (fun y1 => if y1 = (0 : Int32) then (fX6_finding s (0 : Int32)).bind (fun y8 => some ((y8.1, y8.2))) else (fX6_begin s).bind (fun y2 => (fX3_prepare y2 p0).bind (fun y3 => (fX3_finds y3 (10000 : Int32) (100 : Int32) (1 : Int32)).bind (fun y4 => if y4.1 = (0 : Int32) then gX6_evens_57 y4.2 p0 else (fX3_becomesSo y4.2 p0).bind (fun y6 => gX6_evens_57 y6 p0)))))
set_option maxRecDepth 4000 in
theorem jjX6_evens {X : Scr} (d : Nat) (s : Mem) (p0 : Int32) {r : (Int32 × Mem)} {w : Option Value} {s' : Mem} (hh : fX6_evens s p0 = some r) (hk : w = some (.int r.1) ∧ r.2 = s') : J X MX6_evens (d + 5) 0 [some (.ref 0), some (.int p0)] [] s w s' := by
  unfold fX6_evens at hh
  refine J_iload_n (pc := 0) dX6_evens_0 rfl ?_
  obtain ⟨y1, hy1, hh⟩ := bd_some hh
  refine J_callSi (pc := 1) (M' := MX6_isCourse) (rest := []) (As := [.int p0]) (L0 := [some (.int p0)]) okX6_isCourse osX6_isCourse mlX6_108 rfl rfl (Nat.le_of_ble_eq_true rfl) dX6_evens_1 rfl (Nat.le_of_ble_eq_true rfl) (jX6_isCourse (X := X) (d + 3) s p0 hy1) ?_
  refine J_if_ne (pc := 4) 13 dX6_evens_4 (by decide) (fun c9 => ?_) (fun c9 => ?_)
  · replace hh := (if_neg c9).symm.trans hh
    refine J_aload_n (pc := 13) dX6_evens_13 rfl ?_
    obtain ⟨y2, hy2, hh⟩ := bd_some hh
    refine J_callV0 (pc := 14) (M' := MX6_begin) (a := 0) (rest := []) (As := []) (L0 := [some (.ref 0)]) okX6_begin ovX6_begin mlX6_92 clX6 so0 rfl rfl (Nat.le_of_ble_eq_true rfl) dX6_evens_14 rfl (Nat.le_of_ble_eq_true rfl) (jX6_begin (X := X) (d + 1) s hy2) ?_
    refine J_aload_n (pc := 17) dX6_evens_17 rfl ?_
    refine J_getR (pc := 18) (k := 2) flX6_26 so0 fk0_2 dX6_evens_18 ?_
    refine J_aload_n (pc := 21) dX6_evens_21 rfl ?_
    refine J_getR (pc := 22) (k := 0) flX6_10 so0 fk0_0 dX6_evens_22 ?_
    refine J_iload_n (pc := 25) dX6_evens_25 rfl ?_
    obtain ⟨y3, hy3, hh⟩ := bd_some hh
    refine J_callV0 (pc := 26) (M' := MX3_prepare) (a := 5) (rest := []) (As := [.ref 1, .int p0]) (L0 := [some (.ref 5), some (.ref 1), some (.int p0), none, none, none]) okX3_prepare ovX3_prepare mlX6_192 clX3 so5 rfl rfl (Nat.le_of_ble_eq_true rfl) dX6_evens_26 rfl (Nat.le_of_ble_eq_true rfl) (jX3_prepare (X := X) (d + 1) y2 p0 hy3) ?_
    refine J_aload_n (pc := 29) dX6_evens_29 rfl ?_
    refine J_getR (pc := 30) (k := 2) flX6_26 so0 fk0_2 dX6_evens_30 ?_
    refine J_sipush (pc := 33) dX6_evens_33 cs_10000 ?_
    refine J_bipush (pc := 36) dX6_evens_36 cb_100 ?_
    refine J_iconst (pc := 38) dX6_evens_38 ci_1 ?_
    obtain ⟨y4, hy4, hh⟩ := bd_some hh
    refine J_callVi (pc := 39) (M' := MX3_finds) (a := 5) (rest := []) (As := [.int (10000 : Int32), .int (100 : Int32), .int (1 : Int32)]) (L0 := [some (.ref 5), some (.int (10000 : Int32)), some (.int (100 : Int32)), some (.int (1 : Int32)), none]) okX3_finds ovX3_finds mlX6_196 clX3 so5 rfl rfl (Nat.le_of_ble_eq_true rfl) dX6_evens_39 rfl (Nat.le_of_ble_eq_true rfl) (jX3_finds (X := X) d y3 (10000 : Int32) (100 : Int32) (1 : Int32) hy4) ?_
    refine J_if_eq (pc := 42) 57 dX6_evens_42 (by decide) (fun c7 => ?_) (fun c7 => ?_)
    · replace hh := (if_pos c7).symm.trans hh
      exact jgX6_evens_57 d y4.2 p0 hh hk
    · replace hh := (if_neg c7).symm.trans hh
      refine J_aload_n (pc := 45) dX6_evens_45 rfl ?_
      refine J_getR (pc := 46) (k := 2) flX6_26 so0 fk0_2 dX6_evens_46 ?_
      refine J_aload_n (pc := 49) dX6_evens_49 rfl ?_
      refine J_getR (pc := 50) (k := 0) flX6_10 so0 fk0_0 dX6_evens_50 ?_
      refine J_iload_n (pc := 53) dX6_evens_53 rfl ?_
      obtain ⟨y6, hy6, hh⟩ := bd_some hh
      refine J_callV0 (pc := 54) (M' := MX3_becomesSo) (a := 5) (rest := []) (As := [.ref 1, .int p0]) (L0 := [some (.ref 5), some (.ref 1), some (.int p0), none]) okX3_becomesSo ovX3_becomesSo mlX6_202 clX3 so5 rfl rfl (Nat.le_of_ble_eq_true rfl) dX6_evens_54 rfl (Nat.le_of_ble_eq_true rfl) (jX3_becomesSo (X := X) (d + 3) y4.2 p0 hy6) ?_
      exact jgX6_evens_57 d y6 p0 hh hk
  · replace hh := (if_pos c9).symm.trans hh
    refine J_aload_n (pc := 7) dX6_evens_7 rfl ?_
    refine J_iconst (pc := 8) dX6_evens_8 ci_0 ?_
    obtain ⟨y8, hy8, hh⟩ := bd_some hh
    refine J_callVi (pc := 9) (M' := MX6_finding) (a := 0) (rest := []) (As := [.int (0 : Int32)]) (L0 := [some (.ref 0), some (.int (0 : Int32))]) okX6_finding ovX6_finding mlX6_68 clX6 so0 rfl rfl (Nat.le_of_ble_eq_true rfl) dX6_evens_9 rfl (Nat.le_of_ble_eq_true rfl) (jX6_finding (X := X) (d + 3) s (0 : Int32) hy8) ?_
    obtain rfl := Option.some.inj hh
    obtain ⟨rfl, rfl⟩ := hk
    exact J_ret (w := some (.int y8.1)) ⟨dX6_evens_12, _, rfl, rfl⟩
theorem jX6_evens {X : Scr} (d : Nat) (s : Mem) (p0 : Int32) {r : (Int32 × Mem)} (hh : fX6_evens s p0 = some r) : J X MX6_evens (d + 5) 0 [some (.ref 0), some (.int p0)] [] s (some (.int r.1)) r.2 := jjX6_evens d s p0 hh ⟨rfl, rfl⟩
theorem dX6_letIn_0 : decode cX6_letIn 0 = .ok (.aload_n 0, 1) := by decide +kernel
theorem dX6_letIn_1 : decode cX6_letIn 1 = .ok (.iload_n 1, 1) := by decide +kernel
theorem dX6_letIn_2 : decode cX6_letIn 2 = .ok (.invokevirtual 135, 3) := by decide +kernel
theorem dX6_letIn_5 : decode cX6_letIn 5 = .ok (.ifCond .eq 10, 3) := by decide +kernel
theorem dX6_letIn_8 : decode cX6_letIn 8 = .ok (.iload_n 2, 1) := by decide +kernel
theorem dX6_letIn_9 : decode cX6_letIn 9 = .ok (.invokestatic 108, 3) := by decide +kernel
theorem dX6_letIn_12 : decode cX6_letIn 12 = .ok (.ifCond .ne 5, 3) := by decide +kernel
theorem dX6_letIn_15 : decode cX6_letIn 15 = .ok (.iconst (-1), 1) := by decide +kernel
theorem dX6_letIn_16 : decode cX6_letIn 16 = .ok (.ireturn, 1) := by decide +kernel
theorem dX6_letIn_17 : decode cX6_letIn 17 = .ok (.aload_n 0, 1) := by decide +kernel
theorem dX6_letIn_18 : decode cX6_letIn 18 = .ok (.getfield 10, 3) := by decide +kernel
theorem dX6_letIn_21 : decode cX6_letIn 21 = .ok (.iload_n 1, 1) := by decide +kernel
theorem dX6_letIn_22 : decode cX6_letIn 22 = .ok (.iload_n 2, 1) := by decide +kernel
theorem dX6_letIn_23 : decode cX6_letIn 23 = .ok (.invokevirtual 171, 3) := by decide +kernel
theorem dX6_letIn_26 : decode cX6_letIn 26 = .ok (.ifCond .ne 6, 3) := by decide +kernel
theorem dX6_letIn_29 : decode cX6_letIn 29 = .ok (.bipush (-4), 2) := by decide +kernel
theorem dX6_letIn_31 : decode cX6_letIn 31 = .ok (.ireturn, 1) := by decide +kernel
theorem dX6_letIn_32 : decode cX6_letIn 32 = .ok (.aload_n 0, 1) := by decide +kernel
theorem dX6_letIn_33 : decode cX6_letIn 33 = .ok (.getfield 10, 3) := by decide +kernel
theorem dX6_letIn_36 : decode cX6_letIn 36 = .ok (.iload_n 1, 1) := by decide +kernel
theorem dX6_letIn_37 : decode cX6_letIn 37 = .ok (.iload_n 2, 1) := by decide +kernel
theorem dX6_letIn_38 : decode cX6_letIn 38 = .ok (.invokevirtual 154, 3) := by decide +kernel
theorem dX6_letIn_41 : decode cX6_letIn 41 = .ok (.ifCond .lt 6, 3) := by decide +kernel
theorem dX6_letIn_44 : decode cX6_letIn 44 = .ok (.bipush (-5), 2) := by decide +kernel
theorem dX6_letIn_46 : decode cX6_letIn 46 = .ok (.ireturn, 1) := by decide +kernel
theorem dX6_letIn_47 : decode cX6_letIn 47 = .ok (.aload_n 0, 1) := by decide +kernel
theorem dX6_letIn_48 : decode cX6_letIn 48 = .ok (.getfield 26, 3) := by decide +kernel
theorem dX6_letIn_51 : decode cX6_letIn 51 = .ok (.aload_n 0, 1) := by decide +kernel
theorem dX6_letIn_52 : decode cX6_letIn 52 = .ok (.getfield 10, 3) := by decide +kernel
theorem dX6_letIn_55 : decode cX6_letIn 55 = .ok (.iload_n 2, 1) := by decide +kernel
theorem dX6_letIn_56 : decode cX6_letIn 56 = .ok (.invokevirtual 192, 3) := by decide +kernel
theorem dX6_letIn_59 : decode cX6_letIn 59 = .ok (.aload_n 0, 1) := by decide +kernel
theorem dX6_letIn_60 : decode cX6_letIn 60 = .ok (.getfield 26, 3) := by decide +kernel
theorem dX6_letIn_63 : decode cX6_letIn 63 = .ok (.iload_n 1, 1) := by decide +kernel
theorem dX6_letIn_64 : decode cX6_letIn 64 = .ok (.invokevirtual 309, 3) := by decide +kernel
theorem dX6_letIn_67 : decode cX6_letIn 67 = .ok (.aload_n 0, 1) := by decide +kernel
theorem dX6_letIn_68 : decode cX6_letIn 68 = .ok (.getfield 26, 3) := by decide +kernel
theorem dX6_letIn_71 : decode cX6_letIn 71 = .ok (.iconst 0, 1) := by decide +kernel
theorem dX6_letIn_72 : decode cX6_letIn 72 = .ok (.iconst 0, 1) := by decide +kernel
theorem dX6_letIn_73 : decode cX6_letIn 73 = .ok (.iconst 1, 1) := by decide +kernel
theorem dX6_letIn_74 : decode cX6_letIn 74 = .ok (.invokevirtual 196, 3) := by decide +kernel
theorem dX6_letIn_77 : decode cX6_letIn 77 = .ok (.ifCond .eq 13, 3) := by decide +kernel
theorem dX6_letIn_80 : decode cX6_letIn 80 = .ok (.aload_n 0, 1) := by decide +kernel
theorem dX6_letIn_81 : decode cX6_letIn 81 = .ok (.getfield 26, 3) := by decide +kernel
theorem dX6_letIn_84 : decode cX6_letIn 84 = .ok (.invokevirtual 205, 3) := by decide +kernel
theorem dX6_letIn_87 : decode cX6_letIn 87 = .ok (.goto 5, 3) := by decide +kernel
theorem dX6_letIn_90 : decode cX6_letIn 90 = .ok (.bipush (-4), 2) := by decide +kernel
theorem dX6_letIn_92 : decode cX6_letIn 92 = .ok (.ireturn, 1) := by decide +kernel
def fX6_letIn (s : Mem) (p0 : Int32) (p1 : Int32) : Option (Int32 × Mem) :=
  (fX6_isPupil s p0).bind (fun y1 => if y1 = (0 : Int32) then some (((-1 : Int32), s)) else (fX6_isCourse p1).bind (fun y2 => if y2 = (0 : Int32) then some (((-1 : Int32), s)) else (fX0_wishes s p0 p1).bind (fun y3 => if y3 = (0 : Int32) then some (((-4 : Int32), s)) else (fX0_sits s p0 p1).bind (fun y4 => if y4 < (0 : Int32) then (fX3_prepare s p1).bind (fun y5 => (fX3_mustSit y5 p0).bind (fun y6 => (fX3_finds y6 (0 : Int32) (0 : Int32) (1 : Int32)).bind (fun y7 => if y7.1 = (0 : Int32) then some (((-4 : Int32), y7.2)) else (fX3_moved y7.2).bind (fun y8 => some ((y8, y7.2)))))) else some (((-5 : Int32), s))))))
set_option maxRecDepth 4000 in
theorem jjX6_letIn {X : Scr} (d : Nat) (s : Mem) (p0 : Int32) (p1 : Int32) {r : (Int32 × Mem)} {w : Option Value} {s' : Mem} (hh : fX6_letIn s p0 p1 = some r) (hk : w = some (.int r.1) ∧ r.2 = s') : J X MX6_letIn (d + 5) 0 [some (.ref 0), some (.int p0), some (.int p1)] [] s w s' := by
  unfold fX6_letIn at hh
  refine J_aload_n (pc := 0) dX6_letIn_0 rfl ?_
  refine J_iload_n (pc := 1) dX6_letIn_1 rfl ?_
  obtain ⟨y1, hy1, hh⟩ := bd_some hh
  refine J_callVi (pc := 2) (M' := MX6_isPupil) (a := 0) (rest := []) (As := [.int p0]) (L0 := [some (.ref 0), some (.int p0)]) okX6_isPupil ovX6_isPupil mlX6_135 clX6 so0 rfl rfl (Nat.le_of_ble_eq_true rfl) dX6_letIn_2 rfl (Nat.le_of_ble_eq_true rfl) (jX6_isPupil (X := X) (d + 3) s p0 hy1) ?_
  refine J_if_eq (pc := 5) 15 dX6_letIn_5 (by decide) (fun c13 => ?_) (fun c13 => ?_)
  · replace hh := (if_pos c13).symm.trans hh
    refine J_iconst (pc := 15) dX6_letIn_15 ci_m1 ?_
    obtain rfl := Option.some.inj hh
    obtain ⟨rfl, rfl⟩ := hk
    exact J_ret (w := some (.int (-1 : Int32))) ⟨dX6_letIn_16, _, rfl, rfl⟩
  · replace hh := (if_neg c13).symm.trans hh
    refine J_iload_n (pc := 8) dX6_letIn_8 rfl ?_
    obtain ⟨y2, hy2, hh⟩ := bd_some hh
    refine J_callSi (pc := 9) (M' := MX6_isCourse) (rest := []) (As := [.int p1]) (L0 := [some (.int p1)]) okX6_isCourse osX6_isCourse mlX6_108 rfl rfl (Nat.le_of_ble_eq_true rfl) dX6_letIn_9 rfl (Nat.le_of_ble_eq_true rfl) (jX6_isCourse (X := X) (d + 3) s p1 hy2) ?_
    refine J_if_ne (pc := 12) 17 dX6_letIn_12 (by decide) (fun c12 => ?_) (fun c12 => ?_)
    · replace hh := (if_neg c12).symm.trans hh
      refine J_aload_n (pc := 17) dX6_letIn_17 rfl ?_
      refine J_getR (pc := 18) (k := 0) flX6_10 so0 fk0_0 dX6_letIn_18 ?_
      refine J_iload_n (pc := 21) dX6_letIn_21 rfl ?_
      refine J_iload_n (pc := 22) dX6_letIn_22 rfl ?_
      obtain ⟨y3, hy3, hh⟩ := bd_some hh
      refine J_callVi (pc := 23) (M' := MX0_wishes) (a := 1) (rest := []) (As := [.int p0, .int p1]) (L0 := [some (.ref 1), some (.int p0), some (.int p1)]) okX0_wishes ovX0_wishes mlX6_171 clX0 so1 rfl rfl (Nat.le_of_ble_eq_true rfl) dX6_letIn_23 rfl (Nat.le_of_ble_eq_true rfl) (jX0_wishes (X := X) (d + 4) s p0 p1 hy3) ?_
      refine J_if_ne (pc := 26) 32 dX6_letIn_26 (by decide) (fun c11 => ?_) (fun c11 => ?_)
      · replace hh := (if_neg c11).symm.trans hh
        refine J_aload_n (pc := 32) dX6_letIn_32 rfl ?_
        refine J_getR (pc := 33) (k := 0) flX6_10 so0 fk0_0 dX6_letIn_33 ?_
        refine J_iload_n (pc := 36) dX6_letIn_36 rfl ?_
        refine J_iload_n (pc := 37) dX6_letIn_37 rfl ?_
        obtain ⟨y4, hy4, hh⟩ := bd_some hh
        refine J_callVi (pc := 38) (M' := MX0_sits) (a := 1) (rest := []) (As := [.int p0, .int p1]) (L0 := [some (.ref 1), some (.int p0), some (.int p1)]) okX0_sits ovX0_sits mlX6_154 clX0 so1 rfl rfl (Nat.le_of_ble_eq_true rfl) dX6_letIn_38 rfl (Nat.le_of_ble_eq_true rfl) (jX0_sits (X := X) (d + 4) s p0 p1 hy4) ?_
        refine J_if_lt (pc := 41) 47 dX6_letIn_41 (by decide) (fun c10 => ?_) (fun c10 => ?_)
        · replace hh := (if_pos c10).symm.trans hh
          refine J_aload_n (pc := 47) dX6_letIn_47 rfl ?_
          refine J_getR (pc := 48) (k := 2) flX6_26 so0 fk0_2 dX6_letIn_48 ?_
          refine J_aload_n (pc := 51) dX6_letIn_51 rfl ?_
          refine J_getR (pc := 52) (k := 0) flX6_10 so0 fk0_0 dX6_letIn_52 ?_
          refine J_iload_n (pc := 55) dX6_letIn_55 rfl ?_
          obtain ⟨y5, hy5, hh⟩ := bd_some hh
          refine J_callV0 (pc := 56) (M' := MX3_prepare) (a := 5) (rest := []) (As := [.ref 1, .int p1]) (L0 := [some (.ref 5), some (.ref 1), some (.int p1), none, none, none]) okX3_prepare ovX3_prepare mlX6_192 clX3 so5 rfl rfl (Nat.le_of_ble_eq_true rfl) dX6_letIn_56 rfl (Nat.le_of_ble_eq_true rfl) (jX3_prepare (X := X) (d + 1) s p1 hy5) ?_
          refine J_aload_n (pc := 59) dX6_letIn_59 rfl ?_
          refine J_getR (pc := 60) (k := 2) flX6_26 so0 fk0_2 dX6_letIn_60 ?_
          refine J_iload_n (pc := 63) dX6_letIn_63 rfl ?_
          obtain ⟨y6, hy6, hh⟩ := bd_some hh
          refine J_callV0 (pc := 64) (M' := MX3_mustSit) (a := 5) (rest := []) (As := [.int p0]) (L0 := [some (.ref 5), some (.int p0), none]) okX3_mustSit ovX3_mustSit mlX6_309 clX3 so5 rfl rfl (Nat.le_of_ble_eq_true rfl) dX6_letIn_64 rfl (Nat.le_of_ble_eq_true rfl) (jX3_mustSit (X := X) (d + 4) y5 p0 hy6) ?_
          refine J_aload_n (pc := 67) dX6_letIn_67 rfl ?_
          refine J_getR (pc := 68) (k := 2) flX6_26 so0 fk0_2 dX6_letIn_68 ?_
          refine J_iconst (pc := 71) dX6_letIn_71 ci_0 ?_
          refine J_iconst (pc := 72) dX6_letIn_72 ci_0 ?_
          refine J_iconst (pc := 73) dX6_letIn_73 ci_1 ?_
          obtain ⟨y7, hy7, hh⟩ := bd_some hh
          refine J_callVi (pc := 74) (M' := MX3_finds) (a := 5) (rest := []) (As := [.int (0 : Int32), .int (0 : Int32), .int (1 : Int32)]) (L0 := [some (.ref 5), some (.int (0 : Int32)), some (.int (0 : Int32)), some (.int (1 : Int32)), none]) okX3_finds ovX3_finds mlX6_196 clX3 so5 rfl rfl (Nat.le_of_ble_eq_true rfl) dX6_letIn_74 rfl (Nat.le_of_ble_eq_true rfl) (jX3_finds (X := X) d y6 (0 : Int32) (0 : Int32) (1 : Int32) hy7) ?_
          refine J_if_eq (pc := 77) 90 dX6_letIn_77 (by decide) (fun c9 => ?_) (fun c9 => ?_)
          · replace hh := (if_pos c9).symm.trans hh
            refine J_bipush (pc := 90) dX6_letIn_90 cb_m4 ?_
            obtain rfl := Option.some.inj hh
            obtain ⟨rfl, rfl⟩ := hk
            exact J_ret (w := some (.int (-4 : Int32))) ⟨dX6_letIn_92, _, rfl, rfl⟩
          · replace hh := (if_neg c9).symm.trans hh
            refine J_aload_n (pc := 80) dX6_letIn_80 rfl ?_
            refine J_getR (pc := 81) (k := 2) flX6_26 so0 fk0_2 dX6_letIn_81 ?_
            obtain ⟨y8, hy8, hh⟩ := bd_some hh
            refine J_callVi (pc := 84) (M' := MX3_moved) (a := 5) (rest := []) (As := []) (L0 := [some (.ref 5), none, none]) okX3_moved ovX3_moved mlX6_205 clX3 so5 rfl rfl (Nat.le_of_ble_eq_true rfl) dX6_letIn_84 rfl (Nat.le_of_ble_eq_true rfl) (jX3_moved (X := X) (d + 4) y7.2 hy8) ?_
            refine J_goto (pc := 87) 92 dX6_letIn_87 (by decide) ?_
            obtain rfl := Option.some.inj hh
            obtain ⟨rfl, rfl⟩ := hk
            exact J_ret (w := some (.int y8)) ⟨dX6_letIn_92, _, rfl, rfl⟩
        · replace hh := (if_neg c10).symm.trans hh
          refine J_bipush (pc := 44) dX6_letIn_44 cb_m5 ?_
          obtain rfl := Option.some.inj hh
          obtain ⟨rfl, rfl⟩ := hk
          exact J_ret (w := some (.int (-5 : Int32))) ⟨dX6_letIn_46, _, rfl, rfl⟩
      · replace hh := (if_pos c11).symm.trans hh
        refine J_bipush (pc := 29) dX6_letIn_29 cb_m4 ?_
        obtain rfl := Option.some.inj hh
        obtain ⟨rfl, rfl⟩ := hk
        exact J_ret (w := some (.int (-4 : Int32))) ⟨dX6_letIn_31, _, rfl, rfl⟩
    · replace hh := (if_pos c12).symm.trans hh
      refine J_iconst (pc := 15) dX6_letIn_15 ci_m1 ?_
      obtain rfl := Option.some.inj hh
      obtain ⟨rfl, rfl⟩ := hk
      exact J_ret (w := some (.int (-1 : Int32))) ⟨dX6_letIn_16, _, rfl, rfl⟩
theorem jX6_letIn {X : Scr} (d : Nat) (s : Mem) (p0 : Int32) (p1 : Int32) {r : (Int32 × Mem)} (hh : fX6_letIn s p0 p1 = some r) : J X MX6_letIn (d + 5) 0 [some (.ref 0), some (.int p0), some (.int p1)] [] s (some (.int r.1)) r.2 := jjX6_letIn d s p0 p1 hh ⟨rfl, rfl⟩
theorem dX6_chain_0 : decode cX6_chain 0 = .ok (.aload_n 0, 1) := by decide +kernel
theorem dX6_chain_1 : decode cX6_chain 1 = .ok (.iload_n 1, 1) := by decide +kernel
theorem dX6_chain_2 : decode cX6_chain 2 = .ok (.iload_n 2, 1) := by decide +kernel
theorem dX6_chain_3 : decode cX6_chain 3 = .ok (.invokevirtual 208, 3) := by decide +kernel
theorem dX6_chain_6 : decode cX6_chain 6 = .ok (.istore_n 3, 1) := by decide +kernel
theorem dX6_chain_7 : decode cX6_chain 7 = .ok (.iload_n 3, 1) := by decide +kernel
theorem dX6_chain_8 : decode cX6_chain 8 = .ok (.ifCond .ge 13, 3) := by decide +kernel
theorem dX6_chain_11 : decode cX6_chain 11 = .ok (.aload_n 0, 1) := by decide +kernel
theorem dX6_chain_12 : decode cX6_chain 12 = .ok (.iconst (-1), 1) := by decide +kernel
theorem dX6_chain_13 : decode cX6_chain 13 = .ok (.iload_n 3, 1) := by decide +kernel
theorem dX6_chain_14 : decode cX6_chain 14 = .ok (.isub, 1) := by decide +kernel
theorem dX6_chain_15 : decode cX6_chain 15 = .ok (.invokevirtual 68, 3) := by decide +kernel
theorem dX6_chain_18 : decode cX6_chain 18 = .ok (.goto 4, 3) := by decide +kernel
theorem dX6_chain_21 : decode cX6_chain 21 = .ok (.iload_n 3, 1) := by decide +kernel
theorem dX6_chain_22 : decode cX6_chain 22 = .ok (.ireturn, 1) := by decide +kernel
def fX6_chain (s : Mem) (p0 : Int32) (p1 : Int32) : Option (Int32 × Mem) :=
  (fX6_letIn s p0 p1).bind (fun y1 => if (0 : Int32) ≤ y1.1 then some ((y1.1, y1.2)) else (fX6_finding y1.2 ((-1 : Int32) - y1.1)).bind (fun y2 => some ((y2.1, y2.2))))
set_option maxRecDepth 4000 in
theorem jjX6_chain {X : Scr} (d : Nat) (s : Mem) (p0 : Int32) (p1 : Int32) {r : (Int32 × Mem)} {w : Option Value} {s' : Mem} (hh : fX6_chain s p0 p1 = some r) (hk : w = some (.int r.1) ∧ r.2 = s') : J X MX6_chain (d + 6) 0 [some (.ref 0), some (.int p0), some (.int p1), none] [] s w s' := by
  unfold fX6_chain at hh
  refine J_aload_n (pc := 0) dX6_chain_0 rfl ?_
  refine J_iload_n (pc := 1) dX6_chain_1 rfl ?_
  refine J_iload_n (pc := 2) dX6_chain_2 rfl ?_
  obtain ⟨y1, hy1, hh⟩ := bd_some hh
  refine J_callVi (pc := 3) (M' := MX6_letIn) (a := 0) (rest := []) (As := [.int p0, .int p1]) (L0 := [some (.ref 0), some (.int p0), some (.int p1)]) okX6_letIn ovX6_letIn mlX6_208 clX6 so0 rfl rfl (Nat.le_of_ble_eq_true rfl) dX6_chain_3 rfl (Nat.le_of_ble_eq_true rfl) (jX6_letIn (X := X) d s p0 p1 hy1) ?_
  refine J_istore_n (pc := 6) (L' := [some (.ref 0), some (.int p0), some (.int p1), some (.int y1.1)]) dX6_chain_6 rfl (Nat.le_of_ble_eq_true rfl) rfl ?_
  refine J_iload_n (pc := 7) dX6_chain_7 rfl ?_
  refine J_if_ge (pc := 8) 21 dX6_chain_8 (by decide) (fun c3 => ?_) (fun c3 => ?_)
  · replace hh := (if_pos c3).symm.trans hh
    refine J_iload_n (pc := 21) dX6_chain_21 rfl ?_
    obtain rfl := Option.some.inj hh
    obtain ⟨rfl, rfl⟩ := hk
    exact J_ret (w := some (.int y1.1)) ⟨dX6_chain_22, _, rfl, rfl⟩
  · replace hh := (if_neg c3).symm.trans hh
    refine J_aload_n (pc := 11) dX6_chain_11 rfl ?_
    refine J_iconst (pc := 12) dX6_chain_12 ci_m1 ?_
    refine J_iload_n (pc := 13) dX6_chain_13 rfl ?_
    refine J_isub (pc := 14) dX6_chain_14 ?_
    obtain ⟨y2, hy2, hh⟩ := bd_some hh
    refine J_callVi (pc := 15) (M' := MX6_finding) (a := 0) (rest := []) (As := [.int ((-1 : Int32) - y1.1)]) (L0 := [some (.ref 0), some (.int ((-1 : Int32) - y1.1))]) okX6_finding ovX6_finding mlX6_68 clX6 so0 rfl rfl (Nat.le_of_ble_eq_true rfl) dX6_chain_15 rfl (Nat.le_of_ble_eq_true rfl) (jX6_finding (X := X) (d + 4) y1.2 ((-1 : Int32) - y1.1) hy2) ?_
    refine J_goto (pc := 18) 22 dX6_chain_18 (by decide) ?_
    obtain rfl := Option.some.inj hh
    obtain ⟨rfl, rfl⟩ := hk
    exact J_ret (w := some (.int y2.1)) ⟨dX6_chain_22, _, rfl, rfl⟩
theorem jX6_chain {X : Scr} (d : Nat) (s : Mem) (p0 : Int32) (p1 : Int32) {r : (Int32 × Mem)} (hh : fX6_chain s p0 p1 = some r) : J X MX6_chain (d + 6) 0 [some (.ref 0), some (.int p0), some (.int p1), none] [] s (some (.int r.1)) r.2 := jjX6_chain d s p0 p1 hh ⟨rfl, rfl⟩
theorem dX6_lets_0 : decode cX6_lets 0 = .ok (.aload_n 0, 1) := by decide +kernel
theorem dX6_lets_1 : decode cX6_lets 1 = .ok (.iload_n 1, 1) := by decide +kernel
theorem dX6_lets_2 : decode cX6_lets 2 = .ok (.iload_n 2, 1) := by decide +kernel
theorem dX6_lets_3 : decode cX6_lets 3 = .ok (.invokevirtual 208, 3) := by decide +kernel
theorem dX6_lets_6 : decode cX6_lets 6 = .ok (.istore_n 3, 1) := by decide +kernel
theorem dX6_lets_7 : decode cX6_lets 7 = .ok (.iload_n 3, 1) := by decide +kernel
theorem dX6_lets_8 : decode cX6_lets 8 = .ok (.ifCond .ge 11, 3) := by decide +kernel
theorem dX6_lets_11 : decode cX6_lets 11 = .ok (.aload_n 0, 1) := by decide +kernel
theorem dX6_lets_12 : decode cX6_lets 12 = .ok (.iconst (-1), 1) := by decide +kernel
theorem dX6_lets_13 : decode cX6_lets 13 = .ok (.iload_n 3, 1) := by decide +kernel
theorem dX6_lets_14 : decode cX6_lets 14 = .ok (.isub, 1) := by decide +kernel
theorem dX6_lets_15 : decode cX6_lets 15 = .ok (.invokevirtual 68, 3) := by decide +kernel
theorem dX6_lets_18 : decode cX6_lets 18 = .ok (.ireturn, 1) := by decide +kernel
theorem dX6_lets_19 : decode cX6_lets 19 = .ok (.aload_n 0, 1) := by decide +kernel
theorem dX6_lets_20 : decode cX6_lets 20 = .ok (.invokevirtual 92, 3) := by decide +kernel
theorem dX6_lets_23 : decode cX6_lets 23 = .ok (.aload_n 0, 1) := by decide +kernel
theorem dX6_lets_24 : decode cX6_lets 24 = .ok (.getfield 26, 3) := by decide +kernel
theorem dX6_lets_27 : decode cX6_lets 27 = .ok (.aload_n 0, 1) := by decide +kernel
theorem dX6_lets_28 : decode cX6_lets 28 = .ok (.getfield 10, 3) := by decide +kernel
theorem dX6_lets_31 : decode cX6_lets 31 = .ok (.iload_n 2, 1) := by decide +kernel
theorem dX6_lets_32 : decode cX6_lets 32 = .ok (.invokevirtual 202, 3) := by decide +kernel
theorem dX6_lets_35 : decode cX6_lets 35 = .ok (.aload_n 0, 1) := by decide +kernel
theorem dX6_lets_36 : decode cX6_lets 36 = .ok (.getfield 10, 3) := by decide +kernel
theorem dX6_lets_39 : decode cX6_lets 39 = .ok (.iload_n 1, 1) := by decide +kernel
theorem dX6_lets_40 : decode cX6_lets 40 = .ok (.iload_n 2, 1) := by decide +kernel
theorem dX6_lets_41 : decode cX6_lets 41 = .ok (.invokevirtual 154, 3) := by decide +kernel
theorem dX6_lets_44 : decode cX6_lets 44 = .ok (.ireturn, 1) := by decide +kernel
def fX6_lets (s : Mem) (p0 : Int32) (p1 : Int32) : Option (Int32 × Mem) :=
  (fX6_letIn s p0 p1).bind (fun y1 => if (0 : Int32) ≤ y1.1 then (fX6_begin y1.2).bind (fun y2 => (fX3_becomesSo y2 p1).bind (fun y3 => (fX0_sits y3 p0 p1).bind (fun y4 => some ((y4, y3))))) else (fX6_finding y1.2 ((-1 : Int32) - y1.1)).bind (fun y5 => some ((y5.1, y5.2))))
set_option maxRecDepth 4000 in
theorem jjX6_lets {X : Scr} (d : Nat) (s : Mem) (p0 : Int32) (p1 : Int32) {r : (Int32 × Mem)} {w : Option Value} {s' : Mem} (hh : fX6_lets s p0 p1 = some r) (hk : w = some (.int r.1) ∧ r.2 = s') : J X MX6_lets (d + 6) 0 [some (.ref 0), some (.int p0), some (.int p1), none] [] s w s' := by
  unfold fX6_lets at hh
  refine J_aload_n (pc := 0) dX6_lets_0 rfl ?_
  refine J_iload_n (pc := 1) dX6_lets_1 rfl ?_
  refine J_iload_n (pc := 2) dX6_lets_2 rfl ?_
  obtain ⟨y1, hy1, hh⟩ := bd_some hh
  refine J_callVi (pc := 3) (M' := MX6_letIn) (a := 0) (rest := []) (As := [.int p0, .int p1]) (L0 := [some (.ref 0), some (.int p0), some (.int p1)]) okX6_letIn ovX6_letIn mlX6_208 clX6 so0 rfl rfl (Nat.le_of_ble_eq_true rfl) dX6_lets_3 rfl (Nat.le_of_ble_eq_true rfl) (jX6_letIn (X := X) d s p0 p1 hy1) ?_
  refine J_istore_n (pc := 6) (L' := [some (.ref 0), some (.int p0), some (.int p1), some (.int y1.1)]) dX6_lets_6 rfl (Nat.le_of_ble_eq_true rfl) rfl ?_
  refine J_iload_n (pc := 7) dX6_lets_7 rfl ?_
  refine J_if_ge (pc := 8) 19 dX6_lets_8 (by decide) (fun c6 => ?_) (fun c6 => ?_)
  · replace hh := (if_pos c6).symm.trans hh
    refine J_aload_n (pc := 19) dX6_lets_19 rfl ?_
    obtain ⟨y2, hy2, hh⟩ := bd_some hh
    refine J_callV0 (pc := 20) (M' := MX6_begin) (a := 0) (rest := []) (As := []) (L0 := [some (.ref 0)]) okX6_begin ovX6_begin mlX6_92 clX6 so0 rfl rfl (Nat.le_of_ble_eq_true rfl) dX6_lets_20 rfl (Nat.le_of_ble_eq_true rfl) (jX6_begin (X := X) (d + 2) y1.2 hy2) ?_
    refine J_aload_n (pc := 23) dX6_lets_23 rfl ?_
    refine J_getR (pc := 24) (k := 2) flX6_26 so0 fk0_2 dX6_lets_24 ?_
    refine J_aload_n (pc := 27) dX6_lets_27 rfl ?_
    refine J_getR (pc := 28) (k := 0) flX6_10 so0 fk0_0 dX6_lets_28 ?_
    refine J_iload_n (pc := 31) dX6_lets_31 rfl ?_
    obtain ⟨y3, hy3, hh⟩ := bd_some hh
    refine J_callV0 (pc := 32) (M' := MX3_becomesSo) (a := 5) (rest := []) (As := [.ref 1, .int p1]) (L0 := [some (.ref 5), some (.ref 1), some (.int p1), none]) okX3_becomesSo ovX3_becomesSo mlX6_202 clX3 so5 rfl rfl (Nat.le_of_ble_eq_true rfl) dX6_lets_32 rfl (Nat.le_of_ble_eq_true rfl) (jX3_becomesSo (X := X) (d + 4) y2 p1 hy3) ?_
    refine J_aload_n (pc := 35) dX6_lets_35 rfl ?_
    refine J_getR (pc := 36) (k := 0) flX6_10 so0 fk0_0 dX6_lets_36 ?_
    refine J_iload_n (pc := 39) dX6_lets_39 rfl ?_
    refine J_iload_n (pc := 40) dX6_lets_40 rfl ?_
    obtain ⟨y4, hy4, hh⟩ := bd_some hh
    refine J_callVi (pc := 41) (M' := MX0_sits) (a := 1) (rest := []) (As := [.int p0, .int p1]) (L0 := [some (.ref 1), some (.int p0), some (.int p1)]) okX0_sits ovX0_sits mlX6_154 clX0 so1 rfl rfl (Nat.le_of_ble_eq_true rfl) dX6_lets_41 rfl (Nat.le_of_ble_eq_true rfl) (jX0_sits (X := X) (d + 5) y3 p0 p1 hy4) ?_
    obtain rfl := Option.some.inj hh
    obtain ⟨rfl, rfl⟩ := hk
    exact J_ret (w := some (.int y4)) ⟨dX6_lets_44, _, rfl, rfl⟩
  · replace hh := (if_neg c6).symm.trans hh
    refine J_aload_n (pc := 11) dX6_lets_11 rfl ?_
    refine J_iconst (pc := 12) dX6_lets_12 ci_m1 ?_
    refine J_iload_n (pc := 13) dX6_lets_13 rfl ?_
    refine J_isub (pc := 14) dX6_lets_14 ?_
    obtain ⟨y5, hy5, hh⟩ := bd_some hh
    refine J_callVi (pc := 15) (M' := MX6_finding) (a := 0) (rest := []) (As := [.int ((-1 : Int32) - y1.1)]) (L0 := [some (.ref 0), some (.int ((-1 : Int32) - y1.1))]) okX6_finding ovX6_finding mlX6_68 clX6 so0 rfl rfl (Nat.le_of_ble_eq_true rfl) dX6_lets_15 rfl (Nat.le_of_ble_eq_true rfl) (jX6_finding (X := X) (d + 4) y1.2 ((-1 : Int32) - y1.1) hy5) ?_
    obtain rfl := Option.some.inj hh
    obtain ⟨rfl, rfl⟩ := hk
    exact J_ret (w := some (.int y5.1)) ⟨dX6_lets_18, _, rfl, rfl⟩
theorem jX6_lets {X : Scr} (d : Nat) (s : Mem) (p0 : Int32) (p1 : Int32) {r : (Int32 × Mem)} (hh : fX6_lets s p0 p1 = some r) : J X MX6_lets (d + 6) 0 [some (.ref 0), some (.int p0), some (.int p1), none] [] s (some (.int r.1)) r.2 := jjX6_lets d s p0 p1 hh ⟨rfl, rfl⟩
theorem dX6_longFinding_0 : decode cX6_longFinding 0 = .ok (.aload_n 0, 1) := by decide +kernel
theorem dX6_longFinding_1 : decode cX6_longFinding 1 = .ok (.iload_n 1, 1) := by decide +kernel
theorem dX6_longFinding_2 : decode cX6_longFinding 2 = .ok (.invokevirtual 68, 3) := by decide +kernel
theorem dX6_longFinding_5 : decode cX6_longFinding 5 = .ok (.pop, 1) := by decide +kernel
theorem dX6_longFinding_6 : decode cX6_longFinding 6 = .ok (.ldc2_w 304, 3) := by decide +kernel
theorem dX6_longFinding_9 : decode cX6_longFinding 9 = .ok (.iload_n 1, 1) := by decide +kernel
theorem dX6_longFinding_10 : decode cX6_longFinding 10 = .ok (.i2l, 1) := by decide +kernel
theorem dX6_longFinding_11 : decode cX6_longFinding 11 = .ok (.lsub, 1) := by decide +kernel
theorem dX6_longFinding_12 : decode cX6_longFinding 12 = .ok (.lreturn, 1) := by decide +kernel
def fX6_longFinding (s : Mem) (p0 : Int32) : Option (Int64 × Mem) :=
  (fX6_finding s p0).bind (fun y1 => some (((-1000000000000000001 : Int64) - (p0.toInt64), y1.2)))
set_option maxRecDepth 4000 in
theorem jjX6_longFinding {X : Scr} (d : Nat) (s : Mem) (p0 : Int32) {r : (Int64 × Mem)} {w : Option Value} {s' : Mem} (hh : fX6_longFinding s p0 = some r) (hk : w = some (.long r.1) ∧ r.2 = s') : J X MX6_longFinding (d + 2) 0 [some (.ref 0), some (.int p0)] [] s w s' := by
  unfold fX6_longFinding at hh
  refine J_aload_n (pc := 0) dX6_longFinding_0 rfl ?_
  refine J_iload_n (pc := 1) dX6_longFinding_1 rfl ?_
  obtain ⟨y1, hy1, hh⟩ := bd_some hh
  refine J_callVi (pc := 2) (M' := MX6_finding) (a := 0) (rest := []) (As := [.int p0]) (L0 := [some (.ref 0), some (.int p0)]) okX6_finding ovX6_finding mlX6_68 clX6 so0 rfl rfl (Nat.le_of_ble_eq_true rfl) dX6_longFinding_2 rfl (Nat.le_of_ble_eq_true rfl) (jX6_finding (X := X) d s p0 hy1) ?_
  refine J_pop (pc := 5) dX6_longFinding_5 rfl ?_
  refine J_ldc2 (pc := 6) klX6_304 dX6_longFinding_6 ?_
  refine J_iload_n (pc := 9) dX6_longFinding_9 rfl ?_
  refine J_i2l (pc := 10) dX6_longFinding_10 ?_
  refine J_lsub (pc := 11) dX6_longFinding_11 ?_
  obtain rfl := Option.some.inj hh
  obtain ⟨rfl, rfl⟩ := hk
  exact J_ret (w := some (.long ((-1000000000000000001 : Int64) - (p0.toInt64)))) ⟨dX6_longFinding_12, rfl⟩
theorem jX6_longFinding {X : Scr} (d : Nat) (s : Mem) (p0 : Int32) {r : (Int64 × Mem)} (hh : fX6_longFinding s p0 = some r) : J X MX6_longFinding (d + 2) 0 [some (.ref 0), some (.int p0)] [] s (some (.long r.1)) r.2 := jjX6_longFinding d s p0 hh ⟨rfl, rfl⟩
theorem dX6_ways_0 : decode cX6_ways 0 = .ok (.iload_n 1, 1) := by decide +kernel
theorem dX6_ways_1 : decode cX6_ways 1 = .ok (.invokestatic 108, 3) := by decide +kernel
theorem dX6_ways_4 : decode cX6_ways 4 = .ok (.ifCond .ne 9, 3) := by decide +kernel
theorem dX6_ways_7 : decode cX6_ways 7 = .ok (.aload_n 0, 1) := by decide +kernel
theorem dX6_ways_8 : decode cX6_ways 8 = .ok (.iconst 0, 1) := by decide +kernel
theorem dX6_ways_9 : decode cX6_ways 9 = .ok (.invokevirtual 211, 3) := by decide +kernel
theorem dX6_ways_12 : decode cX6_ways 12 = .ok (.lreturn, 1) := by decide +kernel
theorem dX6_ways_13 : decode cX6_ways 13 = .ok (.aload_n 0, 1) := by decide +kernel
theorem dX6_ways_14 : decode cX6_ways 14 = .ok (.getfield 26, 3) := by decide +kernel
theorem dX6_ways_17 : decode cX6_ways 17 = .ok (.aload_n 0, 1) := by decide +kernel
theorem dX6_ways_18 : decode cX6_ways 18 = .ok (.getfield 10, 3) := by decide +kernel
theorem dX6_ways_21 : decode cX6_ways 21 = .ok (.iload_n 1, 1) := by decide +kernel
theorem dX6_ways_22 : decode cX6_ways 22 = .ok (.invokevirtual 192, 3) := by decide +kernel
theorem dX6_ways_25 : decode cX6_ways 25 = .ok (.aload_n 0, 1) := by decide +kernel
theorem dX6_ways_26 : decode cX6_ways 26 = .ok (.getfield 26, 3) := by decide +kernel
theorem dX6_ways_29 : decode cX6_ways 29 = .ok (.invokevirtual 215, 3) := by decide +kernel
theorem dX6_ways_32 : decode cX6_ways 32 = .ok (.i2l, 1) := by decide +kernel
theorem dX6_ways_33 : decode cX6_ways 33 = .ok (.lreturn, 1) := by decide +kernel
def fX6_ways (s : Mem) (p0 : Int32) : Option (Int64 × Mem) :=
  (fX6_isCourse p0).bind (fun y1 => if y1 = (0 : Int32) then (fX6_longFinding s (0 : Int32)).bind (fun y4 => some ((y4.1, y4.2))) else (fX3_prepare s p0).bind (fun y2 => (fX3_howMany y2).bind (fun y3 => some ((y3.1.toInt64, y3.2)))))
set_option maxRecDepth 4000 in
theorem jjX6_ways {X : Scr} (d : Nat) (s : Mem) (p0 : Int32) {r : (Int64 × Mem)} {w : Option Value} {s' : Mem} (hh : fX6_ways s p0 = some r) (hk : w = some (.long r.1) ∧ r.2 = s') : J X MX6_ways (d + 5) 0 [some (.ref 0), some (.int p0)] [] s w s' := by
  unfold fX6_ways at hh
  refine J_iload_n (pc := 0) dX6_ways_0 rfl ?_
  obtain ⟨y1, hy1, hh⟩ := bd_some hh
  refine J_callSi (pc := 1) (M' := MX6_isCourse) (rest := []) (As := [.int p0]) (L0 := [some (.int p0)]) okX6_isCourse osX6_isCourse mlX6_108 rfl rfl (Nat.le_of_ble_eq_true rfl) dX6_ways_1 rfl (Nat.le_of_ble_eq_true rfl) (jX6_isCourse (X := X) (d + 3) s p0 hy1) ?_
  refine J_if_ne (pc := 4) 13 dX6_ways_4 (by decide) (fun c5 => ?_) (fun c5 => ?_)
  · replace hh := (if_neg c5).symm.trans hh
    refine J_aload_n (pc := 13) dX6_ways_13 rfl ?_
    refine J_getR (pc := 14) (k := 2) flX6_26 so0 fk0_2 dX6_ways_14 ?_
    refine J_aload_n (pc := 17) dX6_ways_17 rfl ?_
    refine J_getR (pc := 18) (k := 0) flX6_10 so0 fk0_0 dX6_ways_18 ?_
    refine J_iload_n (pc := 21) dX6_ways_21 rfl ?_
    obtain ⟨y2, hy2, hh⟩ := bd_some hh
    refine J_callV0 (pc := 22) (M' := MX3_prepare) (a := 5) (rest := []) (As := [.ref 1, .int p0]) (L0 := [some (.ref 5), some (.ref 1), some (.int p0), none, none, none]) okX3_prepare ovX3_prepare mlX6_192 clX3 so5 rfl rfl (Nat.le_of_ble_eq_true rfl) dX6_ways_22 rfl (Nat.le_of_ble_eq_true rfl) (jX3_prepare (X := X) (d + 1) s p0 hy2) ?_
    refine J_aload_n (pc := 25) dX6_ways_25 rfl ?_
    refine J_getR (pc := 26) (k := 2) flX6_26 so0 fk0_2 dX6_ways_26 ?_
    obtain ⟨y3, hy3, hh⟩ := bd_some hh
    refine J_callVi (pc := 29) (M' := MX3_howMany) (a := 5) (rest := []) (As := []) (L0 := [some (.ref 5), none]) okX3_howMany ovX3_howMany mlX6_215 clX3 so5 rfl rfl (Nat.le_of_ble_eq_true rfl) dX6_ways_29 rfl (Nat.le_of_ble_eq_true rfl) (jX3_howMany (X := X) d y2 hy3) ?_
    refine J_i2l (pc := 32) dX6_ways_32 ?_
    obtain rfl := Option.some.inj hh
    obtain ⟨rfl, rfl⟩ := hk
    exact J_ret (w := some (.long (y3.1.toInt64))) ⟨dX6_ways_33, rfl⟩
  · replace hh := (if_pos c5).symm.trans hh
    refine J_aload_n (pc := 7) dX6_ways_7 rfl ?_
    refine J_iconst (pc := 8) dX6_ways_8 ci_0 ?_
    obtain ⟨y4, hy4, hh⟩ := bd_some hh
    refine J_callVi (pc := 9) (M' := MX6_longFinding) (a := 0) (rest := []) (As := [.int (0 : Int32)]) (L0 := [some (.ref 0), some (.int (0 : Int32))]) okX6_longFinding ovX6_longFinding mlX6_211 clX6 so0 rfl rfl (Nat.le_of_ble_eq_true rfl) dX6_ways_9 rfl (Nat.le_of_ble_eq_true rfl) (jX6_longFinding (X := X) (d + 2) s (0 : Int32) hy4) ?_
    obtain rfl := Option.some.inj hh
    obtain ⟨rfl, rfl⟩ := hk
    exact J_ret (w := some (.long y4.1)) ⟨dX6_ways_12, rfl⟩
theorem jX6_ways {X : Scr} (d : Nat) (s : Mem) (p0 : Int32) {r : (Int64 × Mem)} (hh : fX6_ways s p0 = some r) : J X MX6_ways (d + 5) 0 [some (.ref 0), some (.int p0)] [] s (some (.long r.1)) r.2 := jjX6_ways d s p0 hh ⟨rfl, rfl⟩
theorem dX6_orders_0 : decode cX6_orders 0 = .ok (.aload_n 0, 1) := by decide +kernel
theorem dX6_orders_1 : decode cX6_orders 1 = .ok (.getfield 40, 3) := by decide +kernel
theorem dX6_orders_4 : decode cX6_orders 4 = .ok (.iload_n 1, 1) := by decide +kernel
theorem dX6_orders_5 : decode cX6_orders 5 = .ok (.invokevirtual 218, 3) := by decide +kernel
theorem dX6_orders_8 : decode cX6_orders 8 = .ok (.ifCond .ne 9, 3) := by decide +kernel
theorem dX6_orders_11 : decode cX6_orders 11 = .ok (.aload_n 0, 1) := by decide +kernel
theorem dX6_orders_12 : decode cX6_orders 12 = .ok (.iconst 0, 1) := by decide +kernel
theorem dX6_orders_13 : decode cX6_orders 13 = .ok (.invokevirtual 68, 3) := by decide +kernel
theorem dX6_orders_16 : decode cX6_orders 16 = .ok (.ireturn, 1) := by decide +kernel
theorem dX6_orders_17 : decode cX6_orders 17 = .ok (.aload_n 0, 1) := by decide +kernel
theorem dX6_orders_18 : decode cX6_orders 18 = .ok (.getfield 40, 3) := by decide +kernel
theorem dX6_orders_21 : decode cX6_orders 21 = .ok (.iload_n 1, 1) := by decide +kernel
theorem dX6_orders_22 : decode cX6_orders 22 = .ok (.invokevirtual 221, 3) := by decide +kernel
theorem dX6_orders_25 : decode cX6_orders 25 = .ok (.ifCond .eq 9, 3) := by decide +kernel
theorem dX6_orders_28 : decode cX6_orders 28 = .ok (.aload_n 0, 1) := by decide +kernel
theorem dX6_orders_29 : decode cX6_orders 29 = .ok (.iconst 5, 1) := by decide +kernel
theorem dX6_orders_30 : decode cX6_orders 30 = .ok (.invokevirtual 68, 3) := by decide +kernel
theorem dX6_orders_33 : decode cX6_orders 33 = .ok (.ireturn, 1) := by decide +kernel
theorem dX6_orders_34 : decode cX6_orders 34 = .ok (.aload_n 0, 1) := by decide +kernel
theorem dX6_orders_35 : decode cX6_orders 35 = .ok (.invokevirtual 92, 3) := by decide +kernel
theorem dX6_orders_38 : decode cX6_orders 38 = .ok (.iconst 0, 1) := by decide +kernel
theorem dX6_orders_39 : decode cX6_orders 39 = .ok (.istore_n 2, 1) := by decide +kernel
theorem dX6_orders_40 : decode cX6_orders 40 = .ok (.iconst 0, 1) := by decide +kernel
theorem dX6_orders_41 : decode cX6_orders 41 = .ok (.istore_n 3, 1) := by decide +kernel
theorem dX6_orders_42 : decode cX6_orders 42 = .ok (.iload_n 3, 1) := by decide +kernel
theorem dX6_orders_43 : decode cX6_orders 43 = .ok (.iconst 2, 1) := by decide +kernel
theorem dX6_orders_44 : decode cX6_orders 44 = .ok (.iadd, 1) := by decide +kernel
theorem dX6_orders_45 : decode cX6_orders 45 = .ok (.aload_n 0, 1) := by decide +kernel
theorem dX6_orders_46 : decode cX6_orders 46 = .ok (.getfield 40, 3) := by decide +kernel
theorem dX6_orders_49 : decode cX6_orders 49 = .ok (.iload_n 1, 1) := by decide +kernel
theorem dX6_orders_50 : decode cX6_orders 50 = .ok (.invokevirtual 224, 3) := by decide +kernel
theorem dX6_orders_53 : decode cX6_orders 53 = .ok (.if_icmp .ge 47, 3) := by decide +kernel
theorem dX6_orders_56 : decode cX6_orders 56 = .ok (.iload_n 2, 1) := by decide +kernel
theorem dX6_orders_57 : decode cX6_orders 57 = .ok (.aload_n 0, 1) := by decide +kernel
theorem dX6_orders_58 : decode cX6_orders 58 = .ok (.aload_n 0, 1) := by decide +kernel
theorem dX6_orders_59 : decode cX6_orders 59 = .ok (.getfield 40, 3) := by decide +kernel
theorem dX6_orders_62 : decode cX6_orders 62 = .ok (.iload_n 1, 1) := by decide +kernel
theorem dX6_orders_63 : decode cX6_orders 63 = .ok (.iload_n 3, 1) := by decide +kernel
theorem dX6_orders_64 : decode cX6_orders 64 = .ok (.invokevirtual 227, 3) := by decide +kernel
theorem dX6_orders_67 : decode cX6_orders 67 = .ok (.aload_n 0, 1) := by decide +kernel
theorem dX6_orders_68 : decode cX6_orders 68 = .ok (.getfield 40, 3) := by decide +kernel
theorem dX6_orders_71 : decode cX6_orders 71 = .ok (.iload_n 1, 1) := by decide +kernel
theorem dX6_orders_72 : decode cX6_orders 72 = .ok (.iload_n 3, 1) := by decide +kernel
theorem dX6_orders_73 : decode cX6_orders 73 = .ok (.iconst 1, 1) := by decide +kernel
theorem dX6_orders_74 : decode cX6_orders 74 = .ok (.iadd, 1) := by decide +kernel
theorem dX6_orders_75 : decode cX6_orders 75 = .ok (.invokevirtual 227, 3) := by decide +kernel
theorem dX6_orders_78 : decode cX6_orders 78 = .ok (.aload_n 0, 1) := by decide +kernel
theorem dX6_orders_79 : decode cX6_orders 79 = .ok (.getfield 40, 3) := by decide +kernel
theorem dX6_orders_82 : decode cX6_orders 82 = .ok (.iload_n 1, 1) := by decide +kernel
theorem dX6_orders_83 : decode cX6_orders 83 = .ok (.iload_n 3, 1) := by decide +kernel
theorem dX6_orders_84 : decode cX6_orders 84 = .ok (.iconst 2, 1) := by decide +kernel
theorem dX6_orders_85 : decode cX6_orders 85 = .ok (.iadd, 1) := by decide +kernel
theorem dX6_orders_86 : decode cX6_orders 86 = .ok (.invokevirtual 227, 3) := by decide +kernel
theorem dX6_orders_89 : decode cX6_orders 89 = .ok (.invokevirtual 188, 3) := by decide +kernel
theorem dX6_orders_92 : decode cX6_orders 92 = .ok (.iadd, 1) := by decide +kernel
theorem dX6_orders_93 : decode cX6_orders 93 = .ok (.istore_n 2, 1) := by decide +kernel
theorem dX6_orders_94 : decode cX6_orders 94 = .ok (.iinc 3 3, 3) := by decide +kernel
theorem dX6_orders_97 : decode cX6_orders 97 = .ok (.goto (-55), 3) := by decide +kernel
theorem dX6_orders_100 : decode cX6_orders 100 = .ok (.iload_n 2, 1) := by decide +kernel
theorem dX6_orders_101 : decode cX6_orders 101 = .ok (.ireturn, 1) := by decide +kernel
def bX6_orders_42 (s : Mem) (v1 : Int32) (v2 : Int32) (v3 : Int32) : Option ((Int32 × Mem) ⊕ (Int32 × Int32 × Mem)) :=
  (fX4_length s v1).bind (fun y4 => if y4 ≤ (v3 + (2 : Int32)) then some (Sum.inl (v2, s)) else (fX4_at s v1 v3).bind (fun y5 => (fX4_at s v1 (v3 + (1 : Int32))).bind (fun y6 => (fX4_at s v1 (v3 + (2 : Int32))).bind (fun y7 => (fX6_carriedOut s y5 y6 y7).bind (fun y8 => lt (v2 + y8.1) (fun x9 => lt (v3 + (3 : Int32)) (fun x10 => some (Sum.inr (x9, x10, y8.2)))))))))
set_option maxRecDepth 4000 in
theorem jbX6_orders_42 {X : Scr} (d : Nat) (s : Mem) (v1 : Int32) (v2 : Int32) (v3 : Int32) {r : ((Int32 × Mem) ⊕ (Int32 × Int32 × Mem))} {w : Option Value} {s' : Mem} (hh : bX6_orders_42 s v1 v2 v3 = some r) (hk : Sum.elim (fun t : (Int32 × Mem) => J X MX6_orders (d + 6) 100 [none, none, some (.int t.1), none] [] t.2 w s') (fun a : (Int32 × Int32 × Mem) => J X MX6_orders (d + 6) 42 [some (.ref 0), some (.int v1), some (.int a.1), some (.int a.2.1)] [] a.2.2 w s') r) : J X MX6_orders (d + 6) 42 [some (.ref 0), some (.int v1), some (.int v2), some (.int v3)] [] s w s' := by
  unfold bX6_orders_42 at hh
  refine J_iload_n (pc := 42) dX6_orders_42 rfl ?_
  refine J_iconst (pc := 43) dX6_orders_43 ci_2 ?_
  refine J_iadd (pc := 44) dX6_orders_44 ?_
  refine J_aload_n (pc := 45) dX6_orders_45 rfl ?_
  refine J_getR (pc := 46) (k := 4) flX6_40 so0 fk0_4 dX6_orders_46 ?_
  refine J_iload_n (pc := 49) dX6_orders_49 rfl ?_
  obtain ⟨y4, hy4, hh⟩ := bd_some hh
  refine J_callVi (pc := 50) (M' := MX4_length) (a := 14) (rest := [.int (v3 + (2 : Int32))]) (As := [.int v1]) (L0 := [some (.ref 14), some (.int v1)]) okX4_length ovX4_length mlX6_224 clX4 so14 rfl rfl (Nat.le_of_ble_eq_true rfl) dX6_orders_50 rfl (Nat.le_of_ble_eq_true rfl) (jX4_length (X := X) (d + 5) s v1 hy4) ?_
  refine J_icmp_ge (pc := 53) 100 dX6_orders_53 (by decide) (fun c11 => ?_) (fun c11 => ?_)
  · replace hh := (if_pos c11).symm.trans hh
    refine J_drop 0 (L' := [none, some (.int v1), some (.int v2), some (.int v3)]) rfl ?_
    refine J_drop 1 (L' := [none, none, some (.int v2), some (.int v3)]) rfl ?_
    refine J_drop 3 (L' := [none, none, some (.int v2), none]) rfl ?_
    obtain rfl := Option.some.inj hh
    exact hk
  · replace hh := (if_neg c11).symm.trans hh
    refine J_iload_n (pc := 56) dX6_orders_56 rfl ?_
    refine J_aload_n (pc := 57) dX6_orders_57 rfl ?_
    refine J_aload_n (pc := 58) dX6_orders_58 rfl ?_
    refine J_getR (pc := 59) (k := 4) flX6_40 so0 fk0_4 dX6_orders_59 ?_
    refine J_iload_n (pc := 62) dX6_orders_62 rfl ?_
    refine J_iload_n (pc := 63) dX6_orders_63 rfl ?_
    obtain ⟨y5, hy5, hh⟩ := bd_some hh
    refine J_callVi (pc := 64) (M' := MX4_at) (a := 14) (rest := [.ref 0, .int v2]) (As := [.int v1, .int v3]) (L0 := [some (.ref 14), some (.int v1), some (.int v3)]) okX4_at ovX4_at mlX6_227 clX4 so14 rfl rfl (Nat.le_of_ble_eq_true rfl) dX6_orders_64 rfl (Nat.le_of_ble_eq_true rfl) (jX4_at (X := X) (d + 5) s v1 v3 hy5) ?_
    refine J_aload_n (pc := 67) dX6_orders_67 rfl ?_
    refine J_getR (pc := 68) (k := 4) flX6_40 so0 fk0_4 dX6_orders_68 ?_
    refine J_iload_n (pc := 71) dX6_orders_71 rfl ?_
    refine J_iload_n (pc := 72) dX6_orders_72 rfl ?_
    refine J_iconst (pc := 73) dX6_orders_73 ci_1 ?_
    refine J_iadd (pc := 74) dX6_orders_74 ?_
    obtain ⟨y6, hy6, hh⟩ := bd_some hh
    refine J_callVi (pc := 75) (M' := MX4_at) (a := 14) (rest := [.long y5, .ref 0, .int v2]) (As := [.int v1, .int (v3 + (1 : Int32))]) (L0 := [some (.ref 14), some (.int v1), some (.int (v3 + (1 : Int32)))]) okX4_at ovX4_at mlX6_227 clX4 so14 rfl rfl (Nat.le_of_ble_eq_true rfl) dX6_orders_75 rfl (Nat.le_of_ble_eq_true rfl) (jX4_at (X := X) (d + 5) s v1 (v3 + (1 : Int32)) hy6) ?_
    refine J_aload_n (pc := 78) dX6_orders_78 rfl ?_
    refine J_getR (pc := 79) (k := 4) flX6_40 so0 fk0_4 dX6_orders_79 ?_
    refine J_iload_n (pc := 82) dX6_orders_82 rfl ?_
    refine J_iload_n (pc := 83) dX6_orders_83 rfl ?_
    refine J_iconst (pc := 84) dX6_orders_84 ci_2 ?_
    refine J_iadd (pc := 85) dX6_orders_85 ?_
    obtain ⟨y7, hy7, hh⟩ := bd_some hh
    refine J_callVi (pc := 86) (M' := MX4_at) (a := 14) (rest := [.long y6, .long y5, .ref 0, .int v2]) (As := [.int v1, .int (v3 + (2 : Int32))]) (L0 := [some (.ref 14), some (.int v1), some (.int (v3 + (2 : Int32)))]) okX4_at ovX4_at mlX6_227 clX4 so14 rfl rfl (Nat.le_of_ble_eq_true rfl) dX6_orders_86 rfl (Nat.le_of_ble_eq_true rfl) (jX4_at (X := X) (d + 5) s v1 (v3 + (2 : Int32)) hy7) ?_
    obtain ⟨y8, hy8, hh⟩ := bd_some hh
    refine J_callVi (pc := 89) (M' := MX6_carriedOut) (a := 0) (rest := [.int v2]) (As := [.long y5, .long y6, .long y7]) (L0 := [some (.ref 0), some (.long y5), none, some (.long y6), none, some (.long y7), none, none]) okX6_carriedOut ovX6_carriedOut mlX6_188 clX6 so0 rfl rfl (Nat.le_of_ble_eq_true rfl) dX6_orders_89 rfl (Nat.le_of_ble_eq_true rfl) (jX6_carriedOut (X := X) d s y5 y6 y7 hy8) ?_
    refine J_iadd (pc := 92) dX6_orders_92 ?_
    refine J_istoreL_n (pc := 93) (fun x9 => [some (.ref 0), some (.int v1), some (.int x9), some (.int v3)]) dX6_orders_93 rfl (Nat.le_of_ble_eq_true rfl) (fun _ => rfl) hh (fun x9 hh => ?_)
    refine J_iincL (pc := 94) (v := v3 + (3 : Int32)) (fun x10 => [some (.ref 0), some (.int v1), some (.int x9), some (.int x10)]) dX6_orders_94 rfl rfl (Nat.le_of_ble_eq_true rfl) (congrArg _ ci_3) (fun _ => rfl) hh (fun x10 hh => ?_)
    refine J_goto (pc := 97) 42 dX6_orders_97 (by decide) ?_
    obtain rfl := Option.some.inj hh
    exact hk
def fX6_orders (s : Mem) (p0 : Int32) : Option (Int32 × Mem) :=
  (fX4_isOne s p0).bind (fun y1 => if y1 = (0 : Int32) then (fX6_finding s (0 : Int32)).bind (fun y15 => some ((y15.1, y15.2))) else (fX4_isMissing s p0).bind (fun y2 => if y2 = (0 : Int32) then (fX6_begin s).bind (fun y3 => (lp (fun a => bX6_orders_42 a.2.2 p0 a.1 a.2.1) 600 ((0 : Int32), (0 : Int32), y3)).bind (fun y12 => some ((y12.1, y12.2)))) else (fX6_finding s (5 : Int32)).bind (fun y13 => some ((y13.1, y13.2)))))
set_option maxRecDepth 4000 in
theorem jjX6_orders {X : Scr} (d : Nat) (s : Mem) (p0 : Int32) {r : (Int32 × Mem)} {w : Option Value} {s' : Mem} (hh : fX6_orders s p0 = some r) (hk : w = some (.int r.1) ∧ r.2 = s') : J X MX6_orders (d + 6) 0 [some (.ref 0), some (.int p0), none, none] [] s w s' := by
  unfold fX6_orders at hh
  refine J_aload_n (pc := 0) dX6_orders_0 rfl ?_
  refine J_getR (pc := 1) (k := 4) flX6_40 so0 fk0_4 dX6_orders_1 ?_
  refine J_iload_n (pc := 4) dX6_orders_4 rfl ?_
  obtain ⟨y1, hy1, hh⟩ := bd_some hh
  refine J_callVi (pc := 5) (M' := MX4_isOne) (a := 14) (rest := []) (As := [.int p0]) (L0 := [some (.ref 14), some (.int p0)]) okX4_isOne ovX4_isOne mlX6_218 clX4 so14 rfl rfl (Nat.le_of_ble_eq_true rfl) dX6_orders_5 rfl (Nat.le_of_ble_eq_true rfl) (jX4_isOne (X := X) (d + 5) s p0 hy1) ?_
  refine J_if_ne (pc := 8) 17 dX6_orders_8 (by decide) (fun c16 => ?_) (fun c16 => ?_)
  · replace hh := (if_neg c16).symm.trans hh
    refine J_aload_n (pc := 17) dX6_orders_17 rfl ?_
    refine J_getR (pc := 18) (k := 4) flX6_40 so0 fk0_4 dX6_orders_18 ?_
    refine J_iload_n (pc := 21) dX6_orders_21 rfl ?_
    obtain ⟨y2, hy2, hh⟩ := bd_some hh
    refine J_callVi (pc := 22) (M' := MX4_isMissing) (a := 14) (rest := []) (As := [.int p0]) (L0 := [some (.ref 14), some (.int p0)]) okX4_isMissing ovX4_isMissing mlX6_221 clX4 so14 rfl rfl (Nat.le_of_ble_eq_true rfl) dX6_orders_22 rfl (Nat.le_of_ble_eq_true rfl) (jX4_isMissing (X := X) (d + 5) s p0 hy2) ?_
    refine J_if_eq (pc := 25) 34 dX6_orders_25 (by decide) (fun c14 => ?_) (fun c14 => ?_)
    · replace hh := (if_pos c14).symm.trans hh
      refine J_aload_n (pc := 34) dX6_orders_34 rfl ?_
      obtain ⟨y3, hy3, hh⟩ := bd_some hh
      refine J_callV0 (pc := 35) (M' := MX6_begin) (a := 0) (rest := []) (As := []) (L0 := [some (.ref 0)]) okX6_begin ovX6_begin mlX6_92 clX6 so0 rfl rfl (Nat.le_of_ble_eq_true rfl) dX6_orders_35 rfl (Nat.le_of_ble_eq_true rfl) (jX6_begin (X := X) (d + 2) s hy3) ?_
      refine J_iconst (pc := 38) dX6_orders_38 ci_0 ?_
      refine J_istore_n (pc := 39) (L' := [some (.ref 0), some (.int p0), some (.int (0 : Int32)), none]) dX6_orders_39 rfl (Nat.le_of_ble_eq_true rfl) rfl ?_
      refine J_iconst (pc := 40) dX6_orders_40 ci_0 ?_
      refine J_istore_n (pc := 41) (L' := [some (.ref 0), some (.int p0), some (.int (0 : Int32)), some (.int (0 : Int32))]) dX6_orders_41 rfl (Nat.le_of_ble_eq_true rfl) rfl ?_
      obtain ⟨y12, hy12, hh⟩ := bd_some hh
      refine J_lp (a := ((0 : Int32), (0 : Int32), y3)) (fun a : (Int32 × Int32 × Mem) => J X MX6_orders (d + 6) 42 [some (.ref 0), some (.int p0), some (.int a.1), some (.int a.2.1)] [] a.2.2 w s') (fun t : (Int32 × Mem) => J X MX6_orders (d + 6) 100 [none, none, some (.int t.1), none] [] t.2 w s') (fun a q h1 h2 => jbX6_orders_42 d a.2.2 p0 a.1 a.2.1 h1 h2) hy12 ?_
      refine J_iload_n (pc := 100) dX6_orders_100 rfl ?_
      obtain rfl := Option.some.inj hh
      obtain ⟨rfl, rfl⟩ := hk
      exact J_ret (w := some (.int y12.1)) ⟨dX6_orders_101, _, rfl, rfl⟩
    · replace hh := (if_neg c14).symm.trans hh
      refine J_aload_n (pc := 28) dX6_orders_28 rfl ?_
      refine J_iconst (pc := 29) dX6_orders_29 ci_5 ?_
      obtain ⟨y13, hy13, hh⟩ := bd_some hh
      refine J_callVi (pc := 30) (M' := MX6_finding) (a := 0) (rest := []) (As := [.int (5 : Int32)]) (L0 := [some (.ref 0), some (.int (5 : Int32))]) okX6_finding ovX6_finding mlX6_68 clX6 so0 rfl rfl (Nat.le_of_ble_eq_true rfl) dX6_orders_30 rfl (Nat.le_of_ble_eq_true rfl) (jX6_finding (X := X) (d + 4) s (5 : Int32) hy13) ?_
      obtain rfl := Option.some.inj hh
      obtain ⟨rfl, rfl⟩ := hk
      exact J_ret (w := some (.int y13.1)) ⟨dX6_orders_33, _, rfl, rfl⟩
  · replace hh := (if_pos c16).symm.trans hh
    refine J_aload_n (pc := 11) dX6_orders_11 rfl ?_
    refine J_iconst (pc := 12) dX6_orders_12 ci_0 ?_
    obtain ⟨y15, hy15, hh⟩ := bd_some hh
    refine J_callVi (pc := 13) (M' := MX6_finding) (a := 0) (rest := []) (As := [.int (0 : Int32)]) (L0 := [some (.ref 0), some (.int (0 : Int32))]) okX6_finding ovX6_finding mlX6_68 clX6 so0 rfl rfl (Nat.le_of_ble_eq_true rfl) dX6_orders_13 rfl (Nat.le_of_ble_eq_true rfl) (jX6_finding (X := X) (d + 4) s (0 : Int32) hy15) ?_
    obtain rfl := Option.some.inj hh
    obtain ⟨rfl, rfl⟩ := hk
    exact J_ret (w := some (.int y15.1)) ⟨dX6_orders_16, _, rfl, rfl⟩
theorem jX6_orders {X : Scr} (d : Nat) (s : Mem) (p0 : Int32) {r : (Int32 × Mem)} (hh : fX6_orders s p0 = some r) : J X MX6_orders (d + 6) 0 [some (.ref 0), some (.int p0), none, none] [] s (some (.int r.1)) r.2 := jjX6_orders d s p0 hh ⟨rfl, rfl⟩
theorem dX6_draw_0 : decode cX6_draw 0 = .ok (.aload_n 0, 1) := by decide +kernel
theorem dX6_draw_1 : decode cX6_draw 1 = .ok (.aload_n 0, 1) := by decide +kernel
theorem dX6_draw_2 : decode cX6_draw 2 = .ok (.getfield 48, 3) := by decide +kernel
theorem dX6_draw_5 : decode cX6_draw 5 = .ok (.ldc_w 356, 3) := by decide +kernel
theorem dX6_draw_8 : decode cX6_draw 8 = .ok (.imul, 1) := by decide +kernel
theorem dX6_draw_9 : decode cX6_draw 9 = .ok (.sipush 12345, 3) := by decide +kernel
theorem dX6_draw_12 : decode cX6_draw 12 = .ok (.iadd, 1) := by decide +kernel
theorem dX6_draw_13 : decode cX6_draw 13 = .ok (.putfield 48, 3) := by decide +kernel
theorem dX6_draw_16 : decode cX6_draw 16 = .ok (.aload_n 0, 1) := by decide +kernel
theorem dX6_draw_17 : decode cX6_draw 17 = .ok (.getfield 48, 3) := by decide +kernel
theorem dX6_draw_20 : decode cX6_draw 20 = .ok (.bipush 8, 2) := by decide +kernel
theorem dX6_draw_22 : decode cX6_draw 22 = .ok (.iushr, 1) := by decide +kernel
theorem dX6_draw_23 : decode cX6_draw 23 = .ok (.ireturn, 1) := by decide +kernel
def fX6_draw (s : Mem)  : Option (Int32 × Mem) :=
  lt (up2 s 0 6 (((s.1 0 6) * (1103515245 : Int32)) + (12345 : Int32))) (fun s1 => some ((((s1.1 0 6).toUInt32 >>> ((8 : Int32).toUInt32 &&& Int32.toUInt32 31)).toInt32, s1)))
set_option maxRecDepth 4000 in
theorem jjX6_draw {X : Scr} (d : Nat) (s : Mem)  {r : (Int32 × Mem)} {w : Option Value} {s' : Mem} (hh : fX6_draw s = some r) (hk : w = some (.int r.1) ∧ r.2 = s') : J X MX6_draw (d + 0) 0 [some (.ref 0)] [] s w s' := by
  unfold fX6_draw at hh
  refine J_aload_n (pc := 0) dX6_draw_0 rfl ?_
  refine J_aload_n (pc := 1) dX6_draw_1 rfl ?_
  refine J_getI (pc := 2) (k := 6) flX6_48 so0 fk0_6 dX6_draw_2 ?_
  refine J_ldcw (pc := 5) kcX6_356 dX6_draw_5 ?_
  refine J_imul (pc := 8) dX6_draw_8 ?_
  refine J_sipush (pc := 9) dX6_draw_9 cs_12345 ?_
  refine J_iadd (pc := 12) dX6_draw_12 ?_
  refine J_putIL (pc := 13) (k := 6) fpX6_48 so0 fk0_6 rfl rfl dX6_draw_13 hh (fun s1 hh => ?_)
  refine J_aload_n (pc := 16) dX6_draw_16 rfl ?_
  refine J_getI (pc := 17) (k := 6) flX6_48 so0 fk0_6 dX6_draw_17 ?_
  refine J_bipush (pc := 20) dX6_draw_20 cb_8 ?_
  refine J_iushr (pc := 22) dX6_draw_22 ?_
  obtain rfl := Option.some.inj hh
  obtain ⟨rfl, rfl⟩ := hk
  exact J_ret (w := some (.int (((s1.1 0 6).toUInt32 >>> ((8 : Int32).toUInt32 &&& Int32.toUInt32 31)).toInt32))) ⟨dX6_draw_23, _, rfl, rfl⟩
theorem jX6_draw {X : Scr} (d : Nat) (s : Mem)  {r : (Int32 × Mem)} (hh : fX6_draw s = some r) : J X MX6_draw (d + 0) 0 [some (.ref 0)] [] s (some (.int r.1)) r.2 := jjX6_draw d s hh ⟨rfl, rfl⟩
theorem dX6_loose_0 : decode cX6_loose 0 = .ok (.iload_n 1, 1) := by decide +kernel
theorem dX6_loose_1 : decode cX6_loose 1 = .ok (.i2l, 1) := by decide +kernel
theorem dX6_loose_2 : decode cX6_loose 2 = .ok (.lconst 1, 1) := by decide +kernel
theorem dX6_loose_3 : decode cX6_loose 3 = .ok (.ldc2_w 231, 3) := by decide +kernel
theorem dX6_loose_6 : decode cX6_loose 6 = .ok (.invokestatic 62, 3) := by decide +kernel
theorem dX6_loose_9 : decode cX6_loose 9 = .ok (.ifCond .ne 9, 3) := by decide +kernel
theorem dX6_loose_12 : decode cX6_loose 12 = .ok (.aload_n 0, 1) := by decide +kernel
theorem dX6_loose_13 : decode cX6_loose 13 = .ok (.iconst 0, 1) := by decide +kernel
theorem dX6_loose_14 : decode cX6_loose 14 = .ok (.invokevirtual 68, 3) := by decide +kernel
theorem dX6_loose_17 : decode cX6_loose 17 = .ok (.ireturn, 1) := by decide +kernel
theorem dX6_loose_18 : decode cX6_loose 18 = .ok (.aload_n 0, 1) := by decide +kernel
theorem dX6_loose_19 : decode cX6_loose 19 = .ok (.invokevirtual 92, 3) := by decide +kernel
theorem dX6_loose_22 : decode cX6_loose 22 = .ok (.iconst 0, 1) := by decide +kernel
theorem dX6_loose_23 : decode cX6_loose 23 = .ok (.istore_n 2, 1) := by decide +kernel
theorem dX6_loose_24 : decode cX6_loose 24 = .ok (.iconst 0, 1) := by decide +kernel
theorem dX6_loose_25 : decode cX6_loose 25 = .ok (.istore_n 3, 1) := by decide +kernel
theorem dX6_loose_26 : decode cX6_loose 26 = .ok (.iload_n 3, 1) := by decide +kernel
theorem dX6_loose_27 : decode cX6_loose 27 = .ok (.iload_n 1, 1) := by decide +kernel
theorem dX6_loose_28 : decode cX6_loose 28 = .ok (.if_icmp .ge 50, 3) := by decide +kernel
theorem dX6_loose_31 : decode cX6_loose 31 = .ok (.aload_n 0, 1) := by decide +kernel
theorem dX6_loose_32 : decode cX6_loose 32 = .ok (.invokevirtual 233, 3) := by decide +kernel
theorem dX6_loose_35 : decode cX6_loose 35 = .ok (.bipush 6, 2) := by decide +kernel
theorem dX6_loose_37 : decode cX6_loose 37 = .ok (.irem, 1) := by decide +kernel
theorem dX6_loose_38 : decode cX6_loose 38 = .ok (.istore 4, 2) := by decide +kernel
theorem dX6_loose_40 : decode cX6_loose 40 = .ok (.aload_n 0, 1) := by decide +kernel
theorem dX6_loose_41 : decode cX6_loose 41 = .ok (.invokevirtual 233, 3) := by decide +kernel
theorem dX6_loose_44 : decode cX6_loose 44 = .ok (.iconst 4, 1) := by decide +kernel
theorem dX6_loose_45 : decode cX6_loose 45 = .ok (.irem, 1) := by decide +kernel
theorem dX6_loose_46 : decode cX6_loose 46 = .ok (.istore 5, 2) := by decide +kernel
theorem dX6_loose_48 : decode cX6_loose 48 = .ok (.aload_n 0, 1) := by decide +kernel
theorem dX6_loose_49 : decode cX6_loose 49 = .ok (.invokevirtual 233, 3) := by decide +kernel
theorem dX6_loose_52 : decode cX6_loose 52 = .ok (.iconst 5, 1) := by decide +kernel
theorem dX6_loose_53 : decode cX6_loose 53 = .ok (.irem, 1) := by decide +kernel
theorem dX6_loose_54 : decode cX6_loose 54 = .ok (.istore 6, 2) := by decide +kernel
theorem dX6_loose_56 : decode cX6_loose 56 = .ok (.iload_n 2, 1) := by decide +kernel
theorem dX6_loose_57 : decode cX6_loose 57 = .ok (.aload_n 0, 1) := by decide +kernel
theorem dX6_loose_58 : decode cX6_loose 58 = .ok (.iload 4, 2) := by decide +kernel
theorem dX6_loose_60 : decode cX6_loose 60 = .ok (.i2l, 1) := by decide +kernel
theorem dX6_loose_61 : decode cX6_loose 61 = .ok (.iload 5, 2) := by decide +kernel
theorem dX6_loose_63 : decode cX6_loose 63 = .ok (.i2l, 1) := by decide +kernel
theorem dX6_loose_64 : decode cX6_loose 64 = .ok (.iload 6, 2) := by decide +kernel
theorem dX6_loose_66 : decode cX6_loose 66 = .ok (.i2l, 1) := by decide +kernel
theorem dX6_loose_67 : decode cX6_loose 67 = .ok (.invokevirtual 188, 3) := by decide +kernel
theorem dX6_loose_70 : decode cX6_loose 70 = .ok (.iadd, 1) := by decide +kernel
theorem dX6_loose_71 : decode cX6_loose 71 = .ok (.istore_n 2, 1) := by decide +kernel
theorem dX6_loose_72 : decode cX6_loose 72 = .ok (.iinc 3 1, 3) := by decide +kernel
theorem dX6_loose_75 : decode cX6_loose 75 = .ok (.goto (-49), 3) := by decide +kernel
theorem dX6_loose_78 : decode cX6_loose 78 = .ok (.iload_n 2, 1) := by decide +kernel
theorem dX6_loose_79 : decode cX6_loose 79 = .ok (.ireturn, 1) := by decide +kernel
def bX6_loose_26 (s : Mem) (v1 : Int32) (v2 : Int32) (v3 : Int32) : Option ((Int32 × Mem) ⊕ (Int32 × Int32 × Mem)) :=
  if v1 ≤ v3 then some (Sum.inl (v2, s)) else (fX6_draw s).bind (fun y3 => lt (y3.1 - y3.1 / (6 : Int32) * (6 : Int32)) (fun x4 => (fX6_draw y3.2).bind (fun y5 => lt (y5.1 - y5.1 / (4 : Int32) * (4 : Int32)) (fun x6 => (fX6_draw y5.2).bind (fun y7 => lt (y7.1 - y7.1 / (5 : Int32) * (5 : Int32)) (fun x8 => (fX6_carriedOut y7.2 (x4.toInt64) (x6.toInt64) (x8.toInt64)).bind (fun y9 => lt (v2 + y9.1) (fun x10 => lt (v3 + (1 : Int32)) (fun x11 => some (Sum.inr (x10, x11, y9.2)))))))))))
set_option maxRecDepth 4000 in
theorem jbX6_loose_26 {X : Scr} (d : Nat) (s : Mem) (v1 : Int32) (v2 : Int32) (v3 : Int32) {r : ((Int32 × Mem) ⊕ (Int32 × Int32 × Mem))} {w : Option Value} {s' : Mem} (hh : bX6_loose_26 s v1 v2 v3 = some r) (hk : Sum.elim (fun t : (Int32 × Mem) => J X MX6_loose (d + 6) 78 [none, none, some (.int t.1), none, none, none, none] [] t.2 w s') (fun a : (Int32 × Int32 × Mem) => J X MX6_loose (d + 6) 26 [some (.ref 0), some (.int v1), some (.int a.1), some (.int a.2.1), none, none, none] [] a.2.2 w s') r) : J X MX6_loose (d + 6) 26 [some (.ref 0), some (.int v1), some (.int v2), some (.int v3), none, none, none] [] s w s' := by
  unfold bX6_loose_26 at hh
  refine J_iload_n (pc := 26) dX6_loose_26 rfl ?_
  refine J_iload_n (pc := 27) dX6_loose_27 rfl ?_
  refine J_icmp_ge (pc := 28) 78 dX6_loose_28 (by decide) (fun c12 => ?_) (fun c12 => ?_)
  · replace hh := (if_pos c12).symm.trans hh
    refine J_drop 0 (L' := [none, some (.int v1), some (.int v2), some (.int v3), none, none, none]) rfl ?_
    refine J_drop 1 (L' := [none, none, some (.int v2), some (.int v3), none, none, none]) rfl ?_
    refine J_drop 3 (L' := [none, none, some (.int v2), none, none, none, none]) rfl ?_
    obtain rfl := Option.some.inj hh
    exact hk
  · replace hh := (if_neg c12).symm.trans hh
    refine J_aload_n (pc := 31) dX6_loose_31 rfl ?_
    obtain ⟨y3, hy3, hh⟩ := bd_some hh
    refine J_callVi (pc := 32) (M' := MX6_draw) (a := 0) (rest := []) (As := []) (L0 := [some (.ref 0)]) okX6_draw ovX6_draw mlX6_233 clX6 so0 rfl rfl (Nat.le_of_ble_eq_true rfl) dX6_loose_32 rfl (Nat.le_of_ble_eq_true rfl) (jX6_draw (X := X) (d + 5) s hy3) ?_
    refine J_bipush (pc := 35) dX6_loose_35 cb_6 ?_
    refine J_irem (pc := 37) dX6_loose_37 (by decide) ?_
    refine J_istoreL (pc := 38) (fun x4 => [some (.ref 0), some (.int v1), some (.int v2), some (.int v3), some (.int x4), none, none]) dX6_loose_38 rfl (Nat.le_of_ble_eq_true rfl) (fun _ => rfl) hh (fun x4 hh => ?_)
    refine J_aload_n (pc := 40) dX6_loose_40 rfl ?_
    obtain ⟨y5, hy5, hh⟩ := bd_some hh
    refine J_callVi (pc := 41) (M' := MX6_draw) (a := 0) (rest := []) (As := []) (L0 := [some (.ref 0)]) okX6_draw ovX6_draw mlX6_233 clX6 so0 rfl rfl (Nat.le_of_ble_eq_true rfl) dX6_loose_41 rfl (Nat.le_of_ble_eq_true rfl) (jX6_draw (X := X) (d + 5) y3.2 hy5) ?_
    refine J_iconst (pc := 44) dX6_loose_44 ci_4 ?_
    refine J_irem (pc := 45) dX6_loose_45 (by decide) ?_
    refine J_istoreL (pc := 46) (fun x6 => [some (.ref 0), some (.int v1), some (.int v2), some (.int v3), some (.int x4), some (.int x6), none]) dX6_loose_46 rfl (Nat.le_of_ble_eq_true rfl) (fun _ => rfl) hh (fun x6 hh => ?_)
    refine J_aload_n (pc := 48) dX6_loose_48 rfl ?_
    obtain ⟨y7, hy7, hh⟩ := bd_some hh
    refine J_callVi (pc := 49) (M' := MX6_draw) (a := 0) (rest := []) (As := []) (L0 := [some (.ref 0)]) okX6_draw ovX6_draw mlX6_233 clX6 so0 rfl rfl (Nat.le_of_ble_eq_true rfl) dX6_loose_49 rfl (Nat.le_of_ble_eq_true rfl) (jX6_draw (X := X) (d + 5) y5.2 hy7) ?_
    refine J_iconst (pc := 52) dX6_loose_52 ci_5 ?_
    refine J_irem (pc := 53) dX6_loose_53 (by decide) ?_
    refine J_istoreL (pc := 54) (fun x8 => [some (.ref 0), some (.int v1), some (.int v2), some (.int v3), some (.int x4), some (.int x6), some (.int x8)]) dX6_loose_54 rfl (Nat.le_of_ble_eq_true rfl) (fun _ => rfl) hh (fun x8 hh => ?_)
    refine J_iload_n (pc := 56) dX6_loose_56 rfl ?_
    refine J_aload_n (pc := 57) dX6_loose_57 rfl ?_
    refine J_iload (pc := 58) dX6_loose_58 rfl ?_
    refine J_i2l (pc := 60) dX6_loose_60 ?_
    refine J_iload (pc := 61) dX6_loose_61 rfl ?_
    refine J_i2l (pc := 63) dX6_loose_63 ?_
    refine J_iload (pc := 64) dX6_loose_64 rfl ?_
    refine J_i2l (pc := 66) dX6_loose_66 ?_
    obtain ⟨y9, hy9, hh⟩ := bd_some hh
    refine J_callVi (pc := 67) (M' := MX6_carriedOut) (a := 0) (rest := [.int v2]) (As := [.long (x4.toInt64), .long (x6.toInt64), .long (x8.toInt64)]) (L0 := [some (.ref 0), some (.long (x4.toInt64)), none, some (.long (x6.toInt64)), none, some (.long (x8.toInt64)), none, none]) okX6_carriedOut ovX6_carriedOut mlX6_188 clX6 so0 rfl rfl (Nat.le_of_ble_eq_true rfl) dX6_loose_67 rfl (Nat.le_of_ble_eq_true rfl) (jX6_carriedOut (X := X) d y7.2 (x4.toInt64) (x6.toInt64) (x8.toInt64) hy9) ?_
    refine J_iadd (pc := 70) dX6_loose_70 ?_
    refine J_istoreL_n (pc := 71) (fun x10 => [some (.ref 0), some (.int v1), some (.int x10), some (.int v3), some (.int x4), some (.int x6), some (.int x8)]) dX6_loose_71 rfl (Nat.le_of_ble_eq_true rfl) (fun _ => rfl) hh (fun x10 hh => ?_)
    refine J_iincL (pc := 72) (v := v3 + (1 : Int32)) (fun x11 => [some (.ref 0), some (.int v1), some (.int x10), some (.int x11), some (.int x4), some (.int x6), some (.int x8)]) dX6_loose_72 rfl rfl (Nat.le_of_ble_eq_true rfl) (congrArg _ ci_1) (fun _ => rfl) hh (fun x11 hh => ?_)
    refine J_goto (pc := 75) 26 dX6_loose_75 (by decide) ?_
    refine J_drop 4 (L' := [some (.ref 0), some (.int v1), some (.int x10), some (.int x11), none, some (.int x6), some (.int x8)]) rfl ?_
    refine J_drop 5 (L' := [some (.ref 0), some (.int v1), some (.int x10), some (.int x11), none, none, some (.int x8)]) rfl ?_
    refine J_drop 6 (L' := [some (.ref 0), some (.int v1), some (.int x10), some (.int x11), none, none, none]) rfl ?_
    obtain rfl := Option.some.inj hh
    exact hk
def fX6_loose (s : Mem) (p0 : Int32) : Option (Int32 × Mem) :=
  (fX6_within (p0.toInt64) (1 : Int64) (20 : Int64)).bind (fun y1 => if y1 = (0 : Int32) then (fX6_finding s (0 : Int32)).bind (fun y14 => some ((y14.1, y14.2))) else (fX6_begin s).bind (fun y2 => (lp (fun a => bX6_loose_26 a.2.2 p0 a.1 a.2.1) 600 ((0 : Int32), (0 : Int32), y2)).bind (fun y13 => some ((y13.1, y13.2)))))
set_option maxRecDepth 4000 in
theorem jjX6_loose {X : Scr} (d : Nat) (s : Mem) (p0 : Int32) {r : (Int32 × Mem)} {w : Option Value} {s' : Mem} (hh : fX6_loose s p0 = some r) (hk : w = some (.int r.1) ∧ r.2 = s') : J X MX6_loose (d + 6) 0 [some (.ref 0), some (.int p0), none, none, none, none, none] [] s w s' := by
  unfold fX6_loose at hh
  refine J_iload_n (pc := 0) dX6_loose_0 rfl ?_
  refine J_i2l (pc := 1) dX6_loose_1 ?_
  refine J_lconst (pc := 2) (v := 1) dX6_loose_2 rfl ?_
  refine J_ldc2 (pc := 3) klX6_231 dX6_loose_3 ?_
  obtain ⟨y1, hy1, hh⟩ := bd_some hh
  refine J_callSi (pc := 6) (M' := MX6_within) (rest := []) (As := [.long (p0.toInt64), .long (1 : Int64), .long (20 : Int64)]) (L0 := [some (.long (p0.toInt64)), none, some (.long (1 : Int64)), none, some (.long (20 : Int64)), none]) okX6_within osX6_within mlX6_62 rfl rfl (Nat.le_of_ble_eq_true rfl) dX6_loose_6 rfl (Nat.le_of_ble_eq_true rfl) (jX6_within (X := X) (d + 5) s (p0.toInt64) (1 : Int64) (20 : Int64) hy1) ?_
  refine J_if_ne (pc := 9) 18 dX6_loose_9 (by decide) (fun c15 => ?_) (fun c15 => ?_)
  · replace hh := (if_neg c15).symm.trans hh
    refine J_aload_n (pc := 18) dX6_loose_18 rfl ?_
    obtain ⟨y2, hy2, hh⟩ := bd_some hh
    refine J_callV0 (pc := 19) (M' := MX6_begin) (a := 0) (rest := []) (As := []) (L0 := [some (.ref 0)]) okX6_begin ovX6_begin mlX6_92 clX6 so0 rfl rfl (Nat.le_of_ble_eq_true rfl) dX6_loose_19 rfl (Nat.le_of_ble_eq_true rfl) (jX6_begin (X := X) (d + 2) s hy2) ?_
    refine J_iconst (pc := 22) dX6_loose_22 ci_0 ?_
    refine J_istore_n (pc := 23) (L' := [some (.ref 0), some (.int p0), some (.int (0 : Int32)), none, none, none, none]) dX6_loose_23 rfl (Nat.le_of_ble_eq_true rfl) rfl ?_
    refine J_iconst (pc := 24) dX6_loose_24 ci_0 ?_
    refine J_istore_n (pc := 25) (L' := [some (.ref 0), some (.int p0), some (.int (0 : Int32)), some (.int (0 : Int32)), none, none, none]) dX6_loose_25 rfl (Nat.le_of_ble_eq_true rfl) rfl ?_
    obtain ⟨y13, hy13, hh⟩ := bd_some hh
    refine J_lp (a := ((0 : Int32), (0 : Int32), y2)) (fun a : (Int32 × Int32 × Mem) => J X MX6_loose (d + 6) 26 [some (.ref 0), some (.int p0), some (.int a.1), some (.int a.2.1), none, none, none] [] a.2.2 w s') (fun t : (Int32 × Mem) => J X MX6_loose (d + 6) 78 [none, none, some (.int t.1), none, none, none, none] [] t.2 w s') (fun a q h1 h2 => jbX6_loose_26 d a.2.2 p0 a.1 a.2.1 h1 h2) hy13 ?_
    refine J_iload_n (pc := 78) dX6_loose_78 rfl ?_
    obtain rfl := Option.some.inj hh
    obtain ⟨rfl, rfl⟩ := hk
    exact J_ret (w := some (.int y13.1)) ⟨dX6_loose_79, _, rfl, rfl⟩
  · replace hh := (if_pos c15).symm.trans hh
    refine J_aload_n (pc := 12) dX6_loose_12 rfl ?_
    refine J_iconst (pc := 13) dX6_loose_13 ci_0 ?_
    obtain ⟨y14, hy14, hh⟩ := bd_some hh
    refine J_callVi (pc := 14) (M' := MX6_finding) (a := 0) (rest := []) (As := [.int (0 : Int32)]) (L0 := [some (.ref 0), some (.int (0 : Int32))]) okX6_finding ovX6_finding mlX6_68 clX6 so0 rfl rfl (Nat.le_of_ble_eq_true rfl) dX6_loose_14 rfl (Nat.le_of_ble_eq_true rfl) (jX6_finding (X := X) (d + 4) s (0 : Int32) hy14) ?_
    obtain rfl := Option.some.inj hh
    obtain ⟨rfl, rfl⟩ := hk
    exact J_ret (w := some (.int y14.1)) ⟨dX6_loose_17, _, rfl, rfl⟩
theorem jX6_loose {X : Scr} (d : Nat) (s : Mem) (p0 : Int32) {r : (Int32 × Mem)} (hh : fX6_loose s p0 = some r) : J X MX6_loose (d + 6) 0 [some (.ref 0), some (.int p0), none, none, none, none, none] [] s (some (.int r.1)) r.2 := jjX6_loose d s p0 hh ⟨rfl, rfl⟩
theorem dX6_seed_0 : decode cX6_seed 0 = .ok (.aload_n 0, 1) := by decide +kernel
theorem dX6_seed_1 : decode cX6_seed 1 = .ok (.getfield 48, 3) := by decide +kernel
theorem dX6_seed_4 : decode cX6_seed 4 = .ok (.istore_n 2, 1) := by decide +kernel
theorem dX6_seed_5 : decode cX6_seed 5 = .ok (.aload_n 0, 1) := by decide +kernel
theorem dX6_seed_6 : decode cX6_seed 6 = .ok (.iload_n 1, 1) := by decide +kernel
theorem dX6_seed_7 : decode cX6_seed 7 = .ok (.putfield 48, 3) := by decide +kernel
theorem dX6_seed_10 : decode cX6_seed 10 = .ok (.iload_n 2, 1) := by decide +kernel
theorem dX6_seed_11 : decode cX6_seed 11 = .ok (.ireturn, 1) := by decide +kernel
def fX6_seed (s : Mem) (p0 : Int32) : Option (Int32 × Mem) :=
  lt (s.1 0 6) (fun x1 => lt (up2 s 0 6 p0) (fun s2 => some ((x1, s2))))
set_option maxRecDepth 4000 in
theorem jjX6_seed {X : Scr} (d : Nat) (s : Mem) (p0 : Int32) {r : (Int32 × Mem)} {w : Option Value} {s' : Mem} (hh : fX6_seed s p0 = some r) (hk : w = some (.int r.1) ∧ r.2 = s') : J X MX6_seed (d + 0) 0 [some (.ref 0), some (.int p0), none] [] s w s' := by
  unfold fX6_seed at hh
  refine J_aload_n (pc := 0) dX6_seed_0 rfl ?_
  refine J_getI (pc := 1) (k := 6) flX6_48 so0 fk0_6 dX6_seed_1 ?_
  refine J_istoreL_n (pc := 4) (fun x1 => [some (.ref 0), some (.int p0), some (.int x1)]) dX6_seed_4 rfl (Nat.le_of_ble_eq_true rfl) (fun _ => rfl) hh (fun x1 hh => ?_)
  refine J_aload_n (pc := 5) dX6_seed_5 rfl ?_
  refine J_iload_n (pc := 6) dX6_seed_6 rfl ?_
  refine J_putIL (pc := 7) (k := 6) fpX6_48 so0 fk0_6 rfl rfl dX6_seed_7 hh (fun s2 hh => ?_)
  refine J_iload_n (pc := 10) dX6_seed_10 rfl ?_
  obtain rfl := Option.some.inj hh
  obtain ⟨rfl, rfl⟩ := hk
  exact J_ret (w := some (.int x1)) ⟨dX6_seed_11, _, rfl, rfl⟩
theorem jX6_seed {X : Scr} (d : Nat) (s : Mem) (p0 : Int32) {r : (Int32 × Mem)} (hh : fX6_seed s p0 = some r) : J X MX6_seed (d + 0) 0 [some (.ref 0), some (.int p0), none] [] s (some (.int r.1)) r.2 := jjX6_seed d s p0 hh ⟨rfl, rfl⟩
theorem dX6_feed_0 : decode cX6_feed 0 = .ok (.iload_n 2, 1) := by decide +kernel
theorem dX6_feed_1 : decode cX6_feed 1 = .ok (.i2l, 1) := by decide +kernel
theorem dX6_feed_2 : decode cX6_feed 2 = .ok (.lconst 1, 1) := by decide +kernel
theorem dX6_feed_3 : decode cX6_feed 3 = .ok (.ldc2_w 186, 3) := by decide +kernel
theorem dX6_feed_6 : decode cX6_feed 6 = .ok (.invokestatic 62, 3) := by decide +kernel
theorem dX6_feed_9 : decode cX6_feed 9 = .ok (.ifCond .ne 9, 3) := by decide +kernel
theorem dX6_feed_12 : decode cX6_feed 12 = .ok (.aload_n 0, 1) := by decide +kernel
theorem dX6_feed_13 : decode cX6_feed 13 = .ok (.iconst 0, 1) := by decide +kernel
theorem dX6_feed_14 : decode cX6_feed 14 = .ok (.invokevirtual 68, 3) := by decide +kernel
theorem dX6_feed_17 : decode cX6_feed 17 = .ok (.ireturn, 1) := by decide +kernel
theorem dX6_feed_18 : decode cX6_feed 18 = .ok (.aload_n 0, 1) := by decide +kernel
theorem dX6_feed_19 : decode cX6_feed 19 = .ok (.getfield 33, 3) := by decide +kernel
theorem dX6_feed_22 : decode cX6_feed 22 = .ok (.iload_n 2, 1) := by decide +kernel
theorem dX6_feed_23 : decode cX6_feed 23 = .ok (.invokevirtual 236, 3) := by decide +kernel
theorem dX6_feed_26 : decode cX6_feed 26 = .ok (.ifCond .ne 9, 3) := by decide +kernel
theorem dX6_feed_29 : decode cX6_feed 29 = .ok (.aload_n 0, 1) := by decide +kernel
theorem dX6_feed_30 : decode cX6_feed 30 = .ok (.iconst 1, 1) := by decide +kernel
theorem dX6_feed_31 : decode cX6_feed 31 = .ok (.invokevirtual 68, 3) := by decide +kernel
theorem dX6_feed_34 : decode cX6_feed 34 = .ok (.ireturn, 1) := by decide +kernel
theorem dX6_feed_35 : decode cX6_feed 35 = .ok (.aload_n 0, 1) := by decide +kernel
theorem dX6_feed_36 : decode cX6_feed 36 = .ok (.getfield 33, 3) := by decide +kernel
theorem dX6_feed_39 : decode cX6_feed 39 = .ok (.iload_n 1, 1) := by decide +kernel
theorem dX6_feed_40 : decode cX6_feed 40 = .ok (.iload_n 2, 1) := by decide +kernel
theorem dX6_feed_41 : decode cX6_feed 41 = .ok (.invokevirtual 239, 3) := by decide +kernel
theorem dX6_feed_44 : decode cX6_feed 44 = .ok (.ireturn, 1) := by decide +kernel
def fX6_feed (s : Mem) (p0 : Int32) (p1 : Int32) : Option (Int32 × Mem) :=
  (fX6_within (p1.toInt64) (1 : Int64) (4 : Int64)).bind (fun y1 => if y1 = (0 : Int32) then (fX6_finding s (0 : Int32)).bind (fun y6 => some ((y6.1, y6.2))) else (fX5_hasRoom s p1).bind (fun y2 => if y2 = (0 : Int32) then (fX6_finding s (1 : Int32)).bind (fun y4 => some ((y4.1, y4.2))) else (fX5_gets s p0 p1).bind (fun y3 => some ((y3.1, y3.2)))))
set_option maxRecDepth 4000 in
theorem jjX6_feed {X : Scr} (d : Nat) (s : Mem) (p0 : Int32) (p1 : Int32) {r : (Int32 × Mem)} {w : Option Value} {s' : Mem} (hh : fX6_feed s p0 p1 = some r) (hk : w = some (.int r.1) ∧ r.2 = s') : J X MX6_feed (d + 2) 0 [some (.ref 0), some (.int p0), some (.int p1)] [] s w s' := by
  unfold fX6_feed at hh
  refine J_iload_n (pc := 0) dX6_feed_0 rfl ?_
  refine J_i2l (pc := 1) dX6_feed_1 ?_
  refine J_lconst (pc := 2) (v := 1) dX6_feed_2 rfl ?_
  refine J_ldc2 (pc := 3) klX6_186 dX6_feed_3 ?_
  obtain ⟨y1, hy1, hh⟩ := bd_some hh
  refine J_callSi (pc := 6) (M' := MX6_within) (rest := []) (As := [.long (p1.toInt64), .long (1 : Int64), .long (4 : Int64)]) (L0 := [some (.long (p1.toInt64)), none, some (.long (1 : Int64)), none, some (.long (4 : Int64)), none]) okX6_within osX6_within mlX6_62 rfl rfl (Nat.le_of_ble_eq_true rfl) dX6_feed_6 rfl (Nat.le_of_ble_eq_true rfl) (jX6_within (X := X) (d + 1) s (p1.toInt64) (1 : Int64) (4 : Int64) hy1) ?_
  refine J_if_ne (pc := 9) 18 dX6_feed_9 (by decide) (fun c7 => ?_) (fun c7 => ?_)
  · replace hh := (if_neg c7).symm.trans hh
    refine J_aload_n (pc := 18) dX6_feed_18 rfl ?_
    refine J_getR (pc := 19) (k := 3) flX6_33 so0 fk0_3 dX6_feed_19 ?_
    refine J_iload_n (pc := 22) dX6_feed_22 rfl ?_
    obtain ⟨y2, hy2, hh⟩ := bd_some hh
    refine J_callVi (pc := 23) (M' := MX5_hasRoom) (a := 12) (rest := []) (As := [.int p1]) (L0 := [some (.ref 12), some (.int p1)]) okX5_hasRoom ovX5_hasRoom mlX6_236 clX5 so12 rfl rfl (Nat.le_of_ble_eq_true rfl) dX6_feed_23 rfl (Nat.le_of_ble_eq_true rfl) (jX5_hasRoom (X := X) (d + 1) s p1 hy2) ?_
    refine J_if_ne (pc := 26) 35 dX6_feed_26 (by decide) (fun c5 => ?_) (fun c5 => ?_)
    · replace hh := (if_neg c5).symm.trans hh
      refine J_aload_n (pc := 35) dX6_feed_35 rfl ?_
      refine J_getR (pc := 36) (k := 3) flX6_33 so0 fk0_3 dX6_feed_36 ?_
      refine J_iload_n (pc := 39) dX6_feed_39 rfl ?_
      refine J_iload_n (pc := 40) dX6_feed_40 rfl ?_
      obtain ⟨y3, hy3, hh⟩ := bd_some hh
      refine J_callVi (pc := 41) (M' := MX5_gets) (a := 12) (rest := []) (As := [.int p0, .int p1]) (L0 := [some (.ref 12), some (.int p0), some (.int p1), none]) okX5_gets ovX5_gets mlX6_239 clX5 so12 rfl rfl (Nat.le_of_ble_eq_true rfl) dX6_feed_41 rfl (Nat.le_of_ble_eq_true rfl) (jX5_gets (X := X) (d + 1) s p0 p1 hy3) ?_
      obtain rfl := Option.some.inj hh
      obtain ⟨rfl, rfl⟩ := hk
      exact J_ret (w := some (.int y3.1)) ⟨dX6_feed_44, _, rfl, rfl⟩
    · replace hh := (if_pos c5).symm.trans hh
      refine J_aload_n (pc := 29) dX6_feed_29 rfl ?_
      refine J_iconst (pc := 30) dX6_feed_30 ci_1 ?_
      obtain ⟨y4, hy4, hh⟩ := bd_some hh
      refine J_callVi (pc := 31) (M' := MX6_finding) (a := 0) (rest := []) (As := [.int (1 : Int32)]) (L0 := [some (.ref 0), some (.int (1 : Int32))]) okX6_finding ovX6_finding mlX6_68 clX6 so0 rfl rfl (Nat.le_of_ble_eq_true rfl) dX6_feed_31 rfl (Nat.le_of_ble_eq_true rfl) (jX6_finding (X := X) d s (1 : Int32) hy4) ?_
      obtain rfl := Option.some.inj hh
      obtain ⟨rfl, rfl⟩ := hk
      exact J_ret (w := some (.int y4.1)) ⟨dX6_feed_34, _, rfl, rfl⟩
  · replace hh := (if_pos c7).symm.trans hh
    refine J_aload_n (pc := 12) dX6_feed_12 rfl ?_
    refine J_iconst (pc := 13) dX6_feed_13 ci_0 ?_
    obtain ⟨y6, hy6, hh⟩ := bd_some hh
    refine J_callVi (pc := 14) (M' := MX6_finding) (a := 0) (rest := []) (As := [.int (0 : Int32)]) (L0 := [some (.ref 0), some (.int (0 : Int32))]) okX6_finding ovX6_finding mlX6_68 clX6 so0 rfl rfl (Nat.le_of_ble_eq_true rfl) dX6_feed_14 rfl (Nat.le_of_ble_eq_true rfl) (jX6_finding (X := X) d s (0 : Int32) hy6) ?_
    obtain rfl := Option.some.inj hh
    obtain ⟨rfl, rfl⟩ := hk
    exact J_ret (w := some (.int y6.1)) ⟨dX6_feed_17, _, rfl, rfl⟩
theorem jX6_feed {X : Scr} (d : Nat) (s : Mem) (p0 : Int32) (p1 : Int32) {r : (Int32 × Mem)} (hh : fX6_feed s p0 p1 = some r) : J X MX6_feed (d + 2) 0 [some (.ref 0), some (.int p0), some (.int p1)] [] s (some (.int r.1)) r.2 := jjX6_feed d s p0 p1 hh ⟨rfl, rfl⟩
theorem dX6_wipe_0 : decode cX6_wipe 0 = .ok (.aload_n 0, 1) := by decide +kernel
theorem dX6_wipe_1 : decode cX6_wipe 1 = .ok (.getfield 33, 3) := by decide +kernel
theorem dX6_wipe_4 : decode cX6_wipe 4 = .ok (.invokevirtual 242, 3) := by decide +kernel
theorem dX6_wipe_7 : decode cX6_wipe 7 = .ok (.ireturn, 1) := by decide +kernel
def fX6_wipe (s : Mem)  : Option (Int32 × Mem) :=
  (fX5_empties s).bind (fun y1 => some ((y1.1, y1.2)))
set_option maxRecDepth 4000 in
theorem jjX6_wipe {X : Scr} (d : Nat) (s : Mem)  {r : (Int32 × Mem)} {w : Option Value} {s' : Mem} (hh : fX6_wipe s = some r) (hk : w = some (.int r.1) ∧ r.2 = s') : J X MX6_wipe (d + 1) 0 [some (.ref 0)] [] s w s' := by
  unfold fX6_wipe at hh
  refine J_aload_n (pc := 0) dX6_wipe_0 rfl ?_
  refine J_getR (pc := 1) (k := 3) flX6_33 so0 fk0_3 dX6_wipe_1 ?_
  obtain ⟨y1, hy1, hh⟩ := bd_some hh
  refine J_callVi (pc := 4) (M' := MX5_empties) (a := 12) (rest := []) (As := []) (L0 := [some (.ref 12), none]) okX5_empties ovX5_empties mlX6_242 clX5 so12 rfl rfl (Nat.le_of_ble_eq_true rfl) dX6_wipe_4 rfl (Nat.le_of_ble_eq_true rfl) (jX5_empties (X := X) d s hy1) ?_
  obtain rfl := Option.some.inj hh
  obtain ⟨rfl, rfl⟩ := hk
  exact J_ret (w := some (.int y1.1)) ⟨dX6_wipe_7, _, rfl, rfl⟩
theorem jX6_wipe {X : Scr} (d : Nat) (s : Mem)  {r : (Int32 × Mem)} (hh : fX6_wipe s = some r) : J X MX6_wipe (d + 1) 0 [some (.ref 0)] [] s (some (.int r.1)) r.2 := jjX6_wipe d s hh ⟨rfl, rfl⟩
theorem dX6_readAll_0 : decode cX6_readAll 0 = .ok (.aload_n 0, 1) := by decide +kernel
theorem dX6_readAll_1 : decode cX6_readAll 1 = .ok (.getfield 33, 3) := by decide +kernel
theorem dX6_readAll_4 : decode cX6_readAll 4 = .ok (.invokevirtual 313, 3) := by decide +kernel
theorem dX6_readAll_7 : decode cX6_readAll 7 = .ok (.iconst 1, 1) := by decide +kernel
theorem dX6_readAll_8 : decode cX6_readAll 8 = .ok (.istore_n 1, 1) := by decide +kernel
theorem dX6_readAll_9 : decode cX6_readAll 9 = .ok (.iload_n 1, 1) := by decide +kernel
theorem dX6_readAll_10 : decode cX6_readAll 10 = .ok (.bipush 120, 2) := by decide +kernel
theorem dX6_readAll_12 : decode cX6_readAll 12 = .ok (.if_icmp .gt 182, 3) := by decide +kernel
theorem dX6_readAll_15 : decode cX6_readAll 15 = .ok (.aload_n 0, 1) := by decide +kernel
theorem dX6_readAll_16 : decode cX6_readAll 16 = .ok (.getfield 33, 3) := by decide +kernel
theorem dX6_readAll_19 : decode cX6_readAll 19 = .ok (.aload_n 0, 1) := by decide +kernel
theorem dX6_readAll_20 : decode cX6_readAll 20 = .ok (.getfield 10, 3) := by decide +kernel
theorem dX6_readAll_23 : decode cX6_readAll 23 = .ok (.invokevirtual 125, 3) := by decide +kernel
theorem dX6_readAll_26 : decode cX6_readAll 26 = .ok (.bipush 6, 2) := by decide +kernel
theorem dX6_readAll_28 : decode cX6_readAll 28 = .ok (.if_icmp .lt 7, 3) := by decide +kernel
theorem dX6_readAll_31 : decode cX6_readAll 31 = .ok (.iconst 1, 1) := by decide +kernel
theorem dX6_readAll_32 : decode cX6_readAll 32 = .ok (.goto 4, 3) := by decide +kernel
theorem dX6_readAll_35 : decode cX6_readAll 35 = .ok (.iconst 0, 1) := by decide +kernel
theorem dX6_readAll_36 : decode cX6_readAll 36 = .ok (.invokevirtual 316, 3) := by decide +kernel
theorem dX6_readAll_39 : decode cX6_readAll 39 = .ok (.ifCond .ne 13, 3) := by decide +kernel
theorem dX6_readAll_42 : decode cX6_readAll 42 = .ok (.iconst (-1), 1) := by decide +kernel
theorem dX6_readAll_43 : decode cX6_readAll 43 = .ok (.aload_n 0, 1) := by decide +kernel
theorem dX6_readAll_44 : decode cX6_readAll 44 = .ok (.getfield 33, 3) := by decide +kernel
theorem dX6_readAll_47 : decode cX6_readAll 47 = .ok (.invokevirtual 320, 3) := by decide +kernel
theorem dX6_readAll_50 : decode cX6_readAll 50 = .ok (.isub, 1) := by decide +kernel
theorem dX6_readAll_51 : decode cX6_readAll 51 = .ok (.ireturn, 1) := by decide +kernel
theorem dX6_readAll_52 : decode cX6_readAll 52 = .ok (.aload_n 0, 1) := by decide +kernel
theorem dX6_readAll_53 : decode cX6_readAll 53 = .ok (.getfield 33, 3) := by decide +kernel
theorem dX6_readAll_56 : decode cX6_readAll 56 = .ok (.getfield 323, 3) := by decide +kernel
theorem dX6_readAll_59 : decode cX6_readAll 59 = .ok (.ifCond .lt 35, 3) := by decide +kernel
theorem dX6_readAll_62 : decode cX6_readAll 62 = .ok (.aload_n 0, 1) := by decide +kernel
theorem dX6_readAll_63 : decode cX6_readAll 63 = .ok (.getfield 10, 3) := by decide +kernel
theorem dX6_readAll_66 : decode cX6_readAll 66 = .ok (.aload_n 0, 1) := by decide +kernel
theorem dX6_readAll_67 : decode cX6_readAll 67 = .ok (.getfield 33, 3) := by decide +kernel
theorem dX6_readAll_70 : decode cX6_readAll 70 = .ok (.getfield 323, 3) := by decide +kernel
theorem dX6_readAll_73 : decode cX6_readAll 73 = .ok (.aload_n 0, 1) := by decide +kernel
theorem dX6_readAll_74 : decode cX6_readAll 74 = .ok (.getfield 33, 3) := by decide +kernel
theorem dX6_readAll_77 : decode cX6_readAll 77 = .ok (.getfield 326, 3) := by decide +kernel
theorem dX6_readAll_80 : decode cX6_readAll 80 = .ok (.aload_n 0, 1) := by decide +kernel
theorem dX6_readAll_81 : decode cX6_readAll 81 = .ok (.getfield 33, 3) := by decide +kernel
theorem dX6_readAll_84 : decode cX6_readAll 84 = .ok (.getfield 329, 3) := by decide +kernel
theorem dX6_readAll_87 : decode cX6_readAll 87 = .ok (.invokevirtual 129, 3) := by decide +kernel
theorem dX6_readAll_90 : decode cX6_readAll 90 = .ok (.pop, 1) := by decide +kernel
theorem dX6_readAll_91 : decode cX6_readAll 91 = .ok (.goto 65, 3) := by decide +kernel
theorem dX6_readAll_94 : decode cX6_readAll 94 = .ok (.aload_n 0, 1) := by decide +kernel
theorem dX6_readAll_95 : decode cX6_readAll 95 = .ok (.getfield 10, 3) := by decide +kernel
theorem dX6_readAll_98 : decode cX6_readAll 98 = .ok (.aload_n 0, 1) := by decide +kernel
theorem dX6_readAll_99 : decode cX6_readAll 99 = .ok (.getfield 33, 3) := by decide +kernel
theorem dX6_readAll_102 : decode cX6_readAll 102 = .ok (.getfield 331, 3) := by decide +kernel
theorem dX6_readAll_105 : decode cX6_readAll 105 = .ok (.aload_n 0, 1) := by decide +kernel
theorem dX6_readAll_106 : decode cX6_readAll 106 = .ok (.getfield 33, 3) := by decide +kernel
theorem dX6_readAll_109 : decode cX6_readAll 109 = .ok (.getfield 334, 3) := by decide +kernel
theorem dX6_readAll_112 : decode cX6_readAll 112 = .ok (.aload_n 0, 1) := by decide +kernel
theorem dX6_readAll_113 : decode cX6_readAll 113 = .ok (.getfield 33, 3) := by decide +kernel
theorem dX6_readAll_116 : decode cX6_readAll 116 = .ok (.getfield 337, 3) := by decide +kernel
theorem dX6_readAll_119 : decode cX6_readAll 119 = .ok (.aload_n 0, 1) := by decide +kernel
theorem dX6_readAll_120 : decode cX6_readAll 120 = .ok (.getfield 33, 3) := by decide +kernel
theorem dX6_readAll_123 : decode cX6_readAll 123 = .ok (.getfield 326, 3) := by decide +kernel
theorem dX6_readAll_126 : decode cX6_readAll 126 = .ok (.aload_n 0, 1) := by decide +kernel
theorem dX6_readAll_127 : decode cX6_readAll 127 = .ok (.getfield 33, 3) := by decide +kernel
theorem dX6_readAll_130 : decode cX6_readAll 130 = .ok (.getfield 340, 3) := by decide +kernel
theorem dX6_readAll_133 : decode cX6_readAll 133 = .ok (.aload_n 0, 1) := by decide +kernel
theorem dX6_readAll_134 : decode cX6_readAll 134 = .ok (.getfield 33, 3) := by decide +kernel
theorem dX6_readAll_137 : decode cX6_readAll 137 = .ok (.getfield 343, 3) := by decide +kernel
theorem dX6_readAll_140 : decode cX6_readAll 140 = .ok (.invokevirtual 76, 3) := by decide +kernel
theorem dX6_readAll_143 : decode cX6_readAll 143 = .ok (.ifCond .ne 13, 3) := by decide +kernel
theorem dX6_readAll_146 : decode cX6_readAll 146 = .ok (.iconst (-1), 1) := by decide +kernel
theorem dX6_readAll_147 : decode cX6_readAll 147 = .ok (.aload_n 0, 1) := by decide +kernel
theorem dX6_readAll_148 : decode cX6_readAll 148 = .ok (.getfield 33, 3) := by decide +kernel
theorem dX6_readAll_151 : decode cX6_readAll 151 = .ok (.invokevirtual 346, 3) := by decide +kernel
theorem dX6_readAll_154 : decode cX6_readAll 154 = .ok (.isub, 1) := by decide +kernel
theorem dX6_readAll_155 : decode cX6_readAll 155 = .ok (.ireturn, 1) := by decide +kernel
theorem dX6_readAll_156 : decode cX6_readAll 156 = .ok (.aload_n 0, 1) := by decide +kernel
theorem dX6_readAll_157 : decode cX6_readAll 157 = .ok (.getfield 33, 3) := by decide +kernel
theorem dX6_readAll_160 : decode cX6_readAll 160 = .ok (.invokevirtual 349, 3) := by decide +kernel
theorem dX6_readAll_163 : decode cX6_readAll 163 = .ok (.ifCond .eq 5, 3) := by decide +kernel
theorem dX6_readAll_166 : decode cX6_readAll 166 = .ok (.iload_n 1, 1) := by decide +kernel
theorem dX6_readAll_167 : decode cX6_readAll 167 = .ok (.ireturn, 1) := by decide +kernel
theorem dX6_readAll_168 : decode cX6_readAll 168 = .ok (.aload_n 0, 1) := by decide +kernel
theorem dX6_readAll_169 : decode cX6_readAll 169 = .ok (.getfield 33, 3) := by decide +kernel
theorem dX6_readAll_172 : decode cX6_readAll 172 = .ok (.invokevirtual 353, 3) := by decide +kernel
theorem dX6_readAll_175 : decode cX6_readAll 175 = .ok (.ifCond .ne 13, 3) := by decide +kernel
theorem dX6_readAll_178 : decode cX6_readAll 178 = .ok (.iconst (-1), 1) := by decide +kernel
theorem dX6_readAll_179 : decode cX6_readAll 179 = .ok (.aload_n 0, 1) := by decide +kernel
theorem dX6_readAll_180 : decode cX6_readAll 180 = .ok (.getfield 33, 3) := by decide +kernel
theorem dX6_readAll_183 : decode cX6_readAll 183 = .ok (.invokevirtual 320, 3) := by decide +kernel
theorem dX6_readAll_186 : decode cX6_readAll 186 = .ok (.isub, 1) := by decide +kernel
theorem dX6_readAll_187 : decode cX6_readAll 187 = .ok (.ireturn, 1) := by decide +kernel
theorem dX6_readAll_188 : decode cX6_readAll 188 = .ok (.iinc 1 1, 3) := by decide +kernel
theorem dX6_readAll_191 : decode cX6_readAll 191 = .ok (.goto (-182), 3) := by decide +kernel
theorem dX6_readAll_194 : decode cX6_readAll 194 = .ok (.iconst (-1), 1) := by decide +kernel
theorem dX6_readAll_195 : decode cX6_readAll 195 = .ok (.aload_n 0, 1) := by decide +kernel
theorem dX6_readAll_196 : decode cX6_readAll 196 = .ok (.getfield 33, 3) := by decide +kernel
theorem dX6_readAll_199 : decode cX6_readAll 199 = .ok (.invokevirtual 320, 3) := by decide +kernel
theorem dX6_readAll_202 : decode cX6_readAll 202 = .ok (.isub, 1) := by decide +kernel
theorem dX6_readAll_203 : decode cX6_readAll 203 = .ok (.ireturn, 1) := by decide +kernel
def gX6_readAll_156 (s : Mem) (v1 : Int32) : Option (((Int32 × Mem) ⊕ Mem) ⊕ (Int32 × Mem)) :=
  (fX5_atEnd s).bind (fun y5 => if y5 = (0 : Int32) then (fX5_readSemicolon s).bind (fun y6 => if y6.1 = (0 : Int32) then (fX5_place y6.2).bind (fun y8 => some (Sum.inl (Sum.inl (((-1 : Int32) - y8, y6.2))))) else lt (v1 + (1 : Int32)) (fun x7 => some (Sum.inr (x7, y6.2)))) else some (Sum.inl (Sum.inl ((v1, s)))))
set_option maxRecDepth 4000 in
theorem jgX6_readAll_156 {X : Scr} (d : Nat) (s : Mem) (v1 : Int32) {r : (((Int32 × Mem) ⊕ Mem) ⊕ (Int32 × Mem))} {w : Option Value} {s' : Mem} (hh : gX6_readAll_156 s v1 = some r) (hk : Sum.elim (Sum.elim (fun q : (Int32 × Mem) => w = some (.int q.1) ∧ q.2 = s') (fun t : Mem => J X MX6_readAll (d + 8) 194 [some (.ref 0), none] [] t w s')) (fun a : (Int32 × Mem) => J X MX6_readAll (d + 8) 9 [some (.ref 0), some (.int a.1)] [] a.2 w s') r) : J X MX6_readAll (d + 8) 156 [some (.ref 0), some (.int v1)] [] s w s' := by
  unfold gX6_readAll_156 at hh
  refine J_aload_n (pc := 156) dX6_readAll_156 rfl ?_
  refine J_getR (pc := 157) (k := 3) flX6_33 so0 fk0_3 dX6_readAll_157 ?_
  obtain ⟨y5, hy5, hh⟩ := bd_some hh
  refine J_callVi (pc := 160) (M' := MX5_atEnd) (a := 12) (rest := []) (As := []) (L0 := [some (.ref 12)]) okX5_atEnd ovX5_atEnd mlX6_349 clX5 so12 rfl rfl (Nat.le_of_ble_eq_true rfl) dX6_readAll_160 rfl (Nat.le_of_ble_eq_true rfl) (jX5_atEnd (X := X) (d + 7) s hy5) ?_
  refine J_if_eq (pc := 163) 168 dX6_readAll_163 (by decide) (fun c10 => ?_) (fun c10 => ?_)
  · replace hh := (if_pos c10).symm.trans hh
    refine J_aload_n (pc := 168) dX6_readAll_168 rfl ?_
    refine J_getR (pc := 169) (k := 3) flX6_33 so0 fk0_3 dX6_readAll_169 ?_
    obtain ⟨y6, hy6, hh⟩ := bd_some hh
    refine J_callVi (pc := 172) (M' := MX5_readSemicolon) (a := 12) (rest := []) (As := []) (L0 := [some (.ref 12)]) okX5_readSemicolon ovX5_readSemicolon mlX6_353 clX5 so12 rfl rfl (Nat.le_of_ble_eq_true rfl) dX6_readAll_172 rfl (Nat.le_of_ble_eq_true rfl) (jX5_readSemicolon (X := X) (d + 1) s hy6) ?_
    refine J_if_ne (pc := 175) 188 dX6_readAll_175 (by decide) (fun c9 => ?_) (fun c9 => ?_)
    · replace hh := (if_neg c9).symm.trans hh
      refine J_iincL (pc := 188) (v := v1 + (1 : Int32)) (fun x7 => [some (.ref 0), some (.int x7)]) dX6_readAll_188 rfl rfl (Nat.le_of_ble_eq_true rfl) (congrArg _ ci_1) (fun _ => rfl) hh (fun x7 hh => ?_)
      refine J_goto (pc := 191) 9 dX6_readAll_191 (by decide) ?_
      obtain rfl := Option.some.inj hh
      exact hk
    · replace hh := (if_pos c9).symm.trans hh
      refine J_iconst (pc := 178) dX6_readAll_178 ci_m1 ?_
      refine J_aload_n (pc := 179) dX6_readAll_179 rfl ?_
      refine J_getR (pc := 180) (k := 3) flX6_33 so0 fk0_3 dX6_readAll_180 ?_
      obtain ⟨y8, hy8, hh⟩ := bd_some hh
      refine J_callVi (pc := 183) (M' := MX5_place) (a := 12) (rest := [.int (-1 : Int32)]) (As := []) (L0 := [some (.ref 12)]) okX5_place ovX5_place mlX6_320 clX5 so12 rfl rfl (Nat.le_of_ble_eq_true rfl) dX6_readAll_183 rfl (Nat.le_of_ble_eq_true rfl) (jX5_place (X := X) (d + 7) y6.2 hy8) ?_
      refine J_isub (pc := 186) dX6_readAll_186 ?_
      obtain rfl := Option.some.inj hh
      obtain ⟨rfl, rfl⟩ := hk
      exact J_ret (w := some (.int ((-1 : Int32) - y8))) ⟨dX6_readAll_187, _, rfl, rfl⟩
  · replace hh := (if_neg c10).symm.trans hh
    refine J_iload_n (pc := 166) dX6_readAll_166 rfl ?_
    obtain rfl := Option.some.inj hh
    obtain ⟨rfl, rfl⟩ := hk
    exact J_ret (w := some (.int v1)) ⟨dX6_readAll_167, _, rfl, rfl⟩
def gX6_readAll_36 (s : Mem) (v1 : Int32) (k0 : Int32) : Option (((Int32 × Mem) ⊕ Mem) ⊕ (Int32 × Mem)) :=
  (fX5_readItem s k0).bind (fun y3 => if y3.1 = (0 : Int32) then (fX5_place y3.2).bind (fun y15 => some (Sum.inl (Sum.inl (((-1 : Int32) - y15, y3.2))))) else if (y3.2.1 12 6) < (0 : Int32) then (fX0_opens y3.2 (y3.2.1 12 9) (y3.2.1 12 8) (y3.2.1 12 10) (y3.2.1 12 11) (y3.2.1 12 12) (y3.2.1 12 13)).bind (fun y4 => if y4.1 = (0 : Int32) then (fX5_lastPlace y4.2).bind (fun y11 => some (Sum.inl (Sum.inl (((-1 : Int32) - y11, y4.2))))) else gX6_readAll_156 y4.2 v1) else (fX0_comes y3.2 (y3.2.1 12 6) (y3.2.1 12 11) (y3.2.1 12 7)).bind (fun y13 => gX6_readAll_156 y13.2 v1))
set_option maxRecDepth 4000 in
theorem jgX6_readAll_36 {X : Scr} (d : Nat) (s : Mem) (v1 : Int32) (k0 : Int32) {r : (((Int32 × Mem) ⊕ Mem) ⊕ (Int32 × Mem))} {w : Option Value} {s' : Mem} (hh : gX6_readAll_36 s v1 k0 = some r) (hk : Sum.elim (Sum.elim (fun q : (Int32 × Mem) => w = some (.int q.1) ∧ q.2 = s') (fun t : Mem => J X MX6_readAll (d + 8) 194 [some (.ref 0), none] [] t w s')) (fun a : (Int32 × Mem) => J X MX6_readAll (d + 8) 9 [some (.ref 0), some (.int a.1)] [] a.2 w s') r) : J X MX6_readAll (d + 8) 36 [some (.ref 0), some (.int v1)] [.int k0, .ref 12] s w s' := by
  unfold gX6_readAll_36 at hh
  obtain ⟨y3, hy3, hh⟩ := bd_some hh
  refine J_callVi (pc := 36) (M' := MX5_readItem) (a := 12) (rest := []) (As := [.int k0]) (L0 := [some (.ref 12), some (.int k0), none]) okX5_readItem ovX5_readItem mlX6_316 clX5 so12 rfl rfl (Nat.le_of_ble_eq_true rfl) dX6_readAll_36 rfl (Nat.le_of_ble_eq_true rfl) (jX5_readItem (X := X) d s k0 hy3) ?_
  refine J_if_ne (pc := 39) 52 dX6_readAll_39 (by decide) (fun c16 => ?_) (fun c16 => ?_)
  · replace hh := (if_neg c16).symm.trans hh
    refine J_aload_n (pc := 52) dX6_readAll_52 rfl ?_
    refine J_getR (pc := 53) (k := 3) flX6_33 so0 fk0_3 dX6_readAll_53 ?_
    refine J_getN (pc := 56) (k := 6) fnX6_323 so12 fk12_6 dX6_readAll_56 ?_
    refine J_if_lt (pc := 59) 94 dX6_readAll_59 (by decide) (fun c14 => ?_) (fun c14 => ?_)
    · replace hh := (if_pos c14).symm.trans hh
      refine J_aload_n (pc := 94) dX6_readAll_94 rfl ?_
      refine J_getR (pc := 95) (k := 0) flX6_10 so0 fk0_0 dX6_readAll_95 ?_
      refine J_aload_n (pc := 98) dX6_readAll_98 rfl ?_
      refine J_getR (pc := 99) (k := 3) flX6_33 so0 fk0_3 dX6_readAll_99 ?_
      refine J_getN (pc := 102) (k := 9) fnX6_331 so12 fk12_9 dX6_readAll_102 ?_
      refine J_aload_n (pc := 105) dX6_readAll_105 rfl ?_
      refine J_getR (pc := 106) (k := 3) flX6_33 so0 fk0_3 dX6_readAll_106 ?_
      refine J_getN (pc := 109) (k := 8) fnX6_334 so12 fk12_8 dX6_readAll_109 ?_
      refine J_aload_n (pc := 112) dX6_readAll_112 rfl ?_
      refine J_getR (pc := 113) (k := 3) flX6_33 so0 fk0_3 dX6_readAll_113 ?_
      refine J_getN (pc := 116) (k := 10) fnX6_337 so12 fk12_10 dX6_readAll_116 ?_
      refine J_aload_n (pc := 119) dX6_readAll_119 rfl ?_
      refine J_getR (pc := 120) (k := 3) flX6_33 so0 fk0_3 dX6_readAll_120 ?_
      refine J_getN (pc := 123) (k := 11) fnX6_326 so12 fk12_11 dX6_readAll_123 ?_
      refine J_aload_n (pc := 126) dX6_readAll_126 rfl ?_
      refine J_getR (pc := 127) (k := 3) flX6_33 so0 fk0_3 dX6_readAll_127 ?_
      refine J_getN (pc := 130) (k := 12) fnX6_340 so12 fk12_12 dX6_readAll_130 ?_
      refine J_aload_n (pc := 133) dX6_readAll_133 rfl ?_
      refine J_getR (pc := 134) (k := 3) flX6_33 so0 fk0_3 dX6_readAll_134 ?_
      refine J_getN (pc := 137) (k := 13) fnX6_343 so12 fk12_13 dX6_readAll_137 ?_
      obtain ⟨y4, hy4, hh⟩ := bd_some hh
      refine J_callVi (pc := 140) (M' := MX0_opens) (a := 1) (rest := []) (As := [.int (y3.2.1 12 9), .int (y3.2.1 12 8), .int (y3.2.1 12 10), .int (y3.2.1 12 11), .int (y3.2.1 12 12), .int (y3.2.1 12 13)]) (L0 := [some (.ref 1), some (.int (y3.2.1 12 9)), some (.int (y3.2.1 12 8)), some (.int (y3.2.1 12 10)), some (.int (y3.2.1 12 11)), some (.int (y3.2.1 12 12)), some (.int (y3.2.1 12 13)), none]) okX0_opens ovX0_opens mlX6_76 clX0 so1 rfl rfl (Nat.le_of_ble_eq_true rfl) dX6_readAll_140 rfl (Nat.le_of_ble_eq_true rfl) (jX0_opens (X := X) (d + 3) y3.2 (y3.2.1 12 9) (y3.2.1 12 8) (y3.2.1 12 10) (y3.2.1 12 11) (y3.2.1 12 12) (y3.2.1 12 13) hy4) ?_
      refine J_if_ne (pc := 143) 156 dX6_readAll_143 (by decide) (fun c12 => ?_) (fun c12 => ?_)
      · replace hh := (if_neg c12).symm.trans hh
        exact jgX6_readAll_156 d y4.2 v1 hh hk
      · replace hh := (if_pos c12).symm.trans hh
        refine J_iconst (pc := 146) dX6_readAll_146 ci_m1 ?_
        refine J_aload_n (pc := 147) dX6_readAll_147 rfl ?_
        refine J_getR (pc := 148) (k := 3) flX6_33 so0 fk0_3 dX6_readAll_148 ?_
        obtain ⟨y11, hy11, hh⟩ := bd_some hh
        refine J_callVi (pc := 151) (M' := MX5_lastPlace) (a := 12) (rest := [.int (-1 : Int32)]) (As := []) (L0 := [some (.ref 12)]) okX5_lastPlace ovX5_lastPlace mlX6_346 clX5 so12 rfl rfl (Nat.le_of_ble_eq_true rfl) dX6_readAll_151 rfl (Nat.le_of_ble_eq_true rfl) (jX5_lastPlace (X := X) (d + 7) y4.2 hy11) ?_
        refine J_isub (pc := 154) dX6_readAll_154 ?_
        obtain rfl := Option.some.inj hh
        obtain ⟨rfl, rfl⟩ := hk
        exact J_ret (w := some (.int ((-1 : Int32) - y11))) ⟨dX6_readAll_155, _, rfl, rfl⟩
    · replace hh := (if_neg c14).symm.trans hh
      refine J_aload_n (pc := 62) dX6_readAll_62 rfl ?_
      refine J_getR (pc := 63) (k := 0) flX6_10 so0 fk0_0 dX6_readAll_63 ?_
      refine J_aload_n (pc := 66) dX6_readAll_66 rfl ?_
      refine J_getR (pc := 67) (k := 3) flX6_33 so0 fk0_3 dX6_readAll_67 ?_
      refine J_getN (pc := 70) (k := 6) fnX6_323 so12 fk12_6 dX6_readAll_70 ?_
      refine J_aload_n (pc := 73) dX6_readAll_73 rfl ?_
      refine J_getR (pc := 74) (k := 3) flX6_33 so0 fk0_3 dX6_readAll_74 ?_
      refine J_getN (pc := 77) (k := 11) fnX6_326 so12 fk12_11 dX6_readAll_77 ?_
      refine J_aload_n (pc := 80) dX6_readAll_80 rfl ?_
      refine J_getR (pc := 81) (k := 3) flX6_33 so0 fk0_3 dX6_readAll_81 ?_
      refine J_getN (pc := 84) (k := 7) fnX6_329 so12 fk12_7 dX6_readAll_84 ?_
      obtain ⟨y13, hy13, hh⟩ := bd_some hh
      refine J_callVi (pc := 87) (M' := MX0_comes) (a := 1) (rest := []) (As := [.int (y3.2.1 12 6), .int (y3.2.1 12 11), .int (y3.2.1 12 7)]) (L0 := [some (.ref 1), some (.int (y3.2.1 12 6)), some (.int (y3.2.1 12 11)), some (.int (y3.2.1 12 7)), none, none, none]) okX0_comes ovX0_comes mlX6_129 clX0 so1 rfl rfl (Nat.le_of_ble_eq_true rfl) dX6_readAll_87 rfl (Nat.le_of_ble_eq_true rfl) (jX0_comes (X := X) (d + 6) y3.2 (y3.2.1 12 6) (y3.2.1 12 11) (y3.2.1 12 7) hy13) ?_
      refine J_pop (pc := 90) dX6_readAll_90 rfl ?_
      refine J_goto (pc := 91) 156 dX6_readAll_91 (by decide) ?_
      exact jgX6_readAll_156 d y13.2 v1 hh hk
  · replace hh := (if_pos c16).symm.trans hh
    refine J_iconst (pc := 42) dX6_readAll_42 ci_m1 ?_
    refine J_aload_n (pc := 43) dX6_readAll_43 rfl ?_
    refine J_getR (pc := 44) (k := 3) flX6_33 so0 fk0_3 dX6_readAll_44 ?_
    obtain ⟨y15, hy15, hh⟩ := bd_some hh
    refine J_callVi (pc := 47) (M' := MX5_place) (a := 12) (rest := [.int (-1 : Int32)]) (As := []) (L0 := [some (.ref 12)]) okX5_place ovX5_place mlX6_320 clX5 so12 rfl rfl (Nat.le_of_ble_eq_true rfl) dX6_readAll_47 rfl (Nat.le_of_ble_eq_true rfl) (jX5_place (X := X) (d + 7) y3.2 hy15) ?_
    refine J_isub (pc := 50) dX6_readAll_50 ?_
    obtain rfl := Option.some.inj hh
    obtain ⟨rfl, rfl⟩ := hk
    exact J_ret (w := some (.int ((-1 : Int32) - y15))) ⟨dX6_readAll_51, _, rfl, rfl⟩
def bX6_readAll_9 (s : Mem) (v1 : Int32) : Option (((Int32 × Mem) ⊕ Mem) ⊕ (Int32 × Mem)) :=
  if (120 : Int32) < v1 then some (Sum.inl (Sum.inr s)) else (fX0_pupils s).bind (fun y2 => if y2 < (6 : Int32) then gX6_readAll_36 s v1 (0 : Int32) else gX6_readAll_36 s v1 (1 : Int32))
set_option maxRecDepth 4000 in
theorem jbX6_readAll_9 {X : Scr} (d : Nat) (s : Mem) (v1 : Int32) {r : (((Int32 × Mem) ⊕ Mem) ⊕ (Int32 × Mem))} {w : Option Value} {s' : Mem} (hh : bX6_readAll_9 s v1 = some r) (hk : Sum.elim (Sum.elim (fun q : (Int32 × Mem) => w = some (.int q.1) ∧ q.2 = s') (fun t : Mem => J X MX6_readAll (d + 8) 194 [some (.ref 0), none] [] t w s')) (fun a : (Int32 × Mem) => J X MX6_readAll (d + 8) 9 [some (.ref 0), some (.int a.1)] [] a.2 w s') r) : J X MX6_readAll (d + 8) 9 [some (.ref 0), some (.int v1)] [] s w s' := by
  unfold bX6_readAll_9 at hh
  refine J_iload_n (pc := 9) dX6_readAll_9 rfl ?_
  refine J_bipush (pc := 10) dX6_readAll_10 cb_120 ?_
  refine J_icmp_gt (pc := 12) 194 dX6_readAll_12 (by decide) (fun c18 => ?_) (fun c18 => ?_)
  · replace hh := (if_pos c18).symm.trans hh
    refine J_drop 1 (L' := [some (.ref 0), none]) rfl ?_
    obtain rfl := Option.some.inj hh
    exact hk
  · replace hh := (if_neg c18).symm.trans hh
    refine J_aload_n (pc := 15) dX6_readAll_15 rfl ?_
    refine J_getR (pc := 16) (k := 3) flX6_33 so0 fk0_3 dX6_readAll_16 ?_
    refine J_aload_n (pc := 19) dX6_readAll_19 rfl ?_
    refine J_getR (pc := 20) (k := 0) flX6_10 so0 fk0_0 dX6_readAll_20 ?_
    obtain ⟨y2, hy2, hh⟩ := bd_some hh
    refine J_callVi (pc := 23) (M' := MX0_pupils) (a := 1) (rest := [.ref 12]) (As := []) (L0 := [some (.ref 1)]) okX0_pupils ovX0_pupils mlX6_125 clX0 so1 rfl rfl (Nat.le_of_ble_eq_true rfl) dX6_readAll_23 rfl (Nat.le_of_ble_eq_true rfl) (jX0_pupils (X := X) (d + 7) s hy2) ?_
    refine J_bipush (pc := 26) dX6_readAll_26 cb_6 ?_
    refine J_icmp_lt (pc := 28) 35 dX6_readAll_28 (by decide) (fun c17 => ?_) (fun c17 => ?_)
    · replace hh := (if_pos c17).symm.trans hh
      refine J_iconst (pc := 35) dX6_readAll_35 ci_0 ?_
      exact jgX6_readAll_36 d s v1 (0 : Int32) hh hk
    · replace hh := (if_neg c17).symm.trans hh
      refine J_iconst (pc := 31) dX6_readAll_31 ci_1 ?_
      refine J_goto (pc := 32) 36 dX6_readAll_32 (by decide) ?_
      exact jgX6_readAll_36 d s v1 (1 : Int32) hh hk
def fX6_readAll (s : Mem)  : Option (Int32 × Mem) :=
  (fX5_rewind s).bind (fun y1 => (lp (fun a => bX6_readAll_9 a.2 a.1) 600 ((1 : Int32), y1)).bind (fun y19 => Sum.elim (fun q21 => some q21) (fun t20 => (fX5_place t20).bind (fun y22 => some (((-1 : Int32) - y22, t20)))) y19))
set_option maxRecDepth 4000 in
theorem jjX6_readAll {X : Scr} (d : Nat) (s : Mem)  {r : (Int32 × Mem)} {w : Option Value} {s' : Mem} (hh : fX6_readAll s = some r) (hk : w = some (.int r.1) ∧ r.2 = s') : J X MX6_readAll (d + 8) 0 [some (.ref 0), none] [] s w s' := by
  unfold fX6_readAll at hh
  refine J_aload_n (pc := 0) dX6_readAll_0 rfl ?_
  refine J_getR (pc := 1) (k := 3) flX6_33 so0 fk0_3 dX6_readAll_1 ?_
  obtain ⟨y1, hy1, hh⟩ := bd_some hh
  refine J_callV0 (pc := 4) (M' := MX5_rewind) (a := 12) (rest := []) (As := []) (L0 := [some (.ref 12)]) okX5_rewind ovX5_rewind mlX6_313 clX5 so12 rfl rfl (Nat.le_of_ble_eq_true rfl) dX6_readAll_4 rfl (Nat.le_of_ble_eq_true rfl) (jX5_rewind (X := X) (d + 6) s hy1) ?_
  refine J_iconst (pc := 7) dX6_readAll_7 ci_1 ?_
  refine J_istore_n (pc := 8) (L' := [some (.ref 0), some (.int (1 : Int32))]) dX6_readAll_8 rfl (Nat.le_of_ble_eq_true rfl) rfl ?_
  obtain ⟨y19, hy19, hh⟩ := bd_some hh
  refine J_lp (a := ((1 : Int32), y1)) (fun a : (Int32 × Mem) => J X MX6_readAll (d + 8) 9 [some (.ref 0), some (.int a.1)] [] a.2 w s') (Sum.elim (fun q : (Int32 × Mem) => w = some (.int q.1) ∧ q.2 = s') (fun t : Mem => J X MX6_readAll (d + 8) 194 [some (.ref 0), none] [] t w s')) (fun a q h1 h2 => jbX6_readAll_9 d a.2 a.1 h1 h2) hy19 ?_
  cases y19 with
  | inl q21 =>
    obtain rfl := Option.some.inj hh
    exact hk
  | inr t20 =>
    skip
    replace hh : ((fX5_place t20).bind (fun y22 => some (((-1 : Int32) - y22, t20)))) = some r := hh
    refine J_iconst (pc := 194) dX6_readAll_194 ci_m1 ?_
    refine J_aload_n (pc := 195) dX6_readAll_195 rfl ?_
    refine J_getR (pc := 196) (k := 3) flX6_33 so0 fk0_3 dX6_readAll_196 ?_
    obtain ⟨y22, hy22, hh⟩ := bd_some hh
    refine J_callVi (pc := 199) (M' := MX5_place) (a := 12) (rest := [.int (-1 : Int32)]) (As := []) (L0 := [some (.ref 12)]) okX5_place ovX5_place mlX6_320 clX5 so12 rfl rfl (Nat.le_of_ble_eq_true rfl) dX6_readAll_199 rfl (Nat.le_of_ble_eq_true rfl) (jX5_place (X := X) (d + 7) t20 hy22) ?_
    refine J_isub (pc := 202) dX6_readAll_202 ?_
    obtain rfl := Option.some.inj hh
    obtain ⟨rfl, rfl⟩ := hk
    exact J_ret (w := some (.int ((-1 : Int32) - y22))) ⟨dX6_readAll_203, _, rfl, rfl⟩
theorem jX6_readAll {X : Scr} (d : Nat) (s : Mem)  {r : (Int32 × Mem)} (hh : fX6_readAll s = some r) : J X MX6_readAll (d + 8) 0 [some (.ref 0), none] [] s (some (.int r.1)) r.2 := jjX6_readAll d s hh ⟨rfl, rfl⟩
theorem dX6_text_0 : decode cX6_text 0 = .ok (.aload_n 0, 1) := by decide +kernel
theorem dX6_text_1 : decode cX6_text 1 = .ok (.getfield 19, 3) := by decide +kernel
theorem dX6_text_4 : decode cX6_text 4 = .ok (.aload_n 0, 1) := by decide +kernel
theorem dX6_text_5 : decode cX6_text 5 = .ok (.getfield 10, 3) := by decide +kernel
theorem dX6_text_8 : decode cX6_text 8 = .ok (.invokevirtual 72, 3) := by decide +kernel
theorem dX6_text_11 : decode cX6_text 11 = .ok (.aload_n 0, 1) := by decide +kernel
theorem dX6_text_12 : decode cX6_text 12 = .ok (.invokevirtual 245, 3) := by decide +kernel
theorem dX6_text_15 : decode cX6_text 15 = .ok (.istore_n 1, 1) := by decide +kernel
theorem dX6_text_16 : decode cX6_text 16 = .ok (.aload_n 0, 1) := by decide +kernel
theorem dX6_text_17 : decode cX6_text 17 = .ok (.getfield 33, 3) := by decide +kernel
theorem dX6_text_20 : decode cX6_text 20 = .ok (.invokevirtual 242, 3) := by decide +kernel
theorem dX6_text_23 : decode cX6_text 23 = .ok (.pop, 1) := by decide +kernel
theorem dX6_text_24 : decode cX6_text 24 = .ok (.iload_n 1, 1) := by decide +kernel
theorem dX6_text_25 : decode cX6_text 25 = .ok (.ifCond .ge 17, 3) := by decide +kernel
theorem dX6_text_28 : decode cX6_text 28 = .ok (.aload_n 0, 1) := by decide +kernel
theorem dX6_text_29 : decode cX6_text 29 = .ok (.getfield 19, 3) := by decide +kernel
theorem dX6_text_32 : decode cX6_text 32 = .ok (.aload_n 0, 1) := by decide +kernel
theorem dX6_text_33 : decode cX6_text 33 = .ok (.getfield 10, 3) := by decide +kernel
theorem dX6_text_36 : decode cX6_text 36 = .ok (.invokevirtual 80, 3) := by decide +kernel
theorem dX6_text_39 : decode cX6_text 39 = .ok (.goto 10, 3) := by decide +kernel
theorem dX6_text_42 : decode cX6_text 42 = .ok (.aload_n 0, 1) := by decide +kernel
theorem dX6_text_43 : decode cX6_text 43 = .ok (.getfield 19, 3) := by decide +kernel
theorem dX6_text_46 : decode cX6_text 46 = .ok (.invokevirtual 83, 3) := by decide +kernel
theorem dX6_text_49 : decode cX6_text 49 = .ok (.iload_n 1, 1) := by decide +kernel
theorem dX6_text_50 : decode cX6_text 50 = .ok (.ireturn, 1) := by decide +kernel
def fX6_text (s : Mem)  : Option (Int32 × Mem) :=
  (fX2_mark s).bind (fun y1 => (fX6_readAll y1).bind (fun y2 => (fX5_empties y2.2).bind (fun y3 => if (0 : Int32) ≤ y2.1 then (fX2_keep y3.2).bind (fun y4 => some ((y2.1, y4))) else (fX2_bringBack y3.2).bind (fun y5 => some ((y2.1, y5))))))
set_option maxRecDepth 4000 in
theorem jjX6_text {X : Scr} (d : Nat) (s : Mem)  {r : (Int32 × Mem)} {w : Option Value} {s' : Mem} (hh : fX6_text s = some r) (hk : w = some (.int r.1) ∧ r.2 = s') : J X MX6_text (d + 9) 0 [some (.ref 0), none] [] s w s' := by
  unfold fX6_text at hh
  refine J_aload_n (pc := 0) dX6_text_0 rfl ?_
  refine J_getR (pc := 1) (k := 1) flX6_19 so0 fk0_1 dX6_text_1 ?_
  refine J_aload_n (pc := 4) dX6_text_4 rfl ?_
  refine J_getR (pc := 5) (k := 0) flX6_10 so0 fk0_0 dX6_text_5 ?_
  obtain ⟨y1, hy1, hh⟩ := bd_some hh
  refine J_callV0 (pc := 8) (M' := MX2_mark) (a := 3) (rest := []) (As := [.ref 1]) (L0 := [some (.ref 3), some (.ref 1)]) okX2_mark ovX2_mark mlX6_72 clX2 so3 rfl rfl (Nat.le_of_ble_eq_true rfl) dX6_text_8 rfl (Nat.le_of_ble_eq_true rfl) (jX2_mark (X := X) (d + 6) s hy1) ?_
  refine J_aload_n (pc := 11) dX6_text_11 rfl ?_
  obtain ⟨y2, hy2, hh⟩ := bd_some hh
  refine J_callVi (pc := 12) (M' := MX6_readAll) (a := 0) (rest := []) (As := []) (L0 := [some (.ref 0), none]) okX6_readAll ovX6_readAll mlX6_245 clX6 so0 rfl rfl (Nat.le_of_ble_eq_true rfl) dX6_text_12 rfl (Nat.le_of_ble_eq_true rfl) (jX6_readAll (X := X) d y1 hy2) ?_
  refine J_istore_n (pc := 15) (L' := [some (.ref 0), some (.int y2.1)]) dX6_text_15 rfl (Nat.le_of_ble_eq_true rfl) rfl ?_
  refine J_aload_n (pc := 16) dX6_text_16 rfl ?_
  refine J_getR (pc := 17) (k := 3) flX6_33 so0 fk0_3 dX6_text_17 ?_
  obtain ⟨y3, hy3, hh⟩ := bd_some hh
  refine J_callVi (pc := 20) (M' := MX5_empties) (a := 12) (rest := []) (As := []) (L0 := [some (.ref 12), none]) okX5_empties ovX5_empties mlX6_242 clX5 so12 rfl rfl (Nat.le_of_ble_eq_true rfl) dX6_text_20 rfl (Nat.le_of_ble_eq_true rfl) (jX5_empties (X := X) (d + 8) y2.2 hy3) ?_
  refine J_pop (pc := 23) dX6_text_23 rfl ?_
  refine J_iload_n (pc := 24) dX6_text_24 rfl ?_
  refine J_if_ge (pc := 25) 42 dX6_text_25 (by decide) (fun c6 => ?_) (fun c6 => ?_)
  · replace hh := (if_pos c6).symm.trans hh
    refine J_aload_n (pc := 42) dX6_text_42 rfl ?_
    refine J_getR (pc := 43) (k := 1) flX6_19 so0 fk0_1 dX6_text_43 ?_
    obtain ⟨y4, hy4, hh⟩ := bd_some hh
    refine J_callV0 (pc := 46) (M' := MX2_keep) (a := 3) (rest := []) (As := []) (L0 := [some (.ref 3)]) okX2_keep ovX2_keep mlX6_83 clX2 so3 rfl rfl (Nat.le_of_ble_eq_true rfl) dX6_text_46 rfl (Nat.le_of_ble_eq_true rfl) (jX2_keep (X := X) (d + 7) y3.2 hy4) ?_
    refine J_iload_n (pc := 49) dX6_text_49 rfl ?_
    obtain rfl := Option.some.inj hh
    obtain ⟨rfl, rfl⟩ := hk
    exact J_ret (w := some (.int y2.1)) ⟨dX6_text_50, _, rfl, rfl⟩
  · replace hh := (if_neg c6).symm.trans hh
    refine J_aload_n (pc := 28) dX6_text_28 rfl ?_
    refine J_getR (pc := 29) (k := 1) flX6_19 so0 fk0_1 dX6_text_29 ?_
    refine J_aload_n (pc := 32) dX6_text_32 rfl ?_
    refine J_getR (pc := 33) (k := 0) flX6_10 so0 fk0_0 dX6_text_33 ?_
    obtain ⟨y5, hy5, hh⟩ := bd_some hh
    refine J_callV0 (pc := 36) (M' := MX2_bringBack) (a := 3) (rest := []) (As := [.ref 1]) (L0 := [some (.ref 3), some (.ref 1)]) okX2_bringBack ovX2_bringBack mlX6_80 clX2 so3 rfl rfl (Nat.le_of_ble_eq_true rfl) dX6_text_36 rfl (Nat.le_of_ble_eq_true rfl) (jX2_bringBack (X := X) (d + 6) y3.2 hy5) ?_
    refine J_goto (pc := 39) 49 dX6_text_39 (by decide) ?_
    refine J_iload_n (pc := 49) dX6_text_49 rfl ?_
    obtain rfl := Option.some.inj hh
    obtain ⟨rfl, rfl⟩ := hk
    exact J_ret (w := some (.int y2.1)) ⟨dX6_text_50, _, rfl, rfl⟩
theorem jX6_text {X : Scr} (d : Nat) (s : Mem)  {r : (Int32 × Mem)} (hh : fX6_text s = some r) : J X MX6_text (d + 9) 0 [some (.ref 0), none] [] s (some (.int r.1)) r.2 := jjX6_text d s hh ⟨rfl, rfl⟩
theorem dX6_line_0 : decode cX6_line 0 = .ok (.aload_n 0, 1) := by decide +kernel
theorem dX6_line_1 : decode cX6_line 1 = .ok (.iload_n 1, 1) := by decide +kernel
theorem dX6_line_2 : decode cX6_line 2 = .ok (.invokevirtual 135, 3) := by decide +kernel
theorem dX6_line_5 : decode cX6_line 5 = .ok (.ifCond .ne 9, 3) := by decide +kernel
theorem dX6_line_8 : decode cX6_line 8 = .ok (.aload_n 0, 1) := by decide +kernel
theorem dX6_line_9 : decode cX6_line 9 = .ok (.iconst 0, 1) := by decide +kernel
theorem dX6_line_10 : decode cX6_line 10 = .ok (.invokevirtual 68, 3) := by decide +kernel
theorem dX6_line_13 : decode cX6_line 13 = .ok (.ireturn, 1) := by decide +kernel
theorem dX6_line_14 : decode cX6_line 14 = .ok (.aload_n 0, 1) := by decide +kernel
theorem dX6_line_15 : decode cX6_line 15 = .ok (.getfield 10, 3) := by decide +kernel
theorem dX6_line_18 : decode cX6_line 18 = .ok (.iload_n 1, 1) := by decide +kernel
theorem dX6_line_19 : decode cX6_line 19 = .ok (.iconst 0, 1) := by decide +kernel
theorem dX6_line_20 : decode cX6_line 20 = .ok (.invokevirtual 142, 3) := by decide +kernel
theorem dX6_line_23 : decode cX6_line 23 = .ok (.invokestatic 248, 3) := by decide +kernel
theorem dX6_line_26 : decode cX6_line 26 = .ok (.astore_n 3, 1) := by decide +kernel
theorem dX6_line_27 : decode cX6_line 27 = .ok (.aload_n 3, 1) := by decide +kernel
theorem dX6_line_28 : decode cX6_line 28 = .ok (.invokevirtual 252, 3) := by decide +kernel
theorem dX6_line_31 : decode cX6_line 31 = .ok (.iconst 5, 1) := by decide +kernel
theorem dX6_line_32 : decode cX6_line 32 = .ok (.aload_n 0, 1) := by decide +kernel
theorem dX6_line_33 : decode cX6_line 33 = .ok (.getfield 10, 3) := by decide +kernel
theorem dX6_line_36 : decode cX6_line 36 = .ok (.iload_n 1, 1) := by decide +kernel
theorem dX6_line_37 : decode cX6_line 37 = .ok (.invokevirtual 151, 3) := by decide +kernel
theorem dX6_line_40 : decode cX6_line 40 = .ok (.imul, 1) := by decide +kernel
theorem dX6_line_41 : decode cX6_line 41 = .ok (.iadd, 1) := by decide +kernel
theorem dX6_line_42 : decode cX6_line 42 = .ok (.istore 4, 2) := by decide +kernel
theorem dX6_line_44 : decode cX6_line 44 = .ok (.iload_n 2, 1) := by decide +kernel
theorem dX6_line_45 : decode cX6_line 45 = .ok (.iconst (-1), 1) := by decide +kernel
theorem dX6_line_46 : decode cX6_line 46 = .ok (.if_icmp .ne 6, 3) := by decide +kernel
theorem dX6_line_49 : decode cX6_line 49 = .ok (.iload 4, 2) := by decide +kernel
theorem dX6_line_51 : decode cX6_line 51 = .ok (.ireturn, 1) := by decide +kernel
theorem dX6_line_52 : decode cX6_line 52 = .ok (.iload_n 2, 1) := by decide +kernel
theorem dX6_line_53 : decode cX6_line 53 = .ok (.i2l, 1) := by decide +kernel
theorem dX6_line_54 : decode cX6_line 54 = .ok (.lconst 0, 1) := by decide +kernel
theorem dX6_line_55 : decode cX6_line 55 = .ok (.iload 4, 2) := by decide +kernel
theorem dX6_line_57 : decode cX6_line 57 = .ok (.iconst 1, 1) := by decide +kernel
theorem dX6_line_58 : decode cX6_line 58 = .ok (.isub, 1) := by decide +kernel
theorem dX6_line_59 : decode cX6_line 59 = .ok (.i2l, 1) := by decide +kernel
theorem dX6_line_60 : decode cX6_line 60 = .ok (.invokestatic 62, 3) := by decide +kernel
theorem dX6_line_63 : decode cX6_line 63 = .ok (.ifCond .ne 9, 3) := by decide +kernel
theorem dX6_line_66 : decode cX6_line 66 = .ok (.aload_n 0, 1) := by decide +kernel
theorem dX6_line_67 : decode cX6_line 67 = .ok (.iconst 3, 1) := by decide +kernel
theorem dX6_line_68 : decode cX6_line 68 = .ok (.invokevirtual 68, 3) := by decide +kernel
theorem dX6_line_71 : decode cX6_line 71 = .ok (.ireturn, 1) := by decide +kernel
theorem dX6_line_72 : decode cX6_line 72 = .ok (.iload_n 2, 1) := by decide +kernel
theorem dX6_line_73 : decode cX6_line 73 = .ok (.aload_n 3, 1) := by decide +kernel
theorem dX6_line_74 : decode cX6_line 74 = .ok (.invokevirtual 252, 3) := by decide +kernel
theorem dX6_line_77 : decode cX6_line 77 = .ok (.if_icmp .ge 9, 3) := by decide +kernel
theorem dX6_line_80 : decode cX6_line 80 = .ok (.aload_n 3, 1) := by decide +kernel
theorem dX6_line_81 : decode cX6_line 81 = .ok (.iload_n 2, 1) := by decide +kernel
theorem dX6_line_82 : decode cX6_line 82 = .ok (.invokevirtual 256, 3) := by decide +kernel
theorem dX6_line_85 : decode cX6_line 85 = .ok (.ireturn, 1) := by decide +kernel
theorem dX6_line_86 : decode cX6_line 86 = .ok (.aload_n 0, 1) := by decide +kernel
theorem dX6_line_87 : decode cX6_line 87 = .ok (.getfield 10, 3) := by decide +kernel
theorem dX6_line_90 : decode cX6_line 90 = .ok (.iload_n 1, 1) := by decide +kernel
theorem dX6_line_91 : decode cX6_line 91 = .ok (.iload_n 2, 1) := by decide +kernel
theorem dX6_line_92 : decode cX6_line 92 = .ok (.aload_n 3, 1) := by decide +kernel
theorem dX6_line_93 : decode cX6_line 93 = .ok (.invokevirtual 252, 3) := by decide +kernel
theorem dX6_line_96 : decode cX6_line 96 = .ok (.isub, 1) := by decide +kernel
theorem dX6_line_97 : decode cX6_line 97 = .ok (.iconst 5, 1) := by decide +kernel
theorem dX6_line_98 : decode cX6_line 98 = .ok (.idiv, 1) := by decide +kernel
theorem dX6_line_99 : decode cX6_line 99 = .ok (.iload_n 2, 1) := by decide +kernel
theorem dX6_line_100 : decode cX6_line 100 = .ok (.aload_n 3, 1) := by decide +kernel
theorem dX6_line_101 : decode cX6_line 101 = .ok (.invokevirtual 252, 3) := by decide +kernel
theorem dX6_line_104 : decode cX6_line 104 = .ok (.isub, 1) := by decide +kernel
theorem dX6_line_105 : decode cX6_line 105 = .ok (.iconst 5, 1) := by decide +kernel
theorem dX6_line_106 : decode cX6_line 106 = .ok (.irem, 1) := by decide +kernel
theorem dX6_line_107 : decode cX6_line 107 = .ok (.invokevirtual 260, 3) := by decide +kernel
theorem dX6_line_110 : decode cX6_line 110 = .ok (.ireturn, 1) := by decide +kernel
def fX6_line (s : Mem) (p0 : Int32) (p1 : Int32) : Option (Int32 × Mem) :=
  (fX6_isPupil s p0).bind (fun y1 => if y1 = (0 : Int32) then (fX6_finding s (0 : Int32)).bind (fun y22 => some ((y22.1, y22.2))) else (fX0_ofPupil s p0 (0 : Int32)).bind (fun y2 => (fX1_word y2).bind (fun y3 => (fT_length y3).bind (fun y4 => (fX0_sitsIn s p0).bind (fun y6 => lt (y4 + ((5 : Int32) * y6)) (fun x7 => if p1 = (-1 : Int32) then some ((x7, s)) else (fX6_within (p1.toInt64) (0 : Int64) ((x7 - (1 : Int32)).toInt64)).bind (fun y8 => if y8 = (0 : Int32) then (fX6_finding s (3 : Int32)).bind (fun y19 => some ((y19.1, y19.2))) else (fT_length y3).bind (fun y9 => if y9 ≤ p1 then (fT_length y3).bind (fun y11 => (fT_length y3).bind (fun y13 => (fX0_sign s p0 ((p1 - y11) / (5 : Int32)) ((p1 - y13) - (p1 - y13) / (5 : Int32) * (5 : Int32))).bind (fun y15 => some ((y15, s))))) else (fT_charAt y3 p1).bind (fun y16 => some ((y16, s)))))))))))
set_option maxRecDepth 4000 in
theorem jjX6_line {X : Scr} (d : Nat) (s : Mem) (p0 : Int32) (p1 : Int32) {r : (Int32 × Mem)} {w : Option Value} {s' : Mem} (hh : fX6_line s p0 p1 = some r) (hk : w = some (.int r.1) ∧ r.2 = s') : J X MX6_line (d + 5) 0 [some (.ref 0), some (.int p0), some (.int p1), none, none] [] s w s' := by
  unfold fX6_line at hh
  refine J_aload_n (pc := 0) dX6_line_0 rfl ?_
  refine J_iload_n (pc := 1) dX6_line_1 rfl ?_
  obtain ⟨y1, hy1, hh⟩ := bd_some hh
  refine J_callVi (pc := 2) (M' := MX6_isPupil) (a := 0) (rest := []) (As := [.int p0]) (L0 := [some (.ref 0), some (.int p0)]) okX6_isPupil ovX6_isPupil mlX6_135 clX6 so0 rfl rfl (Nat.le_of_ble_eq_true rfl) dX6_line_2 rfl (Nat.le_of_ble_eq_true rfl) (jX6_isPupil (X := X) (d + 3) s p0 hy1) ?_
  refine J_if_ne (pc := 5) 14 dX6_line_5 (by decide) (fun c23 => ?_) (fun c23 => ?_)
  · replace hh := (if_neg c23).symm.trans hh
    refine J_aload_n (pc := 14) dX6_line_14 rfl ?_
    refine J_getR (pc := 15) (k := 0) flX6_10 so0 fk0_0 dX6_line_15 ?_
    refine J_iload_n (pc := 18) dX6_line_18 rfl ?_
    refine J_iconst (pc := 19) dX6_line_19 ci_0 ?_
    obtain ⟨y2, hy2, hh⟩ := bd_some hh
    refine J_callVi (pc := 20) (M' := MX0_ofPupil) (a := 1) (rest := []) (As := [.int p0, .int (0 : Int32)]) (L0 := [some (.ref 1), some (.int p0), some (.int (0 : Int32))]) okX0_ofPupil ovX0_ofPupil mlX6_142 clX0 so1 rfl rfl (Nat.le_of_ble_eq_true rfl) dX6_line_20 rfl (Nat.le_of_ble_eq_true rfl) (jX0_ofPupil (X := X) (d + 4) s p0 (0 : Int32) hy2) ?_
    obtain ⟨y3, hy3, hh⟩ := bd_some hh
    refine J_callSi (pc := 23) (M' := MX1_word) (rest := []) (As := [.int y2]) (L0 := [some (.int y2)]) okX1_word osX1_word mlX6_248 rfl rfl (Nat.le_of_ble_eq_true rfl) dX6_line_23 rfl (Nat.le_of_ble_eq_true rfl) (jX1_word (X := X) (d + 4) s y2 hy3) ?_
    refine J_astore_n (pc := 26) (L' := [some (.ref 0), some (.int p0), some (.int p1), some (.ref (1000 + y3)), none]) dX6_line_26 rfl (Nat.le_of_ble_eq_true rfl) rfl ?_
    refine J_aload_n (pc := 27) dX6_line_27 rfl ?_
    obtain ⟨y4, hy4, hh⟩ := bd_some hh
    obtain ⟨b5, hb5, hy4⟩ := jT_length (X := X) (d + 3) s y3 hy4
    refine J_callTi (pc := 28) (M' := MJ0_length_8abf5) (rest := []) (As := []) okJ0_length_8abf5 ovJ0_length_8abf5 rfl mlX6_252 hb5 rfl rfl (Nat.le_of_ble_eq_true rfl) dX6_line_28 rfl (Nat.le_of_ble_eq_true rfl) hy4 ?_
    refine J_iconst (pc := 31) dX6_line_31 ci_5 ?_
    refine J_aload_n (pc := 32) dX6_line_32 rfl ?_
    refine J_getR (pc := 33) (k := 0) flX6_10 so0 fk0_0 dX6_line_33 ?_
    refine J_iload_n (pc := 36) dX6_line_36 rfl ?_
    obtain ⟨y6, hy6, hh⟩ := bd_some hh
    refine J_callVi (pc := 37) (M' := MX0_sitsIn) (a := 1) (rest := [.int (5 : Int32), .int y4]) (As := [.int p0]) (L0 := [some (.ref 1), some (.int p0), none, none]) okX0_sitsIn ovX0_sitsIn mlX6_151 clX0 so1 rfl rfl (Nat.le_of_ble_eq_true rfl) dX6_line_37 rfl (Nat.le_of_ble_eq_true rfl) (jX0_sitsIn (X := X) (d + 3) s p0 hy6) ?_
    refine J_imul (pc := 40) dX6_line_40 ?_
    refine J_iadd (pc := 41) dX6_line_41 ?_
    refine J_istoreL (pc := 42) (fun x7 => [some (.ref 0), some (.int p0), some (.int p1), some (.ref (1000 + y3)), some (.int x7)]) dX6_line_42 rfl (Nat.le_of_ble_eq_true rfl) (fun _ => rfl) hh (fun x7 hh => ?_)
    refine J_iload_n (pc := 44) dX6_line_44 rfl ?_
    refine J_iconst (pc := 45) dX6_line_45 ci_m1 ?_
    refine J_icmp_ne (pc := 46) 52 dX6_line_46 (by decide) (fun c21 => ?_) (fun c21 => ?_)
    · replace hh := (if_neg c21).symm.trans hh
      refine J_iload_n (pc := 52) dX6_line_52 rfl ?_
      refine J_i2l (pc := 53) dX6_line_53 ?_
      refine J_lconst (pc := 54) (v := 0) dX6_line_54 rfl ?_
      refine J_iload (pc := 55) dX6_line_55 rfl ?_
      refine J_iconst (pc := 57) dX6_line_57 ci_1 ?_
      refine J_isub (pc := 58) dX6_line_58 ?_
      refine J_i2l (pc := 59) dX6_line_59 ?_
      obtain ⟨y8, hy8, hh⟩ := bd_some hh
      refine J_callSi (pc := 60) (M' := MX6_within) (rest := []) (As := [.long (p1.toInt64), .long (0 : Int64), .long ((x7 - (1 : Int32)).toInt64)]) (L0 := [some (.long (p1.toInt64)), none, some (.long (0 : Int64)), none, some (.long ((x7 - (1 : Int32)).toInt64)), none]) okX6_within osX6_within mlX6_62 rfl rfl (Nat.le_of_ble_eq_true rfl) dX6_line_60 rfl (Nat.le_of_ble_eq_true rfl) (jX6_within (X := X) (d + 4) s (p1.toInt64) (0 : Int64) ((x7 - (1 : Int32)).toInt64) hy8) ?_
      refine J_if_ne (pc := 63) 72 dX6_line_63 (by decide) (fun c20 => ?_) (fun c20 => ?_)
      · replace hh := (if_neg c20).symm.trans hh
        refine J_iload_n (pc := 72) dX6_line_72 rfl ?_
        refine J_aload_n (pc := 73) dX6_line_73 rfl ?_
        obtain ⟨y9, hy9, hh⟩ := bd_some hh
        obtain ⟨b10, hb10, hy9⟩ := jT_length (X := X) (d + 3) s y3 hy9
        refine J_callTi (pc := 74) (M' := MJ0_length_8abf5) (rest := [.int p1]) (As := []) okJ0_length_8abf5 ovJ0_length_8abf5 rfl mlX6_252 hb10 rfl rfl (Nat.le_of_ble_eq_true rfl) dX6_line_74 rfl (Nat.le_of_ble_eq_true rfl) hy9 ?_
        refine J_icmp_ge (pc := 77) 86 dX6_line_77 (by decide) (fun c18 => ?_) (fun c18 => ?_)
        · replace hh := (if_pos c18).symm.trans hh
          refine J_aload_n (pc := 86) dX6_line_86 rfl ?_
          refine J_getR (pc := 87) (k := 0) flX6_10 so0 fk0_0 dX6_line_87 ?_
          refine J_iload_n (pc := 90) dX6_line_90 rfl ?_
          refine J_iload_n (pc := 91) dX6_line_91 rfl ?_
          refine J_aload_n (pc := 92) dX6_line_92 rfl ?_
          obtain ⟨y11, hy11, hh⟩ := bd_some hh
          obtain ⟨b12, hb12, hy11⟩ := jT_length (X := X) (d + 3) s y3 hy11
          refine J_callTi (pc := 93) (M' := MJ0_length_8abf5) (rest := [.int p1, .int p0, .ref 1]) (As := []) okJ0_length_8abf5 ovJ0_length_8abf5 rfl mlX6_252 hb12 rfl rfl (Nat.le_of_ble_eq_true rfl) dX6_line_93 rfl (Nat.le_of_ble_eq_true rfl) hy11 ?_
          refine J_isub (pc := 96) dX6_line_96 ?_
          refine J_iconst (pc := 97) dX6_line_97 ci_5 ?_
          refine J_idiv (pc := 98) dX6_line_98 (by decide) ?_
          refine J_iload_n (pc := 99) dX6_line_99 rfl ?_
          refine J_aload_n (pc := 100) dX6_line_100 rfl ?_
          obtain ⟨y13, hy13, hh⟩ := bd_some hh
          obtain ⟨b14, hb14, hy13⟩ := jT_length (X := X) (d + 3) s y3 hy13
          refine J_callTi (pc := 101) (M' := MJ0_length_8abf5) (rest := [.int p1, .int ((p1 - y11) / (5 : Int32)), .int p0, .ref 1]) (As := []) okJ0_length_8abf5 ovJ0_length_8abf5 rfl mlX6_252 hb14 rfl rfl (Nat.le_of_ble_eq_true rfl) dX6_line_101 rfl (Nat.le_of_ble_eq_true rfl) hy13 ?_
          refine J_isub (pc := 104) dX6_line_104 ?_
          refine J_iconst (pc := 105) dX6_line_105 ci_5 ?_
          refine J_irem (pc := 106) dX6_line_106 (by decide) ?_
          obtain ⟨y15, hy15, hh⟩ := bd_some hh
          refine J_callVi (pc := 107) (M' := MX0_sign) (a := 1) (rest := []) (As := [.int p0, .int ((p1 - y11) / (5 : Int32)), .int ((p1 - y13) - (p1 - y13) / (5 : Int32) * (5 : Int32))]) (L0 := [some (.ref 1), some (.int p0), some (.int ((p1 - y11) / (5 : Int32))), some (.int ((p1 - y13) - (p1 - y13) / (5 : Int32) * (5 : Int32))), none, none]) okX0_sign ovX0_sign mlX6_260 clX0 so1 rfl rfl (Nat.le_of_ble_eq_true rfl) dX6_line_107 rfl (Nat.le_of_ble_eq_true rfl) (jX0_sign (X := X) (d + 2) s p0 ((p1 - y11) / (5 : Int32)) ((p1 - y13) - (p1 - y13) / (5 : Int32) * (5 : Int32)) hy15) ?_
          obtain rfl := Option.some.inj hh
          obtain ⟨rfl, rfl⟩ := hk
          exact J_ret (w := some (.int y15)) ⟨dX6_line_110, _, rfl, rfl⟩
        · replace hh := (if_neg c18).symm.trans hh
          refine J_aload_n (pc := 80) dX6_line_80 rfl ?_
          refine J_iload_n (pc := 81) dX6_line_81 rfl ?_
          obtain ⟨y16, hy16, hh⟩ := bd_some hh
          obtain ⟨b17, hb17, hy16⟩ := jT_charAt (X := X) (d + 0) s y3 p1 hy16
          refine J_callTi (pc := 82) (M' := MJ0_charAt_5068e) (rest := []) (As := [.int p1]) okJ0_charAt_5068e ovJ0_charAt_5068e rfl mlX6_256 hb17 rfl rfl (Nat.le_of_ble_eq_true rfl) dX6_line_82 rfl (Nat.le_of_ble_eq_true rfl) hy16 ?_
          obtain rfl := Option.some.inj hh
          obtain ⟨rfl, rfl⟩ := hk
          exact J_ret (w := some (.int y16)) ⟨dX6_line_85, _, rfl, rfl⟩
      · replace hh := (if_pos c20).symm.trans hh
        refine J_aload_n (pc := 66) dX6_line_66 rfl ?_
        refine J_iconst (pc := 67) dX6_line_67 ci_3 ?_
        obtain ⟨y19, hy19, hh⟩ := bd_some hh
        refine J_callVi (pc := 68) (M' := MX6_finding) (a := 0) (rest := []) (As := [.int (3 : Int32)]) (L0 := [some (.ref 0), some (.int (3 : Int32))]) okX6_finding ovX6_finding mlX6_68 clX6 so0 rfl rfl (Nat.le_of_ble_eq_true rfl) dX6_line_68 rfl (Nat.le_of_ble_eq_true rfl) (jX6_finding (X := X) (d + 3) s (3 : Int32) hy19) ?_
        obtain rfl := Option.some.inj hh
        obtain ⟨rfl, rfl⟩ := hk
        exact J_ret (w := some (.int y19.1)) ⟨dX6_line_71, _, rfl, rfl⟩
    · replace hh := (if_pos c21).symm.trans hh
      refine J_iload (pc := 49) dX6_line_49 rfl ?_
      obtain rfl := Option.some.inj hh
      obtain ⟨rfl, rfl⟩ := hk
      exact J_ret (w := some (.int x7)) ⟨dX6_line_51, _, rfl, rfl⟩
  · replace hh := (if_pos c23).symm.trans hh
    refine J_aload_n (pc := 8) dX6_line_8 rfl ?_
    refine J_iconst (pc := 9) dX6_line_9 ci_0 ?_
    obtain ⟨y22, hy22, hh⟩ := bd_some hh
    refine J_callVi (pc := 10) (M' := MX6_finding) (a := 0) (rest := []) (As := [.int (0 : Int32)]) (L0 := [some (.ref 0), some (.int (0 : Int32))]) okX6_finding ovX6_finding mlX6_68 clX6 so0 rfl rfl (Nat.le_of_ble_eq_true rfl) dX6_line_10 rfl (Nat.le_of_ble_eq_true rfl) (jX6_finding (X := X) (d + 3) s (0 : Int32) hy22) ?_
    obtain rfl := Option.some.inj hh
    obtain ⟨rfl, rfl⟩ := hk
    exact J_ret (w := some (.int y22.1)) ⟨dX6_line_13, _, rfl, rfl⟩
theorem jX6_line {X : Scr} (d : Nat) (s : Mem) (p0 : Int32) (p1 : Int32) {r : (Int32 × Mem)} (hh : fX6_line s p0 p1 = some r) : J X MX6_line (d + 5) 0 [some (.ref 0), some (.int p0), some (.int p1), none, none] [] s (some (.int r.1)) r.2 := jjX6_line d s p0 p1 hh ⟨rfl, rfl⟩
theorem dX6_sheet_0 : decode cX6_sheet 0 = .ok (.aload_n 0, 1) := by decide +kernel
theorem dX6_sheet_1 : decode cX6_sheet 1 = .ok (.getfield 40, 3) := by decide +kernel
theorem dX6_sheet_4 : decode cX6_sheet 4 = .ok (.iload_n 1, 1) := by decide +kernel
theorem dX6_sheet_5 : decode cX6_sheet 5 = .ok (.invokevirtual 218, 3) := by decide +kernel
theorem dX6_sheet_8 : decode cX6_sheet 8 = .ok (.ifCond .eq 17, 3) := by decide +kernel
theorem dX6_sheet_11 : decode cX6_sheet 11 = .ok (.iload_n 2, 1) := by decide +kernel
theorem dX6_sheet_12 : decode cX6_sheet 12 = .ok (.i2l, 1) := by decide +kernel
theorem dX6_sheet_13 : decode cX6_sheet 13 = .ok (.ldc2_w 66, 3) := by decide +kernel
theorem dX6_sheet_16 : decode cX6_sheet 16 = .ok (.ldc2_w 263, 3) := by decide +kernel
theorem dX6_sheet_19 : decode cX6_sheet 19 = .ok (.invokestatic 62, 3) := by decide +kernel
theorem dX6_sheet_22 : decode cX6_sheet 22 = .ok (.ifCond .ne 9, 3) := by decide +kernel
theorem dX6_sheet_25 : decode cX6_sheet 25 = .ok (.aload_n 0, 1) := by decide +kernel
theorem dX6_sheet_26 : decode cX6_sheet 26 = .ok (.iconst 0, 1) := by decide +kernel
theorem dX6_sheet_27 : decode cX6_sheet 27 = .ok (.invokevirtual 68, 3) := by decide +kernel
theorem dX6_sheet_30 : decode cX6_sheet 30 = .ok (.ireturn, 1) := by decide +kernel
theorem dX6_sheet_31 : decode cX6_sheet 31 = .ok (.iload_n 2, 1) := by decide +kernel
theorem dX6_sheet_32 : decode cX6_sheet 32 = .ok (.iconst (-1), 1) := by decide +kernel
theorem dX6_sheet_33 : decode cX6_sheet 33 = .ok (.if_icmp .ne 14, 3) := by decide +kernel
theorem dX6_sheet_36 : decode cX6_sheet 36 = .ok (.aload_n 0, 1) := by decide +kernel
theorem dX6_sheet_37 : decode cX6_sheet 37 = .ok (.getfield 40, 3) := by decide +kernel
theorem dX6_sheet_40 : decode cX6_sheet 40 = .ok (.iload_n 1, 1) := by decide +kernel
theorem dX6_sheet_41 : decode cX6_sheet 41 = .ok (.iload_n 2, 1) := by decide +kernel
theorem dX6_sheet_42 : decode cX6_sheet 42 = .ok (.iconst 0, 1) := by decide +kernel
theorem dX6_sheet_43 : decode cX6_sheet 43 = .ok (.invokevirtual 265, 3) := by decide +kernel
theorem dX6_sheet_46 : decode cX6_sheet 46 = .ok (.ireturn, 1) := by decide +kernel
theorem dX6_sheet_47 : decode cX6_sheet 47 = .ok (.iload_n 3, 1) := by decide +kernel
theorem dX6_sheet_48 : decode cX6_sheet 48 = .ok (.ifCond .ge 10, 3) := by decide +kernel
theorem dX6_sheet_51 : decode cX6_sheet 51 = .ok (.aload_n 0, 1) := by decide +kernel
theorem dX6_sheet_52 : decode cX6_sheet 52 = .ok (.bipush 6, 2) := by decide +kernel
theorem dX6_sheet_54 : decode cX6_sheet 54 = .ok (.invokevirtual 68, 3) := by decide +kernel
theorem dX6_sheet_57 : decode cX6_sheet 57 = .ok (.ireturn, 1) := by decide +kernel
theorem dX6_sheet_58 : decode cX6_sheet 58 = .ok (.iload_n 3, 1) := by decide +kernel
theorem dX6_sheet_59 : decode cX6_sheet 59 = .ok (.bipush 40, 2) := by decide +kernel
theorem dX6_sheet_61 : decode cX6_sheet 61 = .ok (.if_icmp .le 9, 3) := by decide +kernel
theorem dX6_sheet_64 : decode cX6_sheet 64 = .ok (.aload_n 0, 1) := by decide +kernel
theorem dX6_sheet_65 : decode cX6_sheet 65 = .ok (.iconst 0, 1) := by decide +kernel
theorem dX6_sheet_66 : decode cX6_sheet 66 = .ok (.invokevirtual 68, 3) := by decide +kernel
theorem dX6_sheet_69 : decode cX6_sheet 69 = .ok (.ireturn, 1) := by decide +kernel
theorem dX6_sheet_70 : decode cX6_sheet 70 = .ok (.aload_n 0, 1) := by decide +kernel
theorem dX6_sheet_71 : decode cX6_sheet 71 = .ok (.getfield 40, 3) := by decide +kernel
theorem dX6_sheet_74 : decode cX6_sheet 74 = .ok (.iload_n 1, 1) := by decide +kernel
theorem dX6_sheet_75 : decode cX6_sheet 75 = .ok (.iload_n 2, 1) := by decide +kernel
theorem dX6_sheet_76 : decode cX6_sheet 76 = .ok (.iload_n 3, 1) := by decide +kernel
theorem dX6_sheet_77 : decode cX6_sheet 77 = .ok (.invokevirtual 265, 3) := by decide +kernel
theorem dX6_sheet_80 : decode cX6_sheet 80 = .ok (.ireturn, 1) := by decide +kernel
def gX6_sheet_25 (s : Mem)  : Option (Int32 × Mem) :=
  (fX6_finding s (0 : Int32)).bind (fun y2 => some ((y2.1, y2.2)))
set_option maxRecDepth 4000 in
theorem jgX6_sheet_25 {X : Scr} (d : Nat) (s : Mem)  {r : (Int32 × Mem)} {w : Option Value} {s' : Mem} (hh : gX6_sheet_25 s = some r) (hk : w = some (.int r.1) ∧ r.2 = s') : J X MX6_sheet (d + 2) 25 [some (.ref 0), none, none, none] [] s w s' := by
  unfold gX6_sheet_25 at hh
  refine J_aload_n (pc := 25) dX6_sheet_25 rfl ?_
  refine J_iconst (pc := 26) dX6_sheet_26 ci_0 ?_
  obtain ⟨y2, hy2, hh⟩ := bd_some hh
  refine J_callVi (pc := 27) (M' := MX6_finding) (a := 0) (rest := []) (As := [.int (0 : Int32)]) (L0 := [some (.ref 0), some (.int (0 : Int32))]) okX6_finding ovX6_finding mlX6_68 clX6 so0 rfl rfl (Nat.le_of_ble_eq_true rfl) dX6_sheet_27 rfl (Nat.le_of_ble_eq_true rfl) (jX6_finding (X := X) d s (0 : Int32) hy2) ?_
  obtain rfl := Option.some.inj hh
  obtain ⟨rfl, rfl⟩ := hk
  exact J_ret (w := some (.int y2.1)) ⟨dX6_sheet_30, _, rfl, rfl⟩
def fX6_sheet (s : Mem) (p0 : Int32) (p1 : Int32) (p2 : Int32) : Option (Int32 × Mem) :=
  (fX4_isOne s p0).bind (fun y1 => if y1 = (0 : Int32) then gX6_sheet_25 s else (fX6_within (p1.toInt64) (-1 : Int64) (2 : Int64)).bind (fun y3 => if y3 = (0 : Int32) then gX6_sheet_25 s else if p1 = (-1 : Int32) then (fX4_becomes s p0 p1 (0 : Int32)).bind (fun y9 => some ((y9.1, y9.2))) else if (0 : Int32) ≤ p2 then if p2 ≤ (40 : Int32) then (fX4_becomes s p0 p1 p2).bind (fun y4 => some ((y4.1, y4.2))) else (fX6_finding s (0 : Int32)).bind (fun y5 => some ((y5.1, y5.2))) else (fX6_finding s (6 : Int32)).bind (fun y7 => some ((y7.1, y7.2)))))
set_option maxRecDepth 4000 in
theorem jjX6_sheet {X : Scr} (d : Nat) (s : Mem) (p0 : Int32) (p1 : Int32) (p2 : Int32) {r : (Int32 × Mem)} {w : Option Value} {s' : Mem} (hh : fX6_sheet s p0 p1 p2 = some r) (hk : w = some (.int r.1) ∧ r.2 = s') : J X MX6_sheet (d + 2) 0 [some (.ref 0), some (.int p0), some (.int p1), some (.int p2)] [] s w s' := by
  unfold fX6_sheet at hh
  refine J_aload_n (pc := 0) dX6_sheet_0 rfl ?_
  refine J_getR (pc := 1) (k := 4) flX6_40 so0 fk0_4 dX6_sheet_1 ?_
  refine J_iload_n (pc := 4) dX6_sheet_4 rfl ?_
  obtain ⟨y1, hy1, hh⟩ := bd_some hh
  refine J_callVi (pc := 5) (M' := MX4_isOne) (a := 14) (rest := []) (As := [.int p0]) (L0 := [some (.ref 14), some (.int p0)]) okX4_isOne ovX4_isOne mlX6_218 clX4 so14 rfl rfl (Nat.le_of_ble_eq_true rfl) dX6_sheet_5 rfl (Nat.le_of_ble_eq_true rfl) (jX4_isOne (X := X) (d + 1) s p0 hy1) ?_
  refine J_if_eq (pc := 8) 25 dX6_sheet_8 (by decide) (fun c12 => ?_) (fun c12 => ?_)
  · replace hh := (if_pos c12).symm.trans hh
    refine J_drop 1 (L' := [some (.ref 0), none, some (.int p1), some (.int p2)]) rfl ?_
    refine J_drop 2 (L' := [some (.ref 0), none, none, some (.int p2)]) rfl ?_
    refine J_drop 3 (L' := [some (.ref 0), none, none, none]) rfl ?_
    exact jgX6_sheet_25 d s hh hk
  · replace hh := (if_neg c12).symm.trans hh
    refine J_iload_n (pc := 11) dX6_sheet_11 rfl ?_
    refine J_i2l (pc := 12) dX6_sheet_12 ?_
    refine J_ldc2 (pc := 13) klX6_66 dX6_sheet_13 ?_
    refine J_ldc2 (pc := 16) klX6_263 dX6_sheet_16 ?_
    obtain ⟨y3, hy3, hh⟩ := bd_some hh
    refine J_callSi (pc := 19) (M' := MX6_within) (rest := []) (As := [.long (p1.toInt64), .long (-1 : Int64), .long (2 : Int64)]) (L0 := [some (.long (p1.toInt64)), none, some (.long (-1 : Int64)), none, some (.long (2 : Int64)), none]) okX6_within osX6_within mlX6_62 rfl rfl (Nat.le_of_ble_eq_true rfl) dX6_sheet_19 rfl (Nat.le_of_ble_eq_true rfl) (jX6_within (X := X) (d + 1) s (p1.toInt64) (-1 : Int64) (2 : Int64) hy3) ?_
    refine J_if_ne (pc := 22) 31 dX6_sheet_22 (by decide) (fun c11 => ?_) (fun c11 => ?_)
    · replace hh := (if_neg c11).symm.trans hh
      refine J_iload_n (pc := 31) dX6_sheet_31 rfl ?_
      refine J_iconst (pc := 32) dX6_sheet_32 ci_m1 ?_
      refine J_icmp_ne (pc := 33) 47 dX6_sheet_33 (by decide) (fun c10 => ?_) (fun c10 => ?_)
      · replace hh := (if_neg c10).symm.trans hh
        refine J_iload_n (pc := 47) dX6_sheet_47 rfl ?_
        refine J_if_ge (pc := 48) 58 dX6_sheet_48 (by decide) (fun c8 => ?_) (fun c8 => ?_)
        · replace hh := (if_pos c8).symm.trans hh
          refine J_iload_n (pc := 58) dX6_sheet_58 rfl ?_
          refine J_bipush (pc := 59) dX6_sheet_59 cb_40 ?_
          refine J_icmp_le (pc := 61) 70 dX6_sheet_61 (by decide) (fun c6 => ?_) (fun c6 => ?_)
          · replace hh := (if_pos c6).symm.trans hh
            refine J_aload_n (pc := 70) dX6_sheet_70 rfl ?_
            refine J_getR (pc := 71) (k := 4) flX6_40 so0 fk0_4 dX6_sheet_71 ?_
            refine J_iload_n (pc := 74) dX6_sheet_74 rfl ?_
            refine J_iload_n (pc := 75) dX6_sheet_75 rfl ?_
            refine J_iload_n (pc := 76) dX6_sheet_76 rfl ?_
            obtain ⟨y4, hy4, hh⟩ := bd_some hh
            refine J_callVi (pc := 77) (M' := MX4_becomes) (a := 14) (rest := []) (As := [.int p0, .int p1, .int p2]) (L0 := [some (.ref 14), some (.int p0), some (.int p1), some (.int p2), none]) okX4_becomes ovX4_becomes mlX6_265 clX4 so14 rfl rfl (Nat.le_of_ble_eq_true rfl) dX6_sheet_77 rfl (Nat.le_of_ble_eq_true rfl) (jX4_becomes (X := X) (d + 1) s p0 p1 p2 hy4) ?_
            obtain rfl := Option.some.inj hh
            obtain ⟨rfl, rfl⟩ := hk
            exact J_ret (w := some (.int y4.1)) ⟨dX6_sheet_80, _, rfl, rfl⟩
          · replace hh := (if_neg c6).symm.trans hh
            refine J_aload_n (pc := 64) dX6_sheet_64 rfl ?_
            refine J_iconst (pc := 65) dX6_sheet_65 ci_0 ?_
            obtain ⟨y5, hy5, hh⟩ := bd_some hh
            refine J_callVi (pc := 66) (M' := MX6_finding) (a := 0) (rest := []) (As := [.int (0 : Int32)]) (L0 := [some (.ref 0), some (.int (0 : Int32))]) okX6_finding ovX6_finding mlX6_68 clX6 so0 rfl rfl (Nat.le_of_ble_eq_true rfl) dX6_sheet_66 rfl (Nat.le_of_ble_eq_true rfl) (jX6_finding (X := X) d s (0 : Int32) hy5) ?_
            obtain rfl := Option.some.inj hh
            obtain ⟨rfl, rfl⟩ := hk
            exact J_ret (w := some (.int y5.1)) ⟨dX6_sheet_69, _, rfl, rfl⟩
        · replace hh := (if_neg c8).symm.trans hh
          refine J_aload_n (pc := 51) dX6_sheet_51 rfl ?_
          refine J_bipush (pc := 52) dX6_sheet_52 cb_6 ?_
          obtain ⟨y7, hy7, hh⟩ := bd_some hh
          refine J_callVi (pc := 54) (M' := MX6_finding) (a := 0) (rest := []) (As := [.int (6 : Int32)]) (L0 := [some (.ref 0), some (.int (6 : Int32))]) okX6_finding ovX6_finding mlX6_68 clX6 so0 rfl rfl (Nat.le_of_ble_eq_true rfl) dX6_sheet_54 rfl (Nat.le_of_ble_eq_true rfl) (jX6_finding (X := X) d s (6 : Int32) hy7) ?_
          obtain rfl := Option.some.inj hh
          obtain ⟨rfl, rfl⟩ := hk
          exact J_ret (w := some (.int y7.1)) ⟨dX6_sheet_57, _, rfl, rfl⟩
      · replace hh := (if_pos c10).symm.trans hh
        refine J_aload_n (pc := 36) dX6_sheet_36 rfl ?_
        refine J_getR (pc := 37) (k := 4) flX6_40 so0 fk0_4 dX6_sheet_37 ?_
        refine J_iload_n (pc := 40) dX6_sheet_40 rfl ?_
        refine J_iload_n (pc := 41) dX6_sheet_41 rfl ?_
        refine J_iconst (pc := 42) dX6_sheet_42 ci_0 ?_
        obtain ⟨y9, hy9, hh⟩ := bd_some hh
        refine J_callVi (pc := 43) (M' := MX4_becomes) (a := 14) (rest := []) (As := [.int p0, .int p1, .int (0 : Int32)]) (L0 := [some (.ref 14), some (.int p0), some (.int p1), some (.int (0 : Int32)), none]) okX4_becomes ovX4_becomes mlX6_265 clX4 so14 rfl rfl (Nat.le_of_ble_eq_true rfl) dX6_sheet_43 rfl (Nat.le_of_ble_eq_true rfl) (jX4_becomes (X := X) (d + 1) s p0 p1 (0 : Int32) hy9) ?_
        obtain rfl := Option.some.inj hh
        obtain ⟨rfl, rfl⟩ := hk
        exact J_ret (w := some (.int y9.1)) ⟨dX6_sheet_46, _, rfl, rfl⟩
    · replace hh := (if_pos c11).symm.trans hh
      refine J_drop 1 (L' := [some (.ref 0), none, some (.int p1), some (.int p2)]) rfl ?_
      refine J_drop 2 (L' := [some (.ref 0), none, none, some (.int p2)]) rfl ?_
      refine J_drop 3 (L' := [some (.ref 0), none, none, none]) rfl ?_
      exact jgX6_sheet_25 d s hh hk
theorem jX6_sheet {X : Scr} (d : Nat) (s : Mem) (p0 : Int32) (p1 : Int32) (p2 : Int32) {r : (Int32 × Mem)} (hh : fX6_sheet s p0 p1 p2 = some r) : J X MX6_sheet (d + 2) 0 [some (.ref 0), some (.int p0), some (.int p1), some (.int p2)] [] s (some (.int r.1)) r.2 := jjX6_sheet d s p0 p1 p2 hh ⟨rfl, rfl⟩
theorem dX6_write_0 : decode cX6_write 0 = .ok (.aload_n 0, 1) := by decide +kernel
theorem dX6_write_1 : decode cX6_write 1 = .ok (.getfield 40, 3) := by decide +kernel
theorem dX6_write_4 : decode cX6_write 4 = .ok (.iload_n 1, 1) := by decide +kernel
theorem dX6_write_5 : decode cX6_write 5 = .ok (.invokevirtual 218, 3) := by decide +kernel
theorem dX6_write_8 : decode cX6_write 8 = .ok (.ifCond .ne 9, 3) := by decide +kernel
theorem dX6_write_11 : decode cX6_write 11 = .ok (.aload_n 0, 1) := by decide +kernel
theorem dX6_write_12 : decode cX6_write 12 = .ok (.iconst 0, 1) := by decide +kernel
theorem dX6_write_13 : decode cX6_write 13 = .ok (.invokevirtual 68, 3) := by decide +kernel
theorem dX6_write_16 : decode cX6_write 16 = .ok (.ireturn, 1) := by decide +kernel
theorem dX6_write_17 : decode cX6_write 17 = .ok (.aload_n 0, 1) := by decide +kernel
theorem dX6_write_18 : decode cX6_write 18 = .ok (.getfield 40, 3) := by decide +kernel
theorem dX6_write_21 : decode cX6_write 21 = .ok (.iload_n 1, 1) := by decide +kernel
theorem dX6_write_22 : decode cX6_write 22 = .ok (.invokevirtual 221, 3) := by decide +kernel
theorem dX6_write_25 : decode cX6_write 25 = .ok (.ifCond .eq 9, 3) := by decide +kernel
theorem dX6_write_28 : decode cX6_write 28 = .ok (.aload_n 0, 1) := by decide +kernel
theorem dX6_write_29 : decode cX6_write 29 = .ok (.iconst 5, 1) := by decide +kernel
theorem dX6_write_30 : decode cX6_write 30 = .ok (.invokevirtual 68, 3) := by decide +kernel
theorem dX6_write_33 : decode cX6_write 33 = .ok (.ireturn, 1) := by decide +kernel
theorem dX6_write_34 : decode cX6_write 34 = .ok (.aload_n 0, 1) := by decide +kernel
theorem dX6_write_35 : decode cX6_write 35 = .ok (.getfield 40, 3) := by decide +kernel
theorem dX6_write_38 : decode cX6_write 38 = .ok (.iload_n 1, 1) := by decide +kernel
theorem dX6_write_39 : decode cX6_write 39 = .ok (.iload_n 2, 1) := by decide +kernel
theorem dX6_write_40 : decode cX6_write 40 = .ok (.invokevirtual 266, 3) := by decide +kernel
theorem dX6_write_43 : decode cX6_write 43 = .ok (.ifCond .ne 9, 3) := by decide +kernel
theorem dX6_write_46 : decode cX6_write 46 = .ok (.aload_n 0, 1) := by decide +kernel
theorem dX6_write_47 : decode cX6_write 47 = .ok (.iconst 0, 1) := by decide +kernel
theorem dX6_write_48 : decode cX6_write 48 = .ok (.invokevirtual 68, 3) := by decide +kernel
theorem dX6_write_51 : decode cX6_write 51 = .ok (.ireturn, 1) := by decide +kernel
theorem dX6_write_52 : decode cX6_write 52 = .ok (.aload_n 0, 1) := by decide +kernel
theorem dX6_write_53 : decode cX6_write 53 = .ok (.getfield 40, 3) := by decide +kernel
theorem dX6_write_56 : decode cX6_write 56 = .ok (.iload_n 1, 1) := by decide +kernel
theorem dX6_write_57 : decode cX6_write 57 = .ok (.iload_n 2, 1) := by decide +kernel
theorem dX6_write_58 : decode cX6_write 58 = .ok (.lload_n 3, 1) := by decide +kernel
theorem dX6_write_59 : decode cX6_write 59 = .ok (.invokevirtual 269, 3) := by decide +kernel
theorem dX6_write_62 : decode cX6_write 62 = .ok (.iconst 1, 1) := by decide +kernel
theorem dX6_write_63 : decode cX6_write 63 = .ok (.ireturn, 1) := by decide +kernel
def fX6_write (s : Mem) (p0 : Int32) (p1 : Int32) (p2 : Int64) : Option (Int32 × Mem) :=
  (fX4_isOne s p0).bind (fun y1 => if y1 = (0 : Int32) then (fX6_finding s (0 : Int32)).bind (fun y9 => some ((y9.1, y9.2))) else (fX4_isMissing s p0).bind (fun y2 => if y2 = (0 : Int32) then (fX4_has s p0 p1).bind (fun y3 => if y3 = (0 : Int32) then (fX6_finding s (0 : Int32)).bind (fun y5 => some ((y5.1, y5.2))) else (fX4_set s p0 p1 p2).bind (fun y4 => some (((1 : Int32), y4)))) else (fX6_finding s (5 : Int32)).bind (fun y7 => some ((y7.1, y7.2)))))
set_option maxRecDepth 4000 in
theorem jjX6_write {X : Scr} (d : Nat) (s : Mem) (p0 : Int32) (p1 : Int32) (p2 : Int64) {r : (Int32 × Mem)} {w : Option Value} {s' : Mem} (hh : fX6_write s p0 p1 p2 = some r) (hk : w = some (.int r.1) ∧ r.2 = s') : J X MX6_write (d + 2) 0 [some (.ref 0), some (.int p0), some (.int p1), some (.long p2), none] [] s w s' := by
  unfold fX6_write at hh
  refine J_aload_n (pc := 0) dX6_write_0 rfl ?_
  refine J_getR (pc := 1) (k := 4) flX6_40 so0 fk0_4 dX6_write_1 ?_
  refine J_iload_n (pc := 4) dX6_write_4 rfl ?_
  obtain ⟨y1, hy1, hh⟩ := bd_some hh
  refine J_callVi (pc := 5) (M' := MX4_isOne) (a := 14) (rest := []) (As := [.int p0]) (L0 := [some (.ref 14), some (.int p0)]) okX4_isOne ovX4_isOne mlX6_218 clX4 so14 rfl rfl (Nat.le_of_ble_eq_true rfl) dX6_write_5 rfl (Nat.le_of_ble_eq_true rfl) (jX4_isOne (X := X) (d + 1) s p0 hy1) ?_
  refine J_if_ne (pc := 8) 17 dX6_write_8 (by decide) (fun c10 => ?_) (fun c10 => ?_)
  · replace hh := (if_neg c10).symm.trans hh
    refine J_aload_n (pc := 17) dX6_write_17 rfl ?_
    refine J_getR (pc := 18) (k := 4) flX6_40 so0 fk0_4 dX6_write_18 ?_
    refine J_iload_n (pc := 21) dX6_write_21 rfl ?_
    obtain ⟨y2, hy2, hh⟩ := bd_some hh
    refine J_callVi (pc := 22) (M' := MX4_isMissing) (a := 14) (rest := []) (As := [.int p0]) (L0 := [some (.ref 14), some (.int p0)]) okX4_isMissing ovX4_isMissing mlX6_221 clX4 so14 rfl rfl (Nat.le_of_ble_eq_true rfl) dX6_write_22 rfl (Nat.le_of_ble_eq_true rfl) (jX4_isMissing (X := X) (d + 1) s p0 hy2) ?_
    refine J_if_eq (pc := 25) 34 dX6_write_25 (by decide) (fun c8 => ?_) (fun c8 => ?_)
    · replace hh := (if_pos c8).symm.trans hh
      refine J_aload_n (pc := 34) dX6_write_34 rfl ?_
      refine J_getR (pc := 35) (k := 4) flX6_40 so0 fk0_4 dX6_write_35 ?_
      refine J_iload_n (pc := 38) dX6_write_38 rfl ?_
      refine J_iload_n (pc := 39) dX6_write_39 rfl ?_
      obtain ⟨y3, hy3, hh⟩ := bd_some hh
      refine J_callVi (pc := 40) (M' := MX4_has) (a := 14) (rest := []) (As := [.int p0, .int p1]) (L0 := [some (.ref 14), some (.int p0), some (.int p1)]) okX4_has ovX4_has mlX6_266 clX4 so14 rfl rfl (Nat.le_of_ble_eq_true rfl) dX6_write_40 rfl (Nat.le_of_ble_eq_true rfl) (jX4_has (X := X) (d + 1) s p0 p1 hy3) ?_
      refine J_if_ne (pc := 43) 52 dX6_write_43 (by decide) (fun c6 => ?_) (fun c6 => ?_)
      · replace hh := (if_neg c6).symm.trans hh
        refine J_aload_n (pc := 52) dX6_write_52 rfl ?_
        refine J_getR (pc := 53) (k := 4) flX6_40 so0 fk0_4 dX6_write_53 ?_
        refine J_iload_n (pc := 56) dX6_write_56 rfl ?_
        refine J_iload_n (pc := 57) dX6_write_57 rfl ?_
        refine J_lload_n (pc := 58) dX6_write_58 rfl ?_
        obtain ⟨y4, hy4, hh⟩ := bd_some hh
        refine J_callV0 (pc := 59) (M' := MX4_set) (a := 14) (rest := []) (As := [.int p0, .int p1, .long p2]) (L0 := [some (.ref 14), some (.int p0), some (.int p1), some (.long p2), none, none, none]) okX4_set ovX4_set mlX6_269 clX4 so14 rfl rfl (Nat.le_of_ble_eq_true rfl) dX6_write_59 rfl (Nat.le_of_ble_eq_true rfl) (jX4_set (X := X) (d + 1) s p0 p1 p2 hy4) ?_
        refine J_iconst (pc := 62) dX6_write_62 ci_1 ?_
        obtain rfl := Option.some.inj hh
        obtain ⟨rfl, rfl⟩ := hk
        exact J_ret (w := some (.int (1 : Int32))) ⟨dX6_write_63, _, rfl, rfl⟩
      · replace hh := (if_pos c6).symm.trans hh
        refine J_aload_n (pc := 46) dX6_write_46 rfl ?_
        refine J_iconst (pc := 47) dX6_write_47 ci_0 ?_
        obtain ⟨y5, hy5, hh⟩ := bd_some hh
        refine J_callVi (pc := 48) (M' := MX6_finding) (a := 0) (rest := []) (As := [.int (0 : Int32)]) (L0 := [some (.ref 0), some (.int (0 : Int32))]) okX6_finding ovX6_finding mlX6_68 clX6 so0 rfl rfl (Nat.le_of_ble_eq_true rfl) dX6_write_48 rfl (Nat.le_of_ble_eq_true rfl) (jX6_finding (X := X) d s (0 : Int32) hy5) ?_
        obtain rfl := Option.some.inj hh
        obtain ⟨rfl, rfl⟩ := hk
        exact J_ret (w := some (.int y5.1)) ⟨dX6_write_51, _, rfl, rfl⟩
    · replace hh := (if_neg c8).symm.trans hh
      refine J_aload_n (pc := 28) dX6_write_28 rfl ?_
      refine J_iconst (pc := 29) dX6_write_29 ci_5 ?_
      obtain ⟨y7, hy7, hh⟩ := bd_some hh
      refine J_callVi (pc := 30) (M' := MX6_finding) (a := 0) (rest := []) (As := [.int (5 : Int32)]) (L0 := [some (.ref 0), some (.int (5 : Int32))]) okX6_finding ovX6_finding mlX6_68 clX6 so0 rfl rfl (Nat.le_of_ble_eq_true rfl) dX6_write_30 rfl (Nat.le_of_ble_eq_true rfl) (jX6_finding (X := X) d s (5 : Int32) hy7) ?_
      obtain rfl := Option.some.inj hh
      obtain ⟨rfl, rfl⟩ := hk
      exact J_ret (w := some (.int y7.1)) ⟨dX6_write_33, _, rfl, rfl⟩
  · replace hh := (if_pos c10).symm.trans hh
    refine J_aload_n (pc := 11) dX6_write_11 rfl ?_
    refine J_iconst (pc := 12) dX6_write_12 ci_0 ?_
    obtain ⟨y9, hy9, hh⟩ := bd_some hh
    refine J_callVi (pc := 13) (M' := MX6_finding) (a := 0) (rest := []) (As := [.int (0 : Int32)]) (L0 := [some (.ref 0), some (.int (0 : Int32))]) okX6_finding ovX6_finding mlX6_68 clX6 so0 rfl rfl (Nat.le_of_ble_eq_true rfl) dX6_write_13 rfl (Nat.le_of_ble_eq_true rfl) (jX6_finding (X := X) d s (0 : Int32) hy9) ?_
    obtain rfl := Option.some.inj hh
    obtain ⟨rfl, rfl⟩ := hk
    exact J_ret (w := some (.int y9.1)) ⟨dX6_write_16, _, rfl, rfl⟩
theorem jX6_write {X : Scr} (d : Nat) (s : Mem) (p0 : Int32) (p1 : Int32) (p2 : Int64) {r : (Int32 × Mem)} (hh : fX6_write s p0 p1 p2 = some r) : J X MX6_write (d + 2) 0 [some (.ref 0), some (.int p0), some (.int p1), some (.long p2), none] [] s (some (.int r.1)) r.2 := jjX6_write d s p0 p1 p2 hh ⟨rfl, rfl⟩
theorem dX6_item_0 : decode cX6_item 0 = .ok (.aload_n 0, 1) := by decide +kernel
theorem dX6_item_1 : decode cX6_item 1 = .ok (.getfield 40, 3) := by decide +kernel
theorem dX6_item_4 : decode cX6_item 4 = .ok (.iload_n 1, 1) := by decide +kernel
theorem dX6_item_5 : decode cX6_item 5 = .ok (.invokevirtual 218, 3) := by decide +kernel
theorem dX6_item_8 : decode cX6_item 8 = .ok (.ifCond .ne 9, 3) := by decide +kernel
theorem dX6_item_11 : decode cX6_item 11 = .ok (.aload_n 0, 1) := by decide +kernel
theorem dX6_item_12 : decode cX6_item 12 = .ok (.iconst 0, 1) := by decide +kernel
theorem dX6_item_13 : decode cX6_item 13 = .ok (.invokevirtual 211, 3) := by decide +kernel
theorem dX6_item_16 : decode cX6_item 16 = .ok (.lreturn, 1) := by decide +kernel
theorem dX6_item_17 : decode cX6_item 17 = .ok (.aload_n 0, 1) := by decide +kernel
theorem dX6_item_18 : decode cX6_item 18 = .ok (.getfield 40, 3) := by decide +kernel
theorem dX6_item_21 : decode cX6_item 21 = .ok (.iload_n 1, 1) := by decide +kernel
theorem dX6_item_22 : decode cX6_item 22 = .ok (.invokevirtual 221, 3) := by decide +kernel
theorem dX6_item_25 : decode cX6_item 25 = .ok (.ifCond .eq 9, 3) := by decide +kernel
theorem dX6_item_28 : decode cX6_item 28 = .ok (.aload_n 0, 1) := by decide +kernel
theorem dX6_item_29 : decode cX6_item 29 = .ok (.iconst 5, 1) := by decide +kernel
theorem dX6_item_30 : decode cX6_item 30 = .ok (.invokevirtual 211, 3) := by decide +kernel
theorem dX6_item_33 : decode cX6_item 33 = .ok (.lreturn, 1) := by decide +kernel
theorem dX6_item_34 : decode cX6_item 34 = .ok (.aload_n 0, 1) := by decide +kernel
theorem dX6_item_35 : decode cX6_item 35 = .ok (.getfield 40, 3) := by decide +kernel
theorem dX6_item_38 : decode cX6_item 38 = .ok (.iload_n 1, 1) := by decide +kernel
theorem dX6_item_39 : decode cX6_item 39 = .ok (.iload_n 2, 1) := by decide +kernel
theorem dX6_item_40 : decode cX6_item 40 = .ok (.invokevirtual 266, 3) := by decide +kernel
theorem dX6_item_43 : decode cX6_item 43 = .ok (.ifCond .ne 9, 3) := by decide +kernel
theorem dX6_item_46 : decode cX6_item 46 = .ok (.aload_n 0, 1) := by decide +kernel
theorem dX6_item_47 : decode cX6_item 47 = .ok (.iconst 0, 1) := by decide +kernel
theorem dX6_item_48 : decode cX6_item 48 = .ok (.invokevirtual 211, 3) := by decide +kernel
theorem dX6_item_51 : decode cX6_item 51 = .ok (.lreturn, 1) := by decide +kernel
theorem dX6_item_52 : decode cX6_item 52 = .ok (.aload_n 0, 1) := by decide +kernel
theorem dX6_item_53 : decode cX6_item 53 = .ok (.getfield 40, 3) := by decide +kernel
theorem dX6_item_56 : decode cX6_item 56 = .ok (.iload_n 1, 1) := by decide +kernel
theorem dX6_item_57 : decode cX6_item 57 = .ok (.iload_n 2, 1) := by decide +kernel
theorem dX6_item_58 : decode cX6_item 58 = .ok (.invokevirtual 227, 3) := by decide +kernel
theorem dX6_item_61 : decode cX6_item 61 = .ok (.lreturn, 1) := by decide +kernel
def fX6_item (s : Mem) (p0 : Int32) (p1 : Int32) : Option (Int64 × Mem) :=
  (fX4_isOne s p0).bind (fun y1 => if y1 = (0 : Int32) then (fX6_longFinding s (0 : Int32)).bind (fun y9 => some ((y9.1, y9.2))) else (fX4_isMissing s p0).bind (fun y2 => if y2 = (0 : Int32) then (fX4_has s p0 p1).bind (fun y3 => if y3 = (0 : Int32) then (fX6_longFinding s (0 : Int32)).bind (fun y5 => some ((y5.1, y5.2))) else (fX4_at s p0 p1).bind (fun y4 => some ((y4, s)))) else (fX6_longFinding s (5 : Int32)).bind (fun y7 => some ((y7.1, y7.2)))))
set_option maxRecDepth 4000 in
theorem jjX6_item {X : Scr} (d : Nat) (s : Mem) (p0 : Int32) (p1 : Int32) {r : (Int64 × Mem)} {w : Option Value} {s' : Mem} (hh : fX6_item s p0 p1 = some r) (hk : w = some (.long r.1) ∧ r.2 = s') : J X MX6_item (d + 3) 0 [some (.ref 0), some (.int p0), some (.int p1)] [] s w s' := by
  unfold fX6_item at hh
  refine J_aload_n (pc := 0) dX6_item_0 rfl ?_
  refine J_getR (pc := 1) (k := 4) flX6_40 so0 fk0_4 dX6_item_1 ?_
  refine J_iload_n (pc := 4) dX6_item_4 rfl ?_
  obtain ⟨y1, hy1, hh⟩ := bd_some hh
  refine J_callVi (pc := 5) (M' := MX4_isOne) (a := 14) (rest := []) (As := [.int p0]) (L0 := [some (.ref 14), some (.int p0)]) okX4_isOne ovX4_isOne mlX6_218 clX4 so14 rfl rfl (Nat.le_of_ble_eq_true rfl) dX6_item_5 rfl (Nat.le_of_ble_eq_true rfl) (jX4_isOne (X := X) (d + 2) s p0 hy1) ?_
  refine J_if_ne (pc := 8) 17 dX6_item_8 (by decide) (fun c10 => ?_) (fun c10 => ?_)
  · replace hh := (if_neg c10).symm.trans hh
    refine J_aload_n (pc := 17) dX6_item_17 rfl ?_
    refine J_getR (pc := 18) (k := 4) flX6_40 so0 fk0_4 dX6_item_18 ?_
    refine J_iload_n (pc := 21) dX6_item_21 rfl ?_
    obtain ⟨y2, hy2, hh⟩ := bd_some hh
    refine J_callVi (pc := 22) (M' := MX4_isMissing) (a := 14) (rest := []) (As := [.int p0]) (L0 := [some (.ref 14), some (.int p0)]) okX4_isMissing ovX4_isMissing mlX6_221 clX4 so14 rfl rfl (Nat.le_of_ble_eq_true rfl) dX6_item_22 rfl (Nat.le_of_ble_eq_true rfl) (jX4_isMissing (X := X) (d + 2) s p0 hy2) ?_
    refine J_if_eq (pc := 25) 34 dX6_item_25 (by decide) (fun c8 => ?_) (fun c8 => ?_)
    · replace hh := (if_pos c8).symm.trans hh
      refine J_aload_n (pc := 34) dX6_item_34 rfl ?_
      refine J_getR (pc := 35) (k := 4) flX6_40 so0 fk0_4 dX6_item_35 ?_
      refine J_iload_n (pc := 38) dX6_item_38 rfl ?_
      refine J_iload_n (pc := 39) dX6_item_39 rfl ?_
      obtain ⟨y3, hy3, hh⟩ := bd_some hh
      refine J_callVi (pc := 40) (M' := MX4_has) (a := 14) (rest := []) (As := [.int p0, .int p1]) (L0 := [some (.ref 14), some (.int p0), some (.int p1)]) okX4_has ovX4_has mlX6_266 clX4 so14 rfl rfl (Nat.le_of_ble_eq_true rfl) dX6_item_40 rfl (Nat.le_of_ble_eq_true rfl) (jX4_has (X := X) (d + 2) s p0 p1 hy3) ?_
      refine J_if_ne (pc := 43) 52 dX6_item_43 (by decide) (fun c6 => ?_) (fun c6 => ?_)
      · replace hh := (if_neg c6).symm.trans hh
        refine J_aload_n (pc := 52) dX6_item_52 rfl ?_
        refine J_getR (pc := 53) (k := 4) flX6_40 so0 fk0_4 dX6_item_53 ?_
        refine J_iload_n (pc := 56) dX6_item_56 rfl ?_
        refine J_iload_n (pc := 57) dX6_item_57 rfl ?_
        obtain ⟨y4, hy4, hh⟩ := bd_some hh
        refine J_callVi (pc := 58) (M' := MX4_at) (a := 14) (rest := []) (As := [.int p0, .int p1]) (L0 := [some (.ref 14), some (.int p0), some (.int p1)]) okX4_at ovX4_at mlX6_227 clX4 so14 rfl rfl (Nat.le_of_ble_eq_true rfl) dX6_item_58 rfl (Nat.le_of_ble_eq_true rfl) (jX4_at (X := X) (d + 2) s p0 p1 hy4) ?_
        obtain rfl := Option.some.inj hh
        obtain ⟨rfl, rfl⟩ := hk
        exact J_ret (w := some (.long y4)) ⟨dX6_item_61, rfl⟩
      · replace hh := (if_pos c6).symm.trans hh
        refine J_aload_n (pc := 46) dX6_item_46 rfl ?_
        refine J_iconst (pc := 47) dX6_item_47 ci_0 ?_
        obtain ⟨y5, hy5, hh⟩ := bd_some hh
        refine J_callVi (pc := 48) (M' := MX6_longFinding) (a := 0) (rest := []) (As := [.int (0 : Int32)]) (L0 := [some (.ref 0), some (.int (0 : Int32))]) okX6_longFinding ovX6_longFinding mlX6_211 clX6 so0 rfl rfl (Nat.le_of_ble_eq_true rfl) dX6_item_48 rfl (Nat.le_of_ble_eq_true rfl) (jX6_longFinding (X := X) d s (0 : Int32) hy5) ?_
        obtain rfl := Option.some.inj hh
        obtain ⟨rfl, rfl⟩ := hk
        exact J_ret (w := some (.long y5.1)) ⟨dX6_item_51, rfl⟩
    · replace hh := (if_neg c8).symm.trans hh
      refine J_aload_n (pc := 28) dX6_item_28 rfl ?_
      refine J_iconst (pc := 29) dX6_item_29 ci_5 ?_
      obtain ⟨y7, hy7, hh⟩ := bd_some hh
      refine J_callVi (pc := 30) (M' := MX6_longFinding) (a := 0) (rest := []) (As := [.int (5 : Int32)]) (L0 := [some (.ref 0), some (.int (5 : Int32))]) okX6_longFinding ovX6_longFinding mlX6_211 clX6 so0 rfl rfl (Nat.le_of_ble_eq_true rfl) dX6_item_30 rfl (Nat.le_of_ble_eq_true rfl) (jX6_longFinding (X := X) d s (5 : Int32) hy7) ?_
      obtain rfl := Option.some.inj hh
      obtain ⟨rfl, rfl⟩ := hk
      exact J_ret (w := some (.long y7.1)) ⟨dX6_item_33, rfl⟩
  · replace hh := (if_pos c10).symm.trans hh
    refine J_aload_n (pc := 11) dX6_item_11 rfl ?_
    refine J_iconst (pc := 12) dX6_item_12 ci_0 ?_
    obtain ⟨y9, hy9, hh⟩ := bd_some hh
    refine J_callVi (pc := 13) (M' := MX6_longFinding) (a := 0) (rest := []) (As := [.int (0 : Int32)]) (L0 := [some (.ref 0), some (.int (0 : Int32))]) okX6_longFinding ovX6_longFinding mlX6_211 clX6 so0 rfl rfl (Nat.le_of_ble_eq_true rfl) dX6_item_13 rfl (Nat.le_of_ble_eq_true rfl) (jX6_longFinding (X := X) d s (0 : Int32) hy9) ?_
    obtain rfl := Option.some.inj hh
    obtain ⟨rfl, rfl⟩ := hk
    exact J_ret (w := some (.long y9.1)) ⟨dX6_item_16, rfl⟩
theorem jX6_item {X : Scr} (d : Nat) (s : Mem) (p0 : Int32) (p1 : Int32) {r : (Int64 × Mem)} (hh : fX6_item s p0 p1 = some r) : J X MX6_item (d + 3) 0 [some (.ref 0), some (.int p0), some (.int p1)] [] s (some (.long r.1)) r.2 := jjX6_item d s p0 p1 hh ⟨rfl, rfl⟩
theorem dX6_copy_0 : decode cX6_copy 0 = .ok (.aload_n 0, 1) := by decide +kernel
theorem dX6_copy_1 : decode cX6_copy 1 = .ok (.getfield 40, 3) := by decide +kernel
theorem dX6_copy_4 : decode cX6_copy 4 = .ok (.iload_n 1, 1) := by decide +kernel
theorem dX6_copy_5 : decode cX6_copy 5 = .ok (.invokevirtual 218, 3) := by decide +kernel
theorem dX6_copy_8 : decode cX6_copy 8 = .ok (.ifCond .eq 14, 3) := by decide +kernel
theorem dX6_copy_11 : decode cX6_copy 11 = .ok (.aload_n 0, 1) := by decide +kernel
theorem dX6_copy_12 : decode cX6_copy 12 = .ok (.getfield 40, 3) := by decide +kernel
theorem dX6_copy_15 : decode cX6_copy 15 = .ok (.iload_n 3, 1) := by decide +kernel
theorem dX6_copy_16 : decode cX6_copy 16 = .ok (.invokevirtual 218, 3) := by decide +kernel
theorem dX6_copy_19 : decode cX6_copy 19 = .ok (.ifCond .ne 9, 3) := by decide +kernel
theorem dX6_copy_22 : decode cX6_copy 22 = .ok (.aload_n 0, 1) := by decide +kernel
theorem dX6_copy_23 : decode cX6_copy 23 = .ok (.iconst 0, 1) := by decide +kernel
theorem dX6_copy_24 : decode cX6_copy 24 = .ok (.invokevirtual 68, 3) := by decide +kernel
theorem dX6_copy_27 : decode cX6_copy 27 = .ok (.ireturn, 1) := by decide +kernel
theorem dX6_copy_28 : decode cX6_copy 28 = .ok (.aload_n 0, 1) := by decide +kernel
theorem dX6_copy_29 : decode cX6_copy 29 = .ok (.getfield 40, 3) := by decide +kernel
theorem dX6_copy_32 : decode cX6_copy 32 = .ok (.iload_n 1, 1) := by decide +kernel
theorem dX6_copy_33 : decode cX6_copy 33 = .ok (.invokevirtual 221, 3) := by decide +kernel
theorem dX6_copy_36 : decode cX6_copy 36 = .ok (.ifCond .ne 14, 3) := by decide +kernel
theorem dX6_copy_39 : decode cX6_copy 39 = .ok (.aload_n 0, 1) := by decide +kernel
theorem dX6_copy_40 : decode cX6_copy 40 = .ok (.getfield 40, 3) := by decide +kernel
theorem dX6_copy_43 : decode cX6_copy 43 = .ok (.iload_n 3, 1) := by decide +kernel
theorem dX6_copy_44 : decode cX6_copy 44 = .ok (.invokevirtual 221, 3) := by decide +kernel
theorem dX6_copy_47 : decode cX6_copy 47 = .ok (.ifCond .eq 9, 3) := by decide +kernel
theorem dX6_copy_50 : decode cX6_copy 50 = .ok (.aload_n 0, 1) := by decide +kernel
theorem dX6_copy_51 : decode cX6_copy 51 = .ok (.iconst 5, 1) := by decide +kernel
theorem dX6_copy_52 : decode cX6_copy 52 = .ok (.invokevirtual 68, 3) := by decide +kernel
theorem dX6_copy_55 : decode cX6_copy 55 = .ok (.ireturn, 1) := by decide +kernel
theorem dX6_copy_56 : decode cX6_copy 56 = .ok (.aload_n 0, 1) := by decide +kernel
theorem dX6_copy_57 : decode cX6_copy 57 = .ok (.getfield 40, 3) := by decide +kernel
theorem dX6_copy_60 : decode cX6_copy 60 = .ok (.iload_n 1, 1) := by decide +kernel
theorem dX6_copy_61 : decode cX6_copy 61 = .ok (.invokevirtual 273, 3) := by decide +kernel
theorem dX6_copy_64 : decode cX6_copy 64 = .ok (.aload_n 0, 1) := by decide +kernel
theorem dX6_copy_65 : decode cX6_copy 65 = .ok (.getfield 40, 3) := by decide +kernel
theorem dX6_copy_68 : decode cX6_copy 68 = .ok (.iload_n 3, 1) := by decide +kernel
theorem dX6_copy_69 : decode cX6_copy 69 = .ok (.invokevirtual 273, 3) := by decide +kernel
theorem dX6_copy_72 : decode cX6_copy 72 = .ok (.if_icmp .eq 9, 3) := by decide +kernel
theorem dX6_copy_75 : decode cX6_copy 75 = .ok (.aload_n 0, 1) := by decide +kernel
theorem dX6_copy_76 : decode cX6_copy 76 = .ok (.iconst 2, 1) := by decide +kernel
theorem dX6_copy_77 : decode cX6_copy 77 = .ok (.invokevirtual 68, 3) := by decide +kernel
theorem dX6_copy_80 : decode cX6_copy 80 = .ok (.ireturn, 1) := by decide +kernel
theorem dX6_copy_81 : decode cX6_copy 81 = .ok (.aload_n 0, 1) := by decide +kernel
theorem dX6_copy_82 : decode cX6_copy 82 = .ok (.getfield 40, 3) := by decide +kernel
theorem dX6_copy_85 : decode cX6_copy 85 = .ok (.iload_n 1, 1) := by decide +kernel
theorem dX6_copy_86 : decode cX6_copy 86 = .ok (.iload_n 2, 1) := by decide +kernel
theorem dX6_copy_87 : decode cX6_copy 87 = .ok (.iload 5, 2) := by decide +kernel
theorem dX6_copy_89 : decode cX6_copy 89 = .ok (.invokevirtual 276, 3) := by decide +kernel
theorem dX6_copy_92 : decode cX6_copy 92 = .ok (.ifCond .eq 18, 3) := by decide +kernel
theorem dX6_copy_95 : decode cX6_copy 95 = .ok (.aload_n 0, 1) := by decide +kernel
theorem dX6_copy_96 : decode cX6_copy 96 = .ok (.getfield 40, 3) := by decide +kernel
theorem dX6_copy_99 : decode cX6_copy 99 = .ok (.iload_n 3, 1) := by decide +kernel
theorem dX6_copy_100 : decode cX6_copy 100 = .ok (.iload 4, 2) := by decide +kernel
theorem dX6_copy_102 : decode cX6_copy 102 = .ok (.iload 5, 2) := by decide +kernel
theorem dX6_copy_104 : decode cX6_copy 104 = .ok (.invokevirtual 276, 3) := by decide +kernel
theorem dX6_copy_107 : decode cX6_copy 107 = .ok (.ifCond .ne 9, 3) := by decide +kernel
theorem dX6_copy_110 : decode cX6_copy 110 = .ok (.aload_n 0, 1) := by decide +kernel
theorem dX6_copy_111 : decode cX6_copy 111 = .ok (.iconst 0, 1) := by decide +kernel
theorem dX6_copy_112 : decode cX6_copy 112 = .ok (.invokevirtual 68, 3) := by decide +kernel
theorem dX6_copy_115 : decode cX6_copy 115 = .ok (.ireturn, 1) := by decide +kernel
theorem dX6_copy_116 : decode cX6_copy 116 = .ok (.aload_n 0, 1) := by decide +kernel
theorem dX6_copy_117 : decode cX6_copy 117 = .ok (.getfield 40, 3) := by decide +kernel
theorem dX6_copy_120 : decode cX6_copy 120 = .ok (.iload_n 1, 1) := by decide +kernel
theorem dX6_copy_121 : decode cX6_copy 121 = .ok (.iload_n 2, 1) := by decide +kernel
theorem dX6_copy_122 : decode cX6_copy 122 = .ok (.iload_n 3, 1) := by decide +kernel
theorem dX6_copy_123 : decode cX6_copy 123 = .ok (.iload 4, 2) := by decide +kernel
theorem dX6_copy_125 : decode cX6_copy 125 = .ok (.iload 5, 2) := by decide +kernel
theorem dX6_copy_127 : decode cX6_copy 127 = .ok (.invokevirtual 279, 3) := by decide +kernel
theorem dX6_copy_130 : decode cX6_copy 130 = .ok (.iload 5, 2) := by decide +kernel
theorem dX6_copy_132 : decode cX6_copy 132 = .ok (.ireturn, 1) := by decide +kernel
def gX6_copy_22 (s : Mem)  : Option (Int32 × Mem) :=
  (fX6_finding s (0 : Int32)).bind (fun y2 => some ((y2.1, y2.2)))
set_option maxRecDepth 4000 in
theorem jgX6_copy_22 {X : Scr} (d : Nat) (s : Mem)  {r : (Int32 × Mem)} {w : Option Value} {s' : Mem} (hh : gX6_copy_22 s = some r) (hk : w = some (.int r.1) ∧ r.2 = s') : J X MX6_copy (d + 2) 22 [some (.ref 0), none, none, none, none, none] [] s w s' := by
  unfold gX6_copy_22 at hh
  refine J_aload_n (pc := 22) dX6_copy_22 rfl ?_
  refine J_iconst (pc := 23) dX6_copy_23 ci_0 ?_
  obtain ⟨y2, hy2, hh⟩ := bd_some hh
  refine J_callVi (pc := 24) (M' := MX6_finding) (a := 0) (rest := []) (As := [.int (0 : Int32)]) (L0 := [some (.ref 0), some (.int (0 : Int32))]) okX6_finding ovX6_finding mlX6_68 clX6 so0 rfl rfl (Nat.le_of_ble_eq_true rfl) dX6_copy_24 rfl (Nat.le_of_ble_eq_true rfl) (jX6_finding (X := X) d s (0 : Int32) hy2) ?_
  obtain rfl := Option.some.inj hh
  obtain ⟨rfl, rfl⟩ := hk
  exact J_ret (w := some (.int y2.1)) ⟨dX6_copy_27, _, rfl, rfl⟩
def gX6_copy_50 (s : Mem)  : Option (Int32 × Mem) :=
  (fX6_finding s (5 : Int32)).bind (fun y5 => some ((y5.1, y5.2)))
set_option maxRecDepth 4000 in
theorem jgX6_copy_50 {X : Scr} (d : Nat) (s : Mem)  {r : (Int32 × Mem)} {w : Option Value} {s' : Mem} (hh : gX6_copy_50 s = some r) (hk : w = some (.int r.1) ∧ r.2 = s') : J X MX6_copy (d + 2) 50 [some (.ref 0), none, none, none, none, none] [] s w s' := by
  unfold gX6_copy_50 at hh
  refine J_aload_n (pc := 50) dX6_copy_50 rfl ?_
  refine J_iconst (pc := 51) dX6_copy_51 ci_5 ?_
  obtain ⟨y5, hy5, hh⟩ := bd_some hh
  refine J_callVi (pc := 52) (M' := MX6_finding) (a := 0) (rest := []) (As := [.int (5 : Int32)]) (L0 := [some (.ref 0), some (.int (5 : Int32))]) okX6_finding ovX6_finding mlX6_68 clX6 so0 rfl rfl (Nat.le_of_ble_eq_true rfl) dX6_copy_52 rfl (Nat.le_of_ble_eq_true rfl) (jX6_finding (X := X) d s (5 : Int32) hy5) ?_
  obtain rfl := Option.some.inj hh
  obtain ⟨rfl, rfl⟩ := hk
  exact J_ret (w := some (.int y5.1)) ⟨dX6_copy_55, _, rfl, rfl⟩
def gX6_copy_110 (s : Mem)  : Option (Int32 × Mem) :=
  (fX6_finding s (0 : Int32)).bind (fun y10 => some ((y10.1, y10.2)))
set_option maxRecDepth 4000 in
theorem jgX6_copy_110 {X : Scr} (d : Nat) (s : Mem)  {r : (Int32 × Mem)} {w : Option Value} {s' : Mem} (hh : gX6_copy_110 s = some r) (hk : w = some (.int r.1) ∧ r.2 = s') : J X MX6_copy (d + 2) 110 [some (.ref 0), none, none, none, none, none] [] s w s' := by
  unfold gX6_copy_110 at hh
  refine J_aload_n (pc := 110) dX6_copy_110 rfl ?_
  refine J_iconst (pc := 111) dX6_copy_111 ci_0 ?_
  obtain ⟨y10, hy10, hh⟩ := bd_some hh
  refine J_callVi (pc := 112) (M' := MX6_finding) (a := 0) (rest := []) (As := [.int (0 : Int32)]) (L0 := [some (.ref 0), some (.int (0 : Int32))]) okX6_finding ovX6_finding mlX6_68 clX6 so0 rfl rfl (Nat.le_of_ble_eq_true rfl) dX6_copy_112 rfl (Nat.le_of_ble_eq_true rfl) (jX6_finding (X := X) d s (0 : Int32) hy10) ?_
  obtain rfl := Option.some.inj hh
  obtain ⟨rfl, rfl⟩ := hk
  exact J_ret (w := some (.int y10.1)) ⟨dX6_copy_115, _, rfl, rfl⟩
def fX6_copy (s : Mem) (p0 : Int32) (p1 : Int32) (p2 : Int32) (p3 : Int32) (p4 : Int32) : Option (Int32 × Mem) :=
  (fX4_isOne s p0).bind (fun y1 => if y1 = (0 : Int32) then gX6_copy_22 s else (fX4_isOne s p2).bind (fun y3 => if y3 = (0 : Int32) then gX6_copy_22 s else (fX4_isMissing s p0).bind (fun y4 => if y4 = (0 : Int32) then (fX4_isMissing s p2).bind (fun y6 => if y6 = (0 : Int32) then (fX4_sortOf s p0).bind (fun y7 => (fX4_sortOf s p2).bind (fun y8 => if y7 = y8 then (fX4_hasRow s p0 p1 p4).bind (fun y9 => if y9 = (0 : Int32) then gX6_copy_110 s else (fX4_hasRow s p2 p3 p4).bind (fun y11 => if y11 = (0 : Int32) then gX6_copy_110 s else (fX4_carry s p0 p1 p2 p3 p4).bind (fun y12 => some ((p4, y12))))) else (fX6_finding s (2 : Int32)).bind (fun y15 => some ((y15.1, y15.2))))) else gX6_copy_50 s) else gX6_copy_50 s)))
set_option maxRecDepth 4000 in
theorem jjX6_copy {X : Scr} (d : Nat) (s : Mem) (p0 : Int32) (p1 : Int32) (p2 : Int32) (p3 : Int32) (p4 : Int32) {r : (Int32 × Mem)} {w : Option Value} {s' : Mem} (hh : fX6_copy s p0 p1 p2 p3 p4 = some r) (hk : w = some (.int r.1) ∧ r.2 = s') : J X MX6_copy (d + 2) 0 [some (.ref 0), some (.int p0), some (.int p1), some (.int p2), some (.int p3), some (.int p4)] [] s w s' := by
  unfold fX6_copy at hh
  refine J_aload_n (pc := 0) dX6_copy_0 rfl ?_
  refine J_getR (pc := 1) (k := 4) flX6_40 so0 fk0_4 dX6_copy_1 ?_
  refine J_iload_n (pc := 4) dX6_copy_4 rfl ?_
  obtain ⟨y1, hy1, hh⟩ := bd_some hh
  refine J_callVi (pc := 5) (M' := MX4_isOne) (a := 14) (rest := []) (As := [.int p0]) (L0 := [some (.ref 14), some (.int p0)]) okX4_isOne ovX4_isOne mlX6_218 clX4 so14 rfl rfl (Nat.le_of_ble_eq_true rfl) dX6_copy_5 rfl (Nat.le_of_ble_eq_true rfl) (jX4_isOne (X := X) (d + 1) s p0 hy1) ?_
  refine J_if_eq (pc := 8) 22 dX6_copy_8 (by decide) (fun c20 => ?_) (fun c20 => ?_)
  · replace hh := (if_pos c20).symm.trans hh
    refine J_drop 1 (L' := [some (.ref 0), none, some (.int p1), some (.int p2), some (.int p3), some (.int p4)]) rfl ?_
    refine J_drop 2 (L' := [some (.ref 0), none, none, some (.int p2), some (.int p3), some (.int p4)]) rfl ?_
    refine J_drop 3 (L' := [some (.ref 0), none, none, none, some (.int p3), some (.int p4)]) rfl ?_
    refine J_drop 4 (L' := [some (.ref 0), none, none, none, none, some (.int p4)]) rfl ?_
    refine J_drop 5 (L' := [some (.ref 0), none, none, none, none, none]) rfl ?_
    exact jgX6_copy_22 d s hh hk
  · replace hh := (if_neg c20).symm.trans hh
    refine J_aload_n (pc := 11) dX6_copy_11 rfl ?_
    refine J_getR (pc := 12) (k := 4) flX6_40 so0 fk0_4 dX6_copy_12 ?_
    refine J_iload_n (pc := 15) dX6_copy_15 rfl ?_
    obtain ⟨y3, hy3, hh⟩ := bd_some hh
    refine J_callVi (pc := 16) (M' := MX4_isOne) (a := 14) (rest := []) (As := [.int p2]) (L0 := [some (.ref 14), some (.int p2)]) okX4_isOne ovX4_isOne mlX6_218 clX4 so14 rfl rfl (Nat.le_of_ble_eq_true rfl) dX6_copy_16 rfl (Nat.le_of_ble_eq_true rfl) (jX4_isOne (X := X) (d + 1) s p2 hy3) ?_
    refine J_if_ne (pc := 19) 28 dX6_copy_19 (by decide) (fun c19 => ?_) (fun c19 => ?_)
    · replace hh := (if_neg c19).symm.trans hh
      refine J_aload_n (pc := 28) dX6_copy_28 rfl ?_
      refine J_getR (pc := 29) (k := 4) flX6_40 so0 fk0_4 dX6_copy_29 ?_
      refine J_iload_n (pc := 32) dX6_copy_32 rfl ?_
      obtain ⟨y4, hy4, hh⟩ := bd_some hh
      refine J_callVi (pc := 33) (M' := MX4_isMissing) (a := 14) (rest := []) (As := [.int p0]) (L0 := [some (.ref 14), some (.int p0)]) okX4_isMissing ovX4_isMissing mlX6_221 clX4 so14 rfl rfl (Nat.le_of_ble_eq_true rfl) dX6_copy_33 rfl (Nat.le_of_ble_eq_true rfl) (jX4_isMissing (X := X) (d + 1) s p0 hy4) ?_
      refine J_if_ne (pc := 36) 50 dX6_copy_36 (by decide) (fun c18 => ?_) (fun c18 => ?_)
      · replace hh := (if_neg c18).symm.trans hh
        refine J_drop 1 (L' := [some (.ref 0), none, some (.int p1), some (.int p2), some (.int p3), some (.int p4)]) rfl ?_
        refine J_drop 2 (L' := [some (.ref 0), none, none, some (.int p2), some (.int p3), some (.int p4)]) rfl ?_
        refine J_drop 3 (L' := [some (.ref 0), none, none, none, some (.int p3), some (.int p4)]) rfl ?_
        refine J_drop 4 (L' := [some (.ref 0), none, none, none, none, some (.int p4)]) rfl ?_
        refine J_drop 5 (L' := [some (.ref 0), none, none, none, none, none]) rfl ?_
        exact jgX6_copy_50 d s hh hk
      · replace hh := (if_pos c18).symm.trans hh
        refine J_aload_n (pc := 39) dX6_copy_39 rfl ?_
        refine J_getR (pc := 40) (k := 4) flX6_40 so0 fk0_4 dX6_copy_40 ?_
        refine J_iload_n (pc := 43) dX6_copy_43 rfl ?_
        obtain ⟨y6, hy6, hh⟩ := bd_some hh
        refine J_callVi (pc := 44) (M' := MX4_isMissing) (a := 14) (rest := []) (As := [.int p2]) (L0 := [some (.ref 14), some (.int p2)]) okX4_isMissing ovX4_isMissing mlX6_221 clX4 so14 rfl rfl (Nat.le_of_ble_eq_true rfl) dX6_copy_44 rfl (Nat.le_of_ble_eq_true rfl) (jX4_isMissing (X := X) (d + 1) s p2 hy6) ?_
        refine J_if_eq (pc := 47) 56 dX6_copy_47 (by decide) (fun c17 => ?_) (fun c17 => ?_)
        · replace hh := (if_pos c17).symm.trans hh
          refine J_aload_n (pc := 56) dX6_copy_56 rfl ?_
          refine J_getR (pc := 57) (k := 4) flX6_40 so0 fk0_4 dX6_copy_57 ?_
          refine J_iload_n (pc := 60) dX6_copy_60 rfl ?_
          obtain ⟨y7, hy7, hh⟩ := bd_some hh
          refine J_callVi (pc := 61) (M' := MX4_sortOf) (a := 14) (rest := []) (As := [.int p0]) (L0 := [some (.ref 14), some (.int p0)]) okX4_sortOf ovX4_sortOf mlX6_273 clX4 so14 rfl rfl (Nat.le_of_ble_eq_true rfl) dX6_copy_61 rfl (Nat.le_of_ble_eq_true rfl) (jX4_sortOf (X := X) (d + 1) s p0 hy7) ?_
          refine J_aload_n (pc := 64) dX6_copy_64 rfl ?_
          refine J_getR (pc := 65) (k := 4) flX6_40 so0 fk0_4 dX6_copy_65 ?_
          refine J_iload_n (pc := 68) dX6_copy_68 rfl ?_
          obtain ⟨y8, hy8, hh⟩ := bd_some hh
          refine J_callVi (pc := 69) (M' := MX4_sortOf) (a := 14) (rest := [.int y7]) (As := [.int p2]) (L0 := [some (.ref 14), some (.int p2)]) okX4_sortOf ovX4_sortOf mlX6_273 clX4 so14 rfl rfl (Nat.le_of_ble_eq_true rfl) dX6_copy_69 rfl (Nat.le_of_ble_eq_true rfl) (jX4_sortOf (X := X) (d + 1) s p2 hy8) ?_
          refine J_icmp_eq (pc := 72) 81 dX6_copy_72 (by decide) (fun c16 => ?_) (fun c16 => ?_)
          · replace hh := (if_pos c16).symm.trans hh
            refine J_aload_n (pc := 81) dX6_copy_81 rfl ?_
            refine J_getR (pc := 82) (k := 4) flX6_40 so0 fk0_4 dX6_copy_82 ?_
            refine J_iload_n (pc := 85) dX6_copy_85 rfl ?_
            refine J_iload_n (pc := 86) dX6_copy_86 rfl ?_
            refine J_iload (pc := 87) dX6_copy_87 rfl ?_
            obtain ⟨y9, hy9, hh⟩ := bd_some hh
            refine J_callVi (pc := 89) (M' := MX4_hasRow) (a := 14) (rest := []) (As := [.int p0, .int p1, .int p4]) (L0 := [some (.ref 14), some (.int p0), some (.int p1), some (.int p4)]) okX4_hasRow ovX4_hasRow mlX6_276 clX4 so14 rfl rfl (Nat.le_of_ble_eq_true rfl) dX6_copy_89 rfl (Nat.le_of_ble_eq_true rfl) (jX4_hasRow (X := X) (d + 1) s p0 p1 p4 hy9) ?_
            refine J_if_eq (pc := 92) 110 dX6_copy_92 (by decide) (fun c14 => ?_) (fun c14 => ?_)
            · replace hh := (if_pos c14).symm.trans hh
              refine J_drop 1 (L' := [some (.ref 0), none, some (.int p1), some (.int p2), some (.int p3), some (.int p4)]) rfl ?_
              refine J_drop 2 (L' := [some (.ref 0), none, none, some (.int p2), some (.int p3), some (.int p4)]) rfl ?_
              refine J_drop 3 (L' := [some (.ref 0), none, none, none, some (.int p3), some (.int p4)]) rfl ?_
              refine J_drop 4 (L' := [some (.ref 0), none, none, none, none, some (.int p4)]) rfl ?_
              refine J_drop 5 (L' := [some (.ref 0), none, none, none, none, none]) rfl ?_
              exact jgX6_copy_110 d s hh hk
            · replace hh := (if_neg c14).symm.trans hh
              refine J_aload_n (pc := 95) dX6_copy_95 rfl ?_
              refine J_getR (pc := 96) (k := 4) flX6_40 so0 fk0_4 dX6_copy_96 ?_
              refine J_iload_n (pc := 99) dX6_copy_99 rfl ?_
              refine J_iload (pc := 100) dX6_copy_100 rfl ?_
              refine J_iload (pc := 102) dX6_copy_102 rfl ?_
              obtain ⟨y11, hy11, hh⟩ := bd_some hh
              refine J_callVi (pc := 104) (M' := MX4_hasRow) (a := 14) (rest := []) (As := [.int p2, .int p3, .int p4]) (L0 := [some (.ref 14), some (.int p2), some (.int p3), some (.int p4)]) okX4_hasRow ovX4_hasRow mlX6_276 clX4 so14 rfl rfl (Nat.le_of_ble_eq_true rfl) dX6_copy_104 rfl (Nat.le_of_ble_eq_true rfl) (jX4_hasRow (X := X) (d + 1) s p2 p3 p4 hy11) ?_
              refine J_if_ne (pc := 107) 116 dX6_copy_107 (by decide) (fun c13 => ?_) (fun c13 => ?_)
              · replace hh := (if_neg c13).symm.trans hh
                refine J_aload_n (pc := 116) dX6_copy_116 rfl ?_
                refine J_getR (pc := 117) (k := 4) flX6_40 so0 fk0_4 dX6_copy_117 ?_
                refine J_iload_n (pc := 120) dX6_copy_120 rfl ?_
                refine J_iload_n (pc := 121) dX6_copy_121 rfl ?_
                refine J_iload_n (pc := 122) dX6_copy_122 rfl ?_
                refine J_iload (pc := 123) dX6_copy_123 rfl ?_
                refine J_iload (pc := 125) dX6_copy_125 rfl ?_
                obtain ⟨y12, hy12, hh⟩ := bd_some hh
                refine J_callV0 (pc := 127) (M' := MX4_carry) (a := 14) (rest := []) (As := [.int p0, .int p1, .int p2, .int p3, .int p4]) (L0 := [some (.ref 14), some (.int p0), some (.int p1), some (.int p2), some (.int p3), some (.int p4)]) okX4_carry ovX4_carry mlX6_279 clX4 so14 rfl rfl (Nat.le_of_ble_eq_true rfl) dX6_copy_127 rfl (Nat.le_of_ble_eq_true rfl) (jX4_carry (X := X) d s p0 p1 p2 p3 p4 hy12) ?_
                refine J_iload (pc := 130) dX6_copy_130 rfl ?_
                obtain rfl := Option.some.inj hh
                obtain ⟨rfl, rfl⟩ := hk
                exact J_ret (w := some (.int p4)) ⟨dX6_copy_132, _, rfl, rfl⟩
              · replace hh := (if_pos c13).symm.trans hh
                refine J_drop 1 (L' := [some (.ref 0), none, some (.int p1), some (.int p2), some (.int p3), some (.int p4)]) rfl ?_
                refine J_drop 2 (L' := [some (.ref 0), none, none, some (.int p2), some (.int p3), some (.int p4)]) rfl ?_
                refine J_drop 3 (L' := [some (.ref 0), none, none, none, some (.int p3), some (.int p4)]) rfl ?_
                refine J_drop 4 (L' := [some (.ref 0), none, none, none, none, some (.int p4)]) rfl ?_
                refine J_drop 5 (L' := [some (.ref 0), none, none, none, none, none]) rfl ?_
                exact jgX6_copy_110 d s hh hk
          · replace hh := (if_neg c16).symm.trans hh
            refine J_aload_n (pc := 75) dX6_copy_75 rfl ?_
            refine J_iconst (pc := 76) dX6_copy_76 ci_2 ?_
            obtain ⟨y15, hy15, hh⟩ := bd_some hh
            refine J_callVi (pc := 77) (M' := MX6_finding) (a := 0) (rest := []) (As := [.int (2 : Int32)]) (L0 := [some (.ref 0), some (.int (2 : Int32))]) okX6_finding ovX6_finding mlX6_68 clX6 so0 rfl rfl (Nat.le_of_ble_eq_true rfl) dX6_copy_77 rfl (Nat.le_of_ble_eq_true rfl) (jX6_finding (X := X) d s (2 : Int32) hy15) ?_
            obtain rfl := Option.some.inj hh
            obtain ⟨rfl, rfl⟩ := hk
            exact J_ret (w := some (.int y15.1)) ⟨dX6_copy_80, _, rfl, rfl⟩
        · replace hh := (if_neg c17).symm.trans hh
          refine J_drop 1 (L' := [some (.ref 0), none, some (.int p1), some (.int p2), some (.int p3), some (.int p4)]) rfl ?_
          refine J_drop 2 (L' := [some (.ref 0), none, none, some (.int p2), some (.int p3), some (.int p4)]) rfl ?_
          refine J_drop 3 (L' := [some (.ref 0), none, none, none, some (.int p3), some (.int p4)]) rfl ?_
          refine J_drop 4 (L' := [some (.ref 0), none, none, none, none, some (.int p4)]) rfl ?_
          refine J_drop 5 (L' := [some (.ref 0), none, none, none, none, none]) rfl ?_
          exact jgX6_copy_50 d s hh hk
    · replace hh := (if_pos c19).symm.trans hh
      refine J_drop 1 (L' := [some (.ref 0), none, some (.int p1), some (.int p2), some (.int p3), some (.int p4)]) rfl ?_
      refine J_drop 2 (L' := [some (.ref 0), none, none, some (.int p2), some (.int p3), some (.int p4)]) rfl ?_
      refine J_drop 3 (L' := [some (.ref 0), none, none, none, some (.int p3), some (.int p4)]) rfl ?_
      refine J_drop 4 (L' := [some (.ref 0), none, none, none, none, some (.int p4)]) rfl ?_
      refine J_drop 5 (L' := [some (.ref 0), none, none, none, none, none]) rfl ?_
      exact jgX6_copy_22 d s hh hk
theorem jX6_copy {X : Scr} (d : Nat) (s : Mem) (p0 : Int32) (p1 : Int32) (p2 : Int32) (p3 : Int32) (p4 : Int32) {r : (Int32 × Mem)} (hh : fX6_copy s p0 p1 p2 p3 p4 = some r) : J X MX6_copy (d + 2) 0 [some (.ref 0), some (.int p0), some (.int p1), some (.int p2), some (.int p3), some (.int p4)] [] s (some (.int r.1)) r.2 := jjX6_copy d s p0 p1 p2 p3 p4 hh ⟨rfl, rfl⟩
theorem dX6_undo_0 : decode cX6_undo 0 = .ok (.aload_n 0, 1) := by decide +kernel
theorem dX6_undo_1 : decode cX6_undo 1 = .ok (.getfield 19, 3) := by decide +kernel
theorem dX6_undo_4 : decode cX6_undo 4 = .ok (.invokevirtual 283, 3) := by decide +kernel
theorem dX6_undo_7 : decode cX6_undo 7 = .ok (.ifCond .ne 9, 3) := by decide +kernel
theorem dX6_undo_10 : decode cX6_undo 10 = .ok (.aload_n 0, 1) := by decide +kernel
theorem dX6_undo_11 : decode cX6_undo 11 = .ok (.iconst 3, 1) := by decide +kernel
theorem dX6_undo_12 : decode cX6_undo 12 = .ok (.invokevirtual 68, 3) := by decide +kernel
theorem dX6_undo_15 : decode cX6_undo 15 = .ok (.ireturn, 1) := by decide +kernel
theorem dX6_undo_16 : decode cX6_undo 16 = .ok (.aload_n 0, 1) := by decide +kernel
theorem dX6_undo_17 : decode cX6_undo 17 = .ok (.getfield 19, 3) := by decide +kernel
theorem dX6_undo_20 : decode cX6_undo 20 = .ok (.aload_n 0, 1) := by decide +kernel
theorem dX6_undo_21 : decode cX6_undo 21 = .ok (.getfield 10, 3) := by decide +kernel
theorem dX6_undo_24 : decode cX6_undo 24 = .ok (.invokevirtual 286, 3) := by decide +kernel
theorem dX6_undo_27 : decode cX6_undo 27 = .ok (.ireturn, 1) := by decide +kernel
def fX6_undo (s : Mem)  : Option (Int32 × Mem) :=
  (fX2_kept s).bind (fun y1 => if y1 = (0 : Int32) then (fX6_finding s (3 : Int32)).bind (fun y3 => some ((y3.1, y3.2))) else (fX2_goBack s).bind (fun y2 => some ((y2.1, y2.2))))
set_option maxRecDepth 4000 in
theorem jjX6_undo {X : Scr} (d : Nat) (s : Mem)  {r : (Int32 × Mem)} {w : Option Value} {s' : Mem} (hh : fX6_undo s = some r) (hk : w = some (.int r.1) ∧ r.2 = s') : J X MX6_undo (d + 4) 0 [some (.ref 0)] [] s w s' := by
  unfold fX6_undo at hh
  refine J_aload_n (pc := 0) dX6_undo_0 rfl ?_
  refine J_getR (pc := 1) (k := 1) flX6_19 so0 fk0_1 dX6_undo_1 ?_
  obtain ⟨y1, hy1, hh⟩ := bd_some hh
  refine J_callVi (pc := 4) (M' := MX2_kept) (a := 3) (rest := []) (As := []) (L0 := [some (.ref 3)]) okX2_kept ovX2_kept mlX6_283 clX2 so3 rfl rfl (Nat.le_of_ble_eq_true rfl) dX6_undo_4 rfl (Nat.le_of_ble_eq_true rfl) (jX2_kept (X := X) (d + 3) s hy1) ?_
  refine J_if_ne (pc := 7) 16 dX6_undo_7 (by decide) (fun c4 => ?_) (fun c4 => ?_)
  · replace hh := (if_neg c4).symm.trans hh
    refine J_aload_n (pc := 16) dX6_undo_16 rfl ?_
    refine J_getR (pc := 17) (k := 1) flX6_19 so0 fk0_1 dX6_undo_17 ?_
    refine J_aload_n (pc := 20) dX6_undo_20 rfl ?_
    refine J_getR (pc := 21) (k := 0) flX6_10 so0 fk0_0 dX6_undo_21 ?_
    obtain ⟨y2, hy2, hh⟩ := bd_some hh
    refine J_callVi (pc := 24) (M' := MX2_goBack) (a := 3) (rest := []) (As := [.ref 1]) (L0 := [some (.ref 3), some (.ref 1)]) okX2_goBack ovX2_goBack mlX6_286 clX2 so3 rfl rfl (Nat.le_of_ble_eq_true rfl) dX6_undo_24 rfl (Nat.le_of_ble_eq_true rfl) (jX2_goBack (X := X) d s hy2) ?_
    obtain rfl := Option.some.inj hh
    obtain ⟨rfl, rfl⟩ := hk
    exact J_ret (w := some (.int y2.1)) ⟨dX6_undo_27, _, rfl, rfl⟩
  · replace hh := (if_pos c4).symm.trans hh
    refine J_aload_n (pc := 10) dX6_undo_10 rfl ?_
    refine J_iconst (pc := 11) dX6_undo_11 ci_3 ?_
    obtain ⟨y3, hy3, hh⟩ := bd_some hh
    refine J_callVi (pc := 12) (M' := MX6_finding) (a := 0) (rest := []) (As := [.int (3 : Int32)]) (L0 := [some (.ref 0), some (.int (3 : Int32))]) okX6_finding ovX6_finding mlX6_68 clX6 so0 rfl rfl (Nat.le_of_ble_eq_true rfl) dX6_undo_12 rfl (Nat.le_of_ble_eq_true rfl) (jX6_finding (X := X) (d + 2) s (3 : Int32) hy3) ?_
    obtain rfl := Option.some.inj hh
    obtain ⟨rfl, rfl⟩ := hk
    exact J_ret (w := some (.int y3.1)) ⟨dX6_undo_15, _, rfl, rfl⟩
theorem jX6_undo {X : Scr} (d : Nat) (s : Mem)  {r : (Int32 × Mem)} (hh : fX6_undo s = some r) : J X MX6_undo (d + 4) 0 [some (.ref 0)] [] s (some (.int r.1)) r.2 := jjX6_undo d s hh ⟨rfl, rfl⟩
theorem dX6_count_0 : decode cX6_count 0 = .ok (.iload_n 1, 1) := by decide +kernel
theorem dX6_count_1 : decode cX6_count 1 = .ok (.tableswitch 108 0 7 #[47, 55, 63, 71, 79, 87, 92, 100], 47) := by decide +kernel
theorem dX6_count_48 : decode cX6_count 48 = .ok (.aload_n 0, 1) := by decide +kernel
theorem dX6_count_49 : decode cX6_count 49 = .ok (.getfield 10, 3) := by decide +kernel
theorem dX6_count_52 : decode cX6_count 52 = .ok (.invokevirtual 125, 3) := by decide +kernel
theorem dX6_count_55 : decode cX6_count 55 = .ok (.ireturn, 1) := by decide +kernel
theorem dX6_count_56 : decode cX6_count 56 = .ok (.aload_n 0, 1) := by decide +kernel
theorem dX6_count_57 : decode cX6_count 57 = .ok (.getfield 10, 3) := by decide +kernel
theorem dX6_count_60 : decode cX6_count 60 = .ok (.invokevirtual 290, 3) := by decide +kernel
theorem dX6_count_63 : decode cX6_count 63 = .ok (.ireturn, 1) := by decide +kernel
theorem dX6_count_64 : decode cX6_count 64 = .ok (.aload_n 0, 1) := by decide +kernel
theorem dX6_count_65 : decode cX6_count 65 = .ok (.getfield 10, 3) := by decide +kernel
theorem dX6_count_68 : decode cX6_count 68 = .ok (.invokevirtual 293, 3) := by decide +kernel
theorem dX6_count_71 : decode cX6_count 71 = .ok (.ireturn, 1) := by decide +kernel
theorem dX6_count_72 : decode cX6_count 72 = .ok (.aload_n 0, 1) := by decide +kernel
theorem dX6_count_73 : decode cX6_count 73 = .ok (.getfield 10, 3) := by decide +kernel
theorem dX6_count_76 : decode cX6_count 76 = .ok (.invokevirtual 296, 3) := by decide +kernel
theorem dX6_count_79 : decode cX6_count 79 = .ok (.ireturn, 1) := by decide +kernel
theorem dX6_count_80 : decode cX6_count 80 = .ok (.aload_n 0, 1) := by decide +kernel
theorem dX6_count_81 : decode cX6_count 81 = .ok (.getfield 19, 3) := by decide +kernel
theorem dX6_count_84 : decode cX6_count 84 = .ok (.invokevirtual 283, 3) := by decide +kernel
theorem dX6_count_87 : decode cX6_count 87 = .ok (.ireturn, 1) := by decide +kernel
theorem dX6_count_88 : decode cX6_count 88 = .ok (.aload_n 0, 1) := by decide +kernel
theorem dX6_count_89 : decode cX6_count 89 = .ok (.getfield 48, 3) := by decide +kernel
theorem dX6_count_92 : decode cX6_count 92 = .ok (.ireturn, 1) := by decide +kernel
theorem dX6_count_93 : decode cX6_count 93 = .ok (.aload_n 0, 1) := by decide +kernel
theorem dX6_count_94 : decode cX6_count 94 = .ok (.getfield 33, 3) := by decide +kernel
theorem dX6_count_97 : decode cX6_count 97 = .ok (.invokevirtual 299, 3) := by decide +kernel
theorem dX6_count_100 : decode cX6_count 100 = .ok (.ireturn, 1) := by decide +kernel
theorem dX6_count_101 : decode cX6_count 101 = .ok (.aload_n 0, 1) := by decide +kernel
theorem dX6_count_102 : decode cX6_count 102 = .ok (.getfield 10, 3) := by decide +kernel
theorem dX6_count_105 : decode cX6_count 105 = .ok (.invokevirtual 300, 3) := by decide +kernel
theorem dX6_count_108 : decode cX6_count 108 = .ok (.ireturn, 1) := by decide +kernel
theorem dX6_count_109 : decode cX6_count 109 = .ok (.aload_n 0, 1) := by decide +kernel
theorem dX6_count_110 : decode cX6_count 110 = .ok (.iconst 0, 1) := by decide +kernel
theorem dX6_count_111 : decode cX6_count 111 = .ok (.invokevirtual 68, 3) := by decide +kernel
theorem dX6_count_114 : decode cX6_count 114 = .ok (.ireturn, 1) := by decide +kernel
def fX6_count (s : Mem) (p0 : Int32) : Option (Int32 × Mem) :=
  if p0 = (0 : Int32) then (fX0_pupils s).bind (fun y2 => some ((y2, s))) else if p0 = (1 : Int32) then (fX0_openSections s).bind (fun y4 => some ((y4, s))) else if p0 = (2 : Int32) then (fX0_seats s).bind (fun y6 => some ((y6, s))) else if p0 = (3 : Int32) then (fX0_priceOfAll s).bind (fun y8 => some ((y8, s))) else if p0 = (4 : Int32) then (fX2_kept s).bind (fun y10 => some ((y10, s))) else if p0 = (5 : Int32) then some ((s.1 0 6, s)) else if p0 = (6 : Int32) then (fX5_length s).bind (fun y13 => some ((y13, s))) else if p0 = (7 : Int32) then (fX0_openWishes s).bind (fun y15 => some ((y15, s))) else (fX6_finding s (0 : Int32)).bind (fun y16 => some ((y16.1, y16.2)))
set_option maxRecDepth 4000 in
theorem jjX6_count {X : Scr} (d : Nat) (s : Mem) (p0 : Int32) {r : (Int32 × Mem)} {w : Option Value} {s' : Mem} (hh : fX6_count s p0 = some r) (hk : w = some (.int r.1) ∧ r.2 = s') : J X MX6_count (d + 4) 0 [some (.ref 0), some (.int p0)] [] s w s' := by
  unfold fX6_count at hh
  refine J_iload_n (pc := 0) dX6_count_0 rfl ?_
  by_cases c1 : p0 = (0 : Int32)
  · replace hh := (if_pos c1).symm.trans hh
    refine J_swIn (pc := 1) 48 dX6_count_1 (by rw [c1]; decide) (by rw [c1]; decide) (by rw [c1]; rfl) (by decide) ?_
    refine J_aload_n (pc := 48) dX6_count_48 rfl ?_
    refine J_getR (pc := 49) (k := 0) flX6_10 so0 fk0_0 dX6_count_49 ?_
    obtain ⟨y2, hy2, hh⟩ := bd_some hh
    refine J_callVi (pc := 52) (M' := MX0_pupils) (a := 1) (rest := []) (As := []) (L0 := [some (.ref 1)]) okX0_pupils ovX0_pupils mlX6_125 clX0 so1 rfl rfl (Nat.le_of_ble_eq_true rfl) dX6_count_52 rfl (Nat.le_of_ble_eq_true rfl) (jX0_pupils (X := X) (d + 3) s hy2) ?_
    obtain rfl := Option.some.inj hh
    obtain ⟨rfl, rfl⟩ := hk
    exact J_ret (w := some (.int y2)) ⟨dX6_count_55, _, rfl, rfl⟩
  replace hh := (if_neg c1).symm.trans hh
  by_cases c3 : p0 = (1 : Int32)
  · replace hh := (if_pos c3).symm.trans hh
    refine J_swIn (pc := 1) 56 dX6_count_1 (by rw [c3]; decide) (by rw [c3]; decide) (by rw [c3]; rfl) (by decide) ?_
    refine J_aload_n (pc := 56) dX6_count_56 rfl ?_
    refine J_getR (pc := 57) (k := 0) flX6_10 so0 fk0_0 dX6_count_57 ?_
    obtain ⟨y4, hy4, hh⟩ := bd_some hh
    refine J_callVi (pc := 60) (M' := MX0_openSections) (a := 1) (rest := []) (As := []) (L0 := [some (.ref 1), none, none, none]) okX0_openSections ovX0_openSections mlX6_290 clX0 so1 rfl rfl (Nat.le_of_ble_eq_true rfl) dX6_count_60 rfl (Nat.le_of_ble_eq_true rfl) (jX0_openSections (X := X) (d + 2) s hy4) ?_
    obtain rfl := Option.some.inj hh
    obtain ⟨rfl, rfl⟩ := hk
    exact J_ret (w := some (.int y4)) ⟨dX6_count_63, _, rfl, rfl⟩
  replace hh := (if_neg c3).symm.trans hh
  by_cases c5 : p0 = (2 : Int32)
  · replace hh := (if_pos c5).symm.trans hh
    refine J_swIn (pc := 1) 64 dX6_count_1 (by rw [c5]; decide) (by rw [c5]; decide) (by rw [c5]; rfl) (by decide) ?_
    refine J_aload_n (pc := 64) dX6_count_64 rfl ?_
    refine J_getR (pc := 65) (k := 0) flX6_10 so0 fk0_0 dX6_count_65 ?_
    obtain ⟨y6, hy6, hh⟩ := bd_some hh
    refine J_callVi (pc := 68) (M' := MX0_seats) (a := 1) (rest := []) (As := []) (L0 := [some (.ref 1), none, none]) okX0_seats ovX0_seats mlX6_293 clX0 so1 rfl rfl (Nat.le_of_ble_eq_true rfl) dX6_count_68 rfl (Nat.le_of_ble_eq_true rfl) (jX0_seats (X := X) (d + 1) s hy6) ?_
    obtain rfl := Option.some.inj hh
    obtain ⟨rfl, rfl⟩ := hk
    exact J_ret (w := some (.int y6)) ⟨dX6_count_71, _, rfl, rfl⟩
  replace hh := (if_neg c5).symm.trans hh
  by_cases c7 : p0 = (3 : Int32)
  · replace hh := (if_pos c7).symm.trans hh
    refine J_swIn (pc := 1) 72 dX6_count_1 (by rw [c7]; decide) (by rw [c7]; decide) (by rw [c7]; rfl) (by decide) ?_
    refine J_aload_n (pc := 72) dX6_count_72 rfl ?_
    refine J_getR (pc := 73) (k := 0) flX6_10 so0 fk0_0 dX6_count_73 ?_
    obtain ⟨y8, hy8, hh⟩ := bd_some hh
    refine J_callVi (pc := 76) (M' := MX0_priceOfAll) (a := 1) (rest := []) (As := []) (L0 := [some (.ref 1), none, none]) okX0_priceOfAll ovX0_priceOfAll mlX6_296 clX0 so1 rfl rfl (Nat.le_of_ble_eq_true rfl) dX6_count_76 rfl (Nat.le_of_ble_eq_true rfl) (jX0_priceOfAll (X := X) d s hy8) ?_
    obtain rfl := Option.some.inj hh
    obtain ⟨rfl, rfl⟩ := hk
    exact J_ret (w := some (.int y8)) ⟨dX6_count_79, _, rfl, rfl⟩
  replace hh := (if_neg c7).symm.trans hh
  by_cases c9 : p0 = (4 : Int32)
  · replace hh := (if_pos c9).symm.trans hh
    refine J_swIn (pc := 1) 80 dX6_count_1 (by rw [c9]; decide) (by rw [c9]; decide) (by rw [c9]; rfl) (by decide) ?_
    refine J_aload_n (pc := 80) dX6_count_80 rfl ?_
    refine J_getR (pc := 81) (k := 1) flX6_19 so0 fk0_1 dX6_count_81 ?_
    obtain ⟨y10, hy10, hh⟩ := bd_some hh
    refine J_callVi (pc := 84) (M' := MX2_kept) (a := 3) (rest := []) (As := []) (L0 := [some (.ref 3)]) okX2_kept ovX2_kept mlX6_283 clX2 so3 rfl rfl (Nat.le_of_ble_eq_true rfl) dX6_count_84 rfl (Nat.le_of_ble_eq_true rfl) (jX2_kept (X := X) (d + 3) s hy10) ?_
    obtain rfl := Option.some.inj hh
    obtain ⟨rfl, rfl⟩ := hk
    exact J_ret (w := some (.int y10)) ⟨dX6_count_87, _, rfl, rfl⟩
  replace hh := (if_neg c9).symm.trans hh
  by_cases c11 : p0 = (5 : Int32)
  · replace hh := (if_pos c11).symm.trans hh
    refine J_swIn (pc := 1) 88 dX6_count_1 (by rw [c11]; decide) (by rw [c11]; decide) (by rw [c11]; rfl) (by decide) ?_
    refine J_aload_n (pc := 88) dX6_count_88 rfl ?_
    refine J_getI (pc := 89) (k := 6) flX6_48 so0 fk0_6 dX6_count_89 ?_
    obtain rfl := Option.some.inj hh
    obtain ⟨rfl, rfl⟩ := hk
    exact J_ret (w := some (.int (s.1 0 6))) ⟨dX6_count_92, _, rfl, rfl⟩
  replace hh := (if_neg c11).symm.trans hh
  by_cases c12 : p0 = (6 : Int32)
  · replace hh := (if_pos c12).symm.trans hh
    refine J_swIn (pc := 1) 93 dX6_count_1 (by rw [c12]; decide) (by rw [c12]; decide) (by rw [c12]; rfl) (by decide) ?_
    refine J_aload_n (pc := 93) dX6_count_93 rfl ?_
    refine J_getR (pc := 94) (k := 3) flX6_33 so0 fk0_3 dX6_count_94 ?_
    obtain ⟨y13, hy13, hh⟩ := bd_some hh
    refine J_callVi (pc := 97) (M' := MX5_length) (a := 12) (rest := []) (As := []) (L0 := [some (.ref 12)]) okX5_length ovX5_length mlX6_299 clX5 so12 rfl rfl (Nat.le_of_ble_eq_true rfl) dX6_count_97 rfl (Nat.le_of_ble_eq_true rfl) (jX5_length (X := X) (d + 3) s hy13) ?_
    obtain rfl := Option.some.inj hh
    obtain ⟨rfl, rfl⟩ := hk
    exact J_ret (w := some (.int y13)) ⟨dX6_count_100, _, rfl, rfl⟩
  replace hh := (if_neg c12).symm.trans hh
  by_cases c14 : p0 = (7 : Int32)
  · replace hh := (if_pos c14).symm.trans hh
    refine J_swIn (pc := 1) 101 dX6_count_1 (by rw [c14]; decide) (by rw [c14]; decide) (by rw [c14]; rfl) (by decide) ?_
    refine J_aload_n (pc := 101) dX6_count_101 rfl ?_
    refine J_getR (pc := 102) (k := 0) flX6_10 so0 fk0_0 dX6_count_102 ?_
    obtain ⟨y15, hy15, hh⟩ := bd_some hh
    refine J_callVi (pc := 105) (M' := MX0_openWishes) (a := 1) (rest := []) (As := []) (L0 := [some (.ref 1), none, none]) okX0_openWishes ovX0_openWishes mlX6_300 clX0 so1 rfl rfl (Nat.le_of_ble_eq_true rfl) dX6_count_105 rfl (Nat.le_of_ble_eq_true rfl) (jX0_openWishes (X := X) (d + 1) s hy15) ?_
    obtain rfl := Option.some.inj hh
    obtain ⟨rfl, rfl⟩ := hk
    exact J_ret (w := some (.int y15)) ⟨dX6_count_108, _, rfl, rfl⟩
  replace hh := (if_neg c14).symm.trans hh
  refine J_swOut (pc := 1) 109 dX6_count_1 (by have := lv_neT c1 (a := 0) (by decide); have := lv_neT c3 (a := 1) (by decide); have := lv_neT c5 (a := 2) (by decide); have := lv_neT c7 (a := 3) (by decide); have := lv_neT c9 (a := 4) (by decide); have := lv_neT c11 (a := 5) (by decide); have := lv_neT c12 (a := 6) (by decide); have := lv_neT c14 (a := 7) (by decide); omega) (by decide) ?_
  refine J_aload_n (pc := 109) dX6_count_109 rfl ?_
  refine J_iconst (pc := 110) dX6_count_110 ci_0 ?_
  obtain ⟨y16, hy16, hh⟩ := bd_some hh
  refine J_callVi (pc := 111) (M' := MX6_finding) (a := 0) (rest := []) (As := [.int (0 : Int32)]) (L0 := [some (.ref 0), some (.int (0 : Int32))]) okX6_finding ovX6_finding mlX6_68 clX6 so0 rfl rfl (Nat.le_of_ble_eq_true rfl) dX6_count_111 rfl (Nat.le_of_ble_eq_true rfl) (jX6_finding (X := X) (d + 2) s (0 : Int32) hy16) ?_
  obtain rfl := Option.some.inj hh
  obtain ⟨rfl, rfl⟩ := hk
  exact J_ret (w := some (.int y16.1)) ⟨dX6_count_114, _, rfl, rfl⟩
theorem jX6_count {X : Scr} (d : Nat) (s : Mem) (p0 : Int32) {r : (Int32 × Mem)} (hh : fX6_count s p0 = some r) : J X MX6_count (d + 4) 0 [some (.ref 0), some (.int p0)] [] s (some (.int r.1)) r.2 := jjX6_count d s p0 hh ⟨rfl, rfl⟩
theorem dX6_status_0 : decode cX6_status 0 = .ok (.iload_n 1, 1) := by decide +kernel
theorem dX6_status_1 : decode cX6_status 1 = .ok (.i2l, 1) := by decide +kernel
theorem dX6_status_2 : decode cX6_status 2 = .ok (.lconst 0, 1) := by decide +kernel
theorem dX6_status_3 : decode cX6_status 3 = .ok (.ldc2_w 111, 3) := by decide +kernel
theorem dX6_status_6 : decode cX6_status 6 = .ok (.invokestatic 62, 3) := by decide +kernel
theorem dX6_status_9 : decode cX6_status 9 = .ok (.ifCond .eq 10, 3) := by decide +kernel
theorem dX6_status_12 : decode cX6_status 12 = .ok (.aload_n 0, 1) := by decide +kernel
theorem dX6_status_13 : decode cX6_status 13 = .ok (.getfield 44, 3) := by decide +kernel
theorem dX6_status_16 : decode cX6_status 16 = .ok (.iload_n 1, 1) := by decide +kernel
theorem dX6_status_17 : decode cX6_status 17 = .ok (.iaload, 1) := by decide +kernel
theorem dX6_status_18 : decode cX6_status 18 = .ok (.ireturn, 1) := by decide +kernel
theorem dX6_status_19 : decode cX6_status 19 = .ok (.iload_n 1, 1) := by decide +kernel
theorem dX6_status_20 : decode cX6_status 20 = .ok (.iconst (-1), 1) := by decide +kernel
theorem dX6_status_21 : decode cX6_status 21 = .ok (.if_icmp .eq 9, 3) := by decide +kernel
theorem dX6_status_24 : decode cX6_status 24 = .ok (.aload_n 0, 1) := by decide +kernel
theorem dX6_status_25 : decode cX6_status 25 = .ok (.iconst 0, 1) := by decide +kernel
theorem dX6_status_26 : decode cX6_status 26 = .ok (.invokevirtual 68, 3) := by decide +kernel
theorem dX6_status_29 : decode cX6_status 29 = .ok (.ireturn, 1) := by decide +kernel
theorem dX6_status_30 : decode cX6_status 30 = .ok (.iconst 0, 1) := by decide +kernel
theorem dX6_status_31 : decode cX6_status 31 = .ok (.istore_n 2, 1) := by decide +kernel
theorem dX6_status_32 : decode cX6_status 32 = .ok (.iconst 0, 1) := by decide +kernel
theorem dX6_status_33 : decode cX6_status 33 = .ok (.istore_n 3, 1) := by decide +kernel
theorem dX6_status_34 : decode cX6_status 34 = .ok (.iload_n 3, 1) := by decide +kernel
theorem dX6_status_35 : decode cX6_status 35 = .ok (.bipush 8, 2) := by decide +kernel
theorem dX6_status_37 : decode cX6_status 37 = .ok (.if_icmp .ge 18, 3) := by decide +kernel
theorem dX6_status_40 : decode cX6_status 40 = .ok (.iload_n 2, 1) := by decide +kernel
theorem dX6_status_41 : decode cX6_status 41 = .ok (.aload_n 0, 1) := by decide +kernel
theorem dX6_status_42 : decode cX6_status 42 = .ok (.getfield 44, 3) := by decide +kernel
theorem dX6_status_45 : decode cX6_status 45 = .ok (.iload_n 3, 1) := by decide +kernel
theorem dX6_status_46 : decode cX6_status 46 = .ok (.iaload, 1) := by decide +kernel
theorem dX6_status_47 : decode cX6_status 47 = .ok (.iadd, 1) := by decide +kernel
theorem dX6_status_48 : decode cX6_status 48 = .ok (.istore_n 2, 1) := by decide +kernel
theorem dX6_status_49 : decode cX6_status 49 = .ok (.iinc 3 1, 3) := by decide +kernel
theorem dX6_status_52 : decode cX6_status 52 = .ok (.goto (-18), 3) := by decide +kernel
theorem dX6_status_55 : decode cX6_status 55 = .ok (.iload_n 2, 1) := by decide +kernel
theorem dX6_status_56 : decode cX6_status 56 = .ok (.ireturn, 1) := by decide +kernel
def bX6_status_34 (s : Mem) (v2 : Int32) (v3 : Int32) : Option (Int32 ⊕ (Int32 × Int32)) :=
  if (8 : Int32) ≤ v3 then some (Sum.inl v2) else gd v3 8 (lt (v2 + (s.1 18 v3.toNatClampNeg)) (fun x3 => lt (v3 + (1 : Int32)) (fun x4 => some (Sum.inr (x3, x4)))))
set_option maxRecDepth 4000 in
theorem jbX6_status_34 {X : Scr} (d : Nat) (s : Mem) (v2 : Int32) (v3 : Int32) {r : (Int32 ⊕ (Int32 × Int32))} {w : Option Value} {s' : Mem} (hh : bX6_status_34 s v2 v3 = some r) (hk : Sum.elim (fun t : Int32 => J X MX6_status (d + 2) 55 [none, none, some (.int t), none] [] s w s') (fun a : (Int32 × Int32) => J X MX6_status (d + 2) 34 [some (.ref 0), none, some (.int a.1), some (.int a.2)] [] s w s') r) : J X MX6_status (d + 2) 34 [some (.ref 0), none, some (.int v2), some (.int v3)] [] s w s' := by
  unfold bX6_status_34 at hh
  refine J_iload_n (pc := 34) dX6_status_34 rfl ?_
  refine J_bipush (pc := 35) dX6_status_35 cb_8 ?_
  refine J_icmp_ge (pc := 37) 55 dX6_status_37 (by decide) (fun c5 => ?_) (fun c5 => ?_)
  · replace hh := (if_pos c5).symm.trans hh
    refine J_drop 0 (L' := [none, none, some (.int v2), some (.int v3)]) rfl ?_
    refine J_drop 3 (L' := [none, none, some (.int v2), none]) rfl ?_
    obtain rfl := Option.some.inj hh
    exact hk
  · replace hh := (if_neg c5).symm.trans hh
    refine J_iload_n (pc := 40) dX6_status_40 rfl ?_
    refine J_aload_n (pc := 41) dX6_status_41 rfl ?_
    refine J_getR (pc := 42) (k := 5) flX6_44 so0 fk0_5 dX6_status_42 ?_
    refine J_iload_n (pc := 45) dX6_status_45 rfl ?_
    obtain ⟨h2, hh⟩ := gd_some hh
    refine J_iald (pc := 46) dX6_status_46 sa18 h2 ?_
    refine J_iadd (pc := 47) dX6_status_47 ?_
    refine J_istoreL_n (pc := 48) (fun x3 => [some (.ref 0), none, some (.int x3), some (.int v3)]) dX6_status_48 rfl (Nat.le_of_ble_eq_true rfl) (fun _ => rfl) hh (fun x3 hh => ?_)
    refine J_iincL (pc := 49) (v := v3 + (1 : Int32)) (fun x4 => [some (.ref 0), none, some (.int x3), some (.int x4)]) dX6_status_49 rfl rfl (Nat.le_of_ble_eq_true rfl) (congrArg _ ci_1) (fun _ => rfl) hh (fun x4 hh => ?_)
    refine J_goto (pc := 52) 34 dX6_status_52 (by decide) ?_
    obtain rfl := Option.some.inj hh
    exact hk
def fX6_status (s : Mem) (p0 : Int32) : Option (Int32 × Mem) :=
  (fX6_within (p0.toInt64) (0 : Int64) (7 : Int64)).bind (fun y1 => if y1 = (0 : Int32) then if p0 = (-1 : Int32) then (lp (fun a => bX6_status_34 s a.1 a.2) 600 ((0 : Int32), (0 : Int32))).bind (fun y6 => some ((y6, s))) else (fX6_finding s (0 : Int32)).bind (fun y7 => some ((y7.1, y7.2))) else gd p0 8 (some ((s.1 18 p0.toNatClampNeg, s))))
set_option maxRecDepth 4000 in
theorem jjX6_status {X : Scr} (d : Nat) (s : Mem) (p0 : Int32) {r : (Int32 × Mem)} {w : Option Value} {s' : Mem} (hh : fX6_status s p0 = some r) (hk : w = some (.int r.1) ∧ r.2 = s') : J X MX6_status (d + 2) 0 [some (.ref 0), some (.int p0), none, none] [] s w s' := by
  unfold fX6_status at hh
  refine J_iload_n (pc := 0) dX6_status_0 rfl ?_
  refine J_i2l (pc := 1) dX6_status_1 ?_
  refine J_lconst (pc := 2) (v := 0) dX6_status_2 rfl ?_
  refine J_ldc2 (pc := 3) klX6_111 dX6_status_3 ?_
  obtain ⟨y1, hy1, hh⟩ := bd_some hh
  refine J_callSi (pc := 6) (M' := MX6_within) (rest := []) (As := [.long (p0.toInt64), .long (0 : Int64), .long (7 : Int64)]) (L0 := [some (.long (p0.toInt64)), none, some (.long (0 : Int64)), none, some (.long (7 : Int64)), none]) okX6_within osX6_within mlX6_62 rfl rfl (Nat.le_of_ble_eq_true rfl) dX6_status_6 rfl (Nat.le_of_ble_eq_true rfl) (jX6_within (X := X) (d + 1) s (p0.toInt64) (0 : Int64) (7 : Int64) hy1) ?_
  refine J_if_eq (pc := 9) 19 dX6_status_9 (by decide) (fun c10 => ?_) (fun c10 => ?_)
  · replace hh := (if_pos c10).symm.trans hh
    refine J_iload_n (pc := 19) dX6_status_19 rfl ?_
    refine J_iconst (pc := 20) dX6_status_20 ci_m1 ?_
    refine J_icmp_eq (pc := 21) 30 dX6_status_21 (by decide) (fun c8 => ?_) (fun c8 => ?_)
    · replace hh := (if_pos c8).symm.trans hh
      refine J_iconst (pc := 30) dX6_status_30 ci_0 ?_
      refine J_istore_n (pc := 31) (L' := [some (.ref 0), some (.int p0), some (.int (0 : Int32)), none]) dX6_status_31 rfl (Nat.le_of_ble_eq_true rfl) rfl ?_
      refine J_iconst (pc := 32) dX6_status_32 ci_0 ?_
      refine J_istore_n (pc := 33) (L' := [some (.ref 0), some (.int p0), some (.int (0 : Int32)), some (.int (0 : Int32))]) dX6_status_33 rfl (Nat.le_of_ble_eq_true rfl) rfl ?_
      refine J_drop 1 (L' := [some (.ref 0), none, some (.int (0 : Int32)), some (.int (0 : Int32))]) rfl ?_
      obtain ⟨y6, hy6, hh⟩ := bd_some hh
      refine J_lp (a := ((0 : Int32), (0 : Int32))) (fun a : (Int32 × Int32) => J X MX6_status (d + 2) 34 [some (.ref 0), none, some (.int a.1), some (.int a.2)] [] s w s') (fun t : Int32 => J X MX6_status (d + 2) 55 [none, none, some (.int t), none] [] s w s') (fun a q h1 h2 => jbX6_status_34 d s a.1 a.2 h1 h2) hy6 ?_
      refine J_iload_n (pc := 55) dX6_status_55 rfl ?_
      obtain rfl := Option.some.inj hh
      obtain ⟨rfl, rfl⟩ := hk
      exact J_ret (w := some (.int y6)) ⟨dX6_status_56, _, rfl, rfl⟩
    · replace hh := (if_neg c8).symm.trans hh
      refine J_aload_n (pc := 24) dX6_status_24 rfl ?_
      refine J_iconst (pc := 25) dX6_status_25 ci_0 ?_
      obtain ⟨y7, hy7, hh⟩ := bd_some hh
      refine J_callVi (pc := 26) (M' := MX6_finding) (a := 0) (rest := []) (As := [.int (0 : Int32)]) (L0 := [some (.ref 0), some (.int (0 : Int32))]) okX6_finding ovX6_finding mlX6_68 clX6 so0 rfl rfl (Nat.le_of_ble_eq_true rfl) dX6_status_26 rfl (Nat.le_of_ble_eq_true rfl) (jX6_finding (X := X) d s (0 : Int32) hy7) ?_
      obtain rfl := Option.some.inj hh
      obtain ⟨rfl, rfl⟩ := hk
      exact J_ret (w := some (.int y7.1)) ⟨dX6_status_29, _, rfl, rfl⟩
  · replace hh := (if_neg c10).symm.trans hh
    refine J_aload_n (pc := 12) dX6_status_12 rfl ?_
    refine J_getR (pc := 13) (k := 5) flX6_44 so0 fk0_5 dX6_status_13 ?_
    refine J_iload_n (pc := 16) dX6_status_16 rfl ?_
    obtain ⟨h9, hh⟩ := gd_some hh
    refine J_iald (pc := 17) dX6_status_17 sa18 h9 ?_
    obtain rfl := Option.some.inj hh
    obtain ⟨rfl, rfl⟩ := hk
    exact J_ret (w := some (.int (s.1 18 p0.toNatClampNeg))) ⟨dX6_status_18, _, rfl, rfl⟩
theorem jX6_status {X : Scr} (d : Nat) (s : Mem) (p0 : Int32) {r : (Int32 × Mem)} (hh : fX6_status s p0 = some r) : J X MX6_status (d + 2) 0 [some (.ref 0), some (.int p0), none, none] [] s (some (.int r.1)) r.2 := jjX6_status d s p0 hh ⟨rfl, rfl⟩
