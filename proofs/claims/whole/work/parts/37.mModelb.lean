theorem dX7_of_0 : decode cX7_of 0 = .ok (.iload_n 1, 1) := by decide +kernel
theorem dX7_of_1 : decode cX7_of 1 = .ok (.iload_n 2, 1) := by decide +kernel
theorem dX7_of_2 : decode cX7_of 2 = .ok (.iload_n 3, 1) := by decide +kernel
theorem dX7_of_3 : decode cX7_of 3 = .ok (.invokestatic 148, 3) := by decide +kernel
theorem dX7_of_6 : decode cX7_of 6 = .ok (.ifCond .eq 16, 3) := by decide +kernel
theorem dX7_of_9 : decode cX7_of 9 = .ok (.iload 4, 2) := by decide +kernel
theorem dX7_of_11 : decode cX7_of 11 = .ok (.i2l, 1) := by decide +kernel
theorem dX7_of_12 : decode cX7_of 12 = .ok (.lconst 0, 1) := by decide +kernel
theorem dX7_of_13 : decode cX7_of 13 = .ok (.ldc2_w 103, 3) := by decide +kernel
theorem dX7_of_16 : decode cX7_of 16 = .ok (.invokestatic 63, 3) := by decide +kernel
theorem dX7_of_19 : decode cX7_of 19 = .ok (.ifCond .ne 9, 3) := by decide +kernel
theorem dX7_of_22 : decode cX7_of 22 = .ok (.aload_n 0, 1) := by decide +kernel
theorem dX7_of_23 : decode cX7_of 23 = .ok (.iconst 0, 1) := by decide +kernel
theorem dX7_of_24 : decode cX7_of 24 = .ok (.invokevirtual 158, 3) := by decide +kernel
theorem dX7_of_27 : decode cX7_of 27 = .ok (.ireturn, 1) := by decide +kernel
theorem dX7_of_28 : decode cX7_of 28 = .ok (.iload 4, 2) := by decide +kernel
theorem dX7_of_30 : decode cX7_of 30 = .ok (.ifCond .ne 19, 3) := by decide +kernel
theorem dX7_of_33 : decode cX7_of 33 = .ok (.aload_n 0, 1) := by decide +kernel
theorem dX7_of_34 : decode cX7_of 34 = .ok (.iload_n 1, 1) := by decide +kernel
theorem dX7_of_35 : decode cX7_of 35 = .ok (.iload_n 2, 1) := by decide +kernel
theorem dX7_of_36 : decode cX7_of 36 = .ok (.iload_n 3, 1) := by decide +kernel
theorem dX7_of_37 : decode cX7_of 37 = .ok (.invokevirtual 77, 3) := by decide +kernel
theorem dX7_of_40 : decode cX7_of 40 = .ok (.ifCond .eq 7, 3) := by decide +kernel
theorem dX7_of_43 : decode cX7_of 43 = .ok (.iconst 1, 1) := by decide +kernel
theorem dX7_of_44 : decode cX7_of 44 = .ok (.goto 4, 3) := by decide +kernel
theorem dX7_of_47 : decode cX7_of 47 = .ok (.iconst 0, 1) := by decide +kernel
theorem dX7_of_48 : decode cX7_of 48 = .ok (.ireturn, 1) := by decide +kernel
theorem dX7_of_49 : decode cX7_of 49 = .ok (.aload_n 0, 1) := by decide +kernel
theorem dX7_of_50 : decode cX7_of 50 = .ok (.iload_n 1, 1) := by decide +kernel
theorem dX7_of_51 : decode cX7_of 51 = .ok (.iload_n 2, 1) := by decide +kernel
theorem dX7_of_52 : decode cX7_of 52 = .ok (.iload_n 3, 1) := by decide +kernel
theorem dX7_of_53 : decode cX7_of 53 = .ok (.invokevirtual 77, 3) := by decide +kernel
theorem dX7_of_56 : decode cX7_of 56 = .ok (.ifCond .ne 9, 3) := by decide +kernel
theorem dX7_of_59 : decode cX7_of 59 = .ok (.aload_n 0, 1) := by decide +kernel
theorem dX7_of_60 : decode cX7_of 60 = .ok (.iconst 3, 1) := by decide +kernel
theorem dX7_of_61 : decode cX7_of 61 = .ok (.invokevirtual 158, 3) := by decide +kernel
theorem dX7_of_64 : decode cX7_of 64 = .ok (.ireturn, 1) := by decide +kernel
theorem dX7_of_65 : decode cX7_of 65 = .ok (.aload_n 0, 1) := by decide +kernel
theorem dX7_of_66 : decode cX7_of 66 = .ok (.iload_n 1, 1) := by decide +kernel
theorem dX7_of_67 : decode cX7_of 67 = .ok (.iload_n 2, 1) := by decide +kernel
theorem dX7_of_68 : decode cX7_of 68 = .ok (.iload_n 3, 1) := by decide +kernel
theorem dX7_of_69 : decode cX7_of 69 = .ok (.iconst (-1), 1) := by decide +kernel
theorem dX7_of_70 : decode cX7_of 70 = .ok (.invokevirtual 110, 3) := by decide +kernel
theorem dX7_of_73 : decode cX7_of 73 = .ok (.istore 5, 2) := by decide +kernel
theorem dX7_of_75 : decode cX7_of 75 = .ok (.iload 4, 2) := by decide +kernel
theorem dX7_of_77 : decode cX7_of 77 = .ok (.iconst 4, 1) := by decide +kernel
theorem dX7_of_78 : decode cX7_of 78 = .ok (.if_icmp .ge 20, 3) := by decide +kernel
theorem dX7_of_81 : decode cX7_of 81 = .ok (.aload_n 0, 1) := by decide +kernel
theorem dX7_of_82 : decode cX7_of 82 = .ok (.getfield 9, 3) := by decide +kernel
theorem dX7_of_85 : decode cX7_of 85 = .ok (.iload_n 1, 1) := by decide +kernel
theorem dX7_of_86 : decode cX7_of 86 = .ok (.iload_n 2, 1) := by decide +kernel
theorem dX7_of_87 : decode cX7_of 87 = .ok (.iload_n 3, 1) := by decide +kernel
theorem dX7_of_88 : decode cX7_of 88 = .ok (.invokestatic 73, 3) := by decide +kernel
theorem dX7_of_91 : decode cX7_of 91 = .ok (.iload 4, 2) := by decide +kernel
theorem dX7_of_93 : decode cX7_of 93 = .ok (.iadd, 1) := by decide +kernel
theorem dX7_of_94 : decode cX7_of 94 = .ok (.iaload, 1) := by decide +kernel
theorem dX7_of_95 : decode cX7_of 95 = .ok (.goto 30, 3) := by decide +kernel
theorem dX7_of_98 : decode cX7_of 98 = .ok (.iload 4, 2) := by decide +kernel
theorem dX7_of_100 : decode cX7_of 100 = .ok (.iconst 4, 1) := by decide +kernel
theorem dX7_of_101 : decode cX7_of 101 = .ok (.if_icmp .ne 8, 3) := by decide +kernel
theorem dX7_of_104 : decode cX7_of 104 = .ok (.iload 5, 2) := by decide +kernel
theorem dX7_of_106 : decode cX7_of 106 = .ok (.goto 19, 3) := by decide +kernel
theorem dX7_of_109 : decode cX7_of 109 = .ok (.aload_n 0, 1) := by decide +kernel
theorem dX7_of_110 : decode cX7_of 110 = .ok (.getfield 9, 3) := by decide +kernel
theorem dX7_of_113 : decode cX7_of 113 = .ok (.iload_n 1, 1) := by decide +kernel
theorem dX7_of_114 : decode cX7_of 114 = .ok (.iload_n 2, 1) := by decide +kernel
theorem dX7_of_115 : decode cX7_of 115 = .ok (.iload_n 3, 1) := by decide +kernel
theorem dX7_of_116 : decode cX7_of 116 = .ok (.invokestatic 73, 3) := by decide +kernel
theorem dX7_of_119 : decode cX7_of 119 = .ok (.iconst 2, 1) := by decide +kernel
theorem dX7_of_120 : decode cX7_of 120 = .ok (.iadd, 1) := by decide +kernel
theorem dX7_of_121 : decode cX7_of 121 = .ok (.iaload, 1) := by decide +kernel
theorem dX7_of_122 : decode cX7_of 122 = .ok (.iload 5, 2) := by decide +kernel
theorem dX7_of_124 : decode cX7_of 124 = .ok (.isub, 1) := by decide +kernel
theorem dX7_of_125 : decode cX7_of 125 = .ok (.ireturn, 1) := by decide +kernel
def gX7_of_22 (s : Mem)  : Option (Int32 × Mem) :=
  (fX7_finds s (0 : Int32)).bind (fun y2 => some ((y2.1, y2.2)))
set_option maxRecDepth 4000 in
theorem jgX7_of_22 {X : Scr} (d : Nat) (s : Mem)  {r : (Int32 × Mem)} {w : Option Value} {s' : Mem} (hh : gX7_of_22 s = some r) (hk : w = some (.int r.1) ∧ r.2 = s') : J X MX7_of (d + 4) 22 [some (.ref 19), none, none, none, none, none] [] s w s' := by
  unfold gX7_of_22 at hh
  refine J_aload_n (pc := 22) dX7_of_22 rfl ?_
  refine J_iconst (pc := 23) dX7_of_23 ci_0 ?_
  obtain ⟨y2, hy2, hh⟩ := bd_some hh
  refine J_callVi (pc := 24) (M' := MX7_finds) (a := 19) (rest := []) (As := [.int (0 : Int32)]) (L0 := [some (.ref 19), some (.int (0 : Int32))]) okX7_finds ovX7_finds mlX7_158 clX7 so19 rfl rfl (Nat.le_of_ble_eq_true rfl) dX7_of_24 rfl (Nat.le_of_ble_eq_true rfl) (jX7_finds (X := X) (d + 3) s (0 : Int32) hy2) ?_
  obtain rfl := Option.some.inj hh
  obtain ⟨rfl, rfl⟩ := hk
  exact J_ret (w := some (.int y2.1)) ⟨dX7_of_27, _, rfl, rfl⟩
def fX7_of (s : Mem) (p0 : Int32) (p1 : Int32) (p2 : Int32) (p3 : Int32) : Option (Int32 × Mem) :=
  (fX7_isSection p0 p1 p2).bind (fun y1 => if y1 = (0 : Int32) then gX7_of_22 s else (fX7_in (p3.toInt64) (0 : Int64) (5 : Int64)).bind (fun y3 => if y3 = (0 : Int32) then gX7_of_22 s else if p3 = (0 : Int32) then (fX7_isOpen s p0 p1 p2).bind (fun y14 => if y14 = (0 : Int32) then some (((0 : Int32), s)) else some (((1 : Int32), s))) else (fX7_isOpen s p0 p1 p2).bind (fun y4 => if y4 = (0 : Int32) then (fX7_finds s (3 : Int32)).bind (fun y12 => some ((y12.1, y12.2))) else (fX7_takenBut s p0 p1 p2 (-1 : Int32)).bind (fun y5 => if (4 : Int32) ≤ p3 then if p3 = (4 : Int32) then some ((y5, s)) else (fX7_at p0 p1 p2).bind (fun y6 => gd (y6 + (2 : Int32)) 139 (some (((s.1 20 (y6 + (2 : Int32)).toNatClampNeg) - y5, s)))) else (fX7_at p0 p1 p2).bind (fun y9 => gd (y9 + p3) 139 (some ((s.1 20 (y9 + p3).toNatClampNeg, s))))))))
set_option maxRecDepth 4000 in
theorem jjX7_of {X : Scr} (d : Nat) (s : Mem) (p0 : Int32) (p1 : Int32) (p2 : Int32) (p3 : Int32) {r : (Int32 × Mem)} {w : Option Value} {s' : Mem} (hh : fX7_of s p0 p1 p2 p3 = some r) (hk : w = some (.int r.1) ∧ r.2 = s') : J X MX7_of (d + 4) 0 [some (.ref 19), some (.int p0), some (.int p1), some (.int p2), some (.int p3), none] [] s w s' := by
  unfold fX7_of at hh
  refine J_iload_n (pc := 0) dX7_of_0 rfl ?_
  refine J_iload_n (pc := 1) dX7_of_1 rfl ?_
  refine J_iload_n (pc := 2) dX7_of_2 rfl ?_
  obtain ⟨y1, hy1, hh⟩ := bd_some hh
  refine J_callSi (pc := 3) (M' := MX7_isSection) (rest := []) (As := [.int p0, .int p1, .int p2]) (L0 := [some (.int p0), some (.int p1), some (.int p2)]) okX7_isSection osX7_isSection mlX7_148 rfl rfl (Nat.le_of_ble_eq_true rfl) dX7_of_3 rfl (Nat.le_of_ble_eq_true rfl) (jX7_isSection (X := X) (d + 1) s p0 p1 p2 hy1) ?_
  refine J_if_eq (pc := 6) 22 dX7_of_6 (by decide) (fun c18 => ?_) (fun c18 => ?_)
  · replace hh := (if_pos c18).symm.trans hh
    refine J_drop 1 (L' := [some (.ref 19), none, some (.int p1), some (.int p2), some (.int p3), none]) rfl ?_
    refine J_drop 2 (L' := [some (.ref 19), none, none, some (.int p2), some (.int p3), none]) rfl ?_
    refine J_drop 3 (L' := [some (.ref 19), none, none, none, some (.int p3), none]) rfl ?_
    refine J_drop 4 (L' := [some (.ref 19), none, none, none, none, none]) rfl ?_
    exact jgX7_of_22 d s hh hk
  · replace hh := (if_neg c18).symm.trans hh
    refine J_iload (pc := 9) dX7_of_9 rfl ?_
    refine J_i2l (pc := 11) dX7_of_11 ?_
    refine J_lconst (pc := 12) (v := 0) dX7_of_12 rfl ?_
    refine J_ldc2 (pc := 13) klX7_103 dX7_of_13 ?_
    obtain ⟨y3, hy3, hh⟩ := bd_some hh
    refine J_callSi (pc := 16) (M' := MX7_in) (rest := []) (As := [.long (p3.toInt64), .long (0 : Int64), .long (5 : Int64)]) (L0 := [some (.long (p3.toInt64)), none, some (.long (0 : Int64)), none, some (.long (5 : Int64)), none]) okX7_in osX7_in mlX7_63 rfl rfl (Nat.le_of_ble_eq_true rfl) dX7_of_16 rfl (Nat.le_of_ble_eq_true rfl) (jX7_in (X := X) (d + 3) s (p3.toInt64) (0 : Int64) (5 : Int64) hy3) ?_
    refine J_if_ne (pc := 19) 28 dX7_of_19 (by decide) (fun c17 => ?_) (fun c17 => ?_)
    · replace hh := (if_neg c17).symm.trans hh
      refine J_iload (pc := 28) dX7_of_28 rfl ?_
      refine J_if_ne (pc := 30) 49 dX7_of_30 (by decide) (fun c16 => ?_) (fun c16 => ?_)
      · replace hh := (if_neg c16).symm.trans hh
        refine J_aload_n (pc := 49) dX7_of_49 rfl ?_
        refine J_iload_n (pc := 50) dX7_of_50 rfl ?_
        refine J_iload_n (pc := 51) dX7_of_51 rfl ?_
        refine J_iload_n (pc := 52) dX7_of_52 rfl ?_
        obtain ⟨y4, hy4, hh⟩ := bd_some hh
        refine J_callVi (pc := 53) (M' := MX7_isOpen) (a := 19) (rest := []) (As := [.int p0, .int p1, .int p2]) (L0 := [some (.ref 19), some (.int p0), some (.int p1), some (.int p2)]) okX7_isOpen ovX7_isOpen mlX7_77 clX7 so19 rfl rfl (Nat.le_of_ble_eq_true rfl) dX7_of_53 rfl (Nat.le_of_ble_eq_true rfl) (jX7_isOpen (X := X) (d + 2) s p0 p1 p2 hy4) ?_
        refine J_if_ne (pc := 56) 65 dX7_of_56 (by decide) (fun c13 => ?_) (fun c13 => ?_)
        · replace hh := (if_neg c13).symm.trans hh
          refine J_aload_n (pc := 65) dX7_of_65 rfl ?_
          refine J_iload_n (pc := 66) dX7_of_66 rfl ?_
          refine J_iload_n (pc := 67) dX7_of_67 rfl ?_
          refine J_iload_n (pc := 68) dX7_of_68 rfl ?_
          refine J_iconst (pc := 69) dX7_of_69 ci_m1 ?_
          obtain ⟨y5, hy5, hh⟩ := bd_some hh
          refine J_callVi (pc := 70) (M' := MX7_takenBut) (a := 19) (rest := []) (As := [.int p0, .int p1, .int p2, .int (-1 : Int32)]) (L0 := [some (.ref 19), some (.int p0), some (.int p1), some (.int p2), some (.int (-1 : Int32)), none, none, none]) okX7_takenBut ovX7_takenBut mlX7_110 clX7 so19 rfl rfl (Nat.le_of_ble_eq_true rfl) dX7_of_70 rfl (Nat.le_of_ble_eq_true rfl) (jX7_takenBut (X := X) d s p0 p1 p2 (-1 : Int32) hy5) ?_
          refine J_istore (pc := 73) (L' := [some (.ref 19), some (.int p0), some (.int p1), some (.int p2), some (.int p3), some (.int y5)]) dX7_of_73 rfl (Nat.le_of_ble_eq_true rfl) rfl ?_
          refine J_iload (pc := 75) dX7_of_75 rfl ?_
          refine J_iconst (pc := 77) dX7_of_77 ci_4 ?_
          refine J_icmp_ge (pc := 78) 98 dX7_of_78 (by decide) (fun c11 => ?_) (fun c11 => ?_)
          · replace hh := (if_pos c11).symm.trans hh
            refine J_iload (pc := 98) dX7_of_98 rfl ?_
            refine J_iconst (pc := 100) dX7_of_100 ci_4 ?_
            refine J_icmp_ne (pc := 101) 109 dX7_of_101 (by decide) (fun c8 => ?_) (fun c8 => ?_)
            · replace hh := (if_neg c8).symm.trans hh
              refine J_aload_n (pc := 109) dX7_of_109 rfl ?_
              refine J_getR (pc := 110) (k := 0) flX7_9 so19 fk19_0 dX7_of_110 ?_
              refine J_iload_n (pc := 113) dX7_of_113 rfl ?_
              refine J_iload_n (pc := 114) dX7_of_114 rfl ?_
              refine J_iload_n (pc := 115) dX7_of_115 rfl ?_
              obtain ⟨y6, hy6, hh⟩ := bd_some hh
              refine J_callSi (pc := 116) (M' := MX7_at) (rest := [.ref 20]) (As := [.int p0, .int p1, .int p2]) (L0 := [some (.int p0), some (.int p1), some (.int p2)]) okX7_at osX7_at mlX7_73 rfl rfl (Nat.le_of_ble_eq_true rfl) dX7_of_116 rfl (Nat.le_of_ble_eq_true rfl) (jX7_at (X := X) (d + 3) s p0 p1 p2 hy6) ?_
              refine J_iconst (pc := 119) dX7_of_119 ci_2 ?_
              refine J_iadd (pc := 120) dX7_of_120 ?_
              obtain ⟨h7, hh⟩ := gd_some hh
              refine J_iald (pc := 121) dX7_of_121 sa20 h7 ?_
              refine J_iload (pc := 122) dX7_of_122 rfl ?_
              refine J_isub (pc := 124) dX7_of_124 ?_
              obtain rfl := Option.some.inj hh
              obtain ⟨rfl, rfl⟩ := hk
              exact J_ret (w := some (.int ((s.1 20 (y6 + (2 : Int32)).toNatClampNeg) - y5))) ⟨dX7_of_125, _, rfl, rfl⟩
            · replace hh := (if_pos c8).symm.trans hh
              refine J_iload (pc := 104) dX7_of_104 rfl ?_
              refine J_goto (pc := 106) 125 dX7_of_106 (by decide) ?_
              obtain rfl := Option.some.inj hh
              obtain ⟨rfl, rfl⟩ := hk
              exact J_ret (w := some (.int y5)) ⟨dX7_of_125, _, rfl, rfl⟩
          · replace hh := (if_neg c11).symm.trans hh
            refine J_aload_n (pc := 81) dX7_of_81 rfl ?_
            refine J_getR (pc := 82) (k := 0) flX7_9 so19 fk19_0 dX7_of_82 ?_
            refine J_iload_n (pc := 85) dX7_of_85 rfl ?_
            refine J_iload_n (pc := 86) dX7_of_86 rfl ?_
            refine J_iload_n (pc := 87) dX7_of_87 rfl ?_
            obtain ⟨y9, hy9, hh⟩ := bd_some hh
            refine J_callSi (pc := 88) (M' := MX7_at) (rest := [.ref 20]) (As := [.int p0, .int p1, .int p2]) (L0 := [some (.int p0), some (.int p1), some (.int p2)]) okX7_at osX7_at mlX7_73 rfl rfl (Nat.le_of_ble_eq_true rfl) dX7_of_88 rfl (Nat.le_of_ble_eq_true rfl) (jX7_at (X := X) (d + 3) s p0 p1 p2 hy9) ?_
            refine J_iload (pc := 91) dX7_of_91 rfl ?_
            refine J_iadd (pc := 93) dX7_of_93 ?_
            obtain ⟨h10, hh⟩ := gd_some hh
            refine J_iald (pc := 94) dX7_of_94 sa20 h10 ?_
            refine J_goto (pc := 95) 125 dX7_of_95 (by decide) ?_
            obtain rfl := Option.some.inj hh
            obtain ⟨rfl, rfl⟩ := hk
            exact J_ret (w := some (.int (s.1 20 (y9 + p3).toNatClampNeg))) ⟨dX7_of_125, _, rfl, rfl⟩
        · replace hh := (if_pos c13).symm.trans hh
          refine J_aload_n (pc := 59) dX7_of_59 rfl ?_
          refine J_iconst (pc := 60) dX7_of_60 ci_3 ?_
          obtain ⟨y12, hy12, hh⟩ := bd_some hh
          refine J_callVi (pc := 61) (M' := MX7_finds) (a := 19) (rest := []) (As := [.int (3 : Int32)]) (L0 := [some (.ref 19), some (.int (3 : Int32))]) okX7_finds ovX7_finds mlX7_158 clX7 so19 rfl rfl (Nat.le_of_ble_eq_true rfl) dX7_of_61 rfl (Nat.le_of_ble_eq_true rfl) (jX7_finds (X := X) (d + 3) s (3 : Int32) hy12) ?_
          obtain rfl := Option.some.inj hh
          obtain ⟨rfl, rfl⟩ := hk
          exact J_ret (w := some (.int y12.1)) ⟨dX7_of_64, _, rfl, rfl⟩
      · replace hh := (if_pos c16).symm.trans hh
        refine J_aload_n (pc := 33) dX7_of_33 rfl ?_
        refine J_iload_n (pc := 34) dX7_of_34 rfl ?_
        refine J_iload_n (pc := 35) dX7_of_35 rfl ?_
        refine J_iload_n (pc := 36) dX7_of_36 rfl ?_
        obtain ⟨y14, hy14, hh⟩ := bd_some hh
        refine J_callVi (pc := 37) (M' := MX7_isOpen) (a := 19) (rest := []) (As := [.int p0, .int p1, .int p2]) (L0 := [some (.ref 19), some (.int p0), some (.int p1), some (.int p2)]) okX7_isOpen ovX7_isOpen mlX7_77 clX7 so19 rfl rfl (Nat.le_of_ble_eq_true rfl) dX7_of_37 rfl (Nat.le_of_ble_eq_true rfl) (jX7_isOpen (X := X) (d + 2) s p0 p1 p2 hy14) ?_
        refine J_if_eq (pc := 40) 47 dX7_of_40 (by decide) (fun c15 => ?_) (fun c15 => ?_)
        · replace hh := (if_pos c15).symm.trans hh
          refine J_iconst (pc := 47) dX7_of_47 ci_0 ?_
          obtain rfl := Option.some.inj hh
          obtain ⟨rfl, rfl⟩ := hk
          exact J_ret (w := some (.int (0 : Int32))) ⟨dX7_of_48, _, rfl, rfl⟩
        · replace hh := (if_neg c15).symm.trans hh
          refine J_iconst (pc := 43) dX7_of_43 ci_1 ?_
          refine J_goto (pc := 44) 48 dX7_of_44 (by decide) ?_
          obtain rfl := Option.some.inj hh
          obtain ⟨rfl, rfl⟩ := hk
          exact J_ret (w := some (.int (1 : Int32))) ⟨dX7_of_48, _, rfl, rfl⟩
    · replace hh := (if_pos c17).symm.trans hh
      refine J_drop 1 (L' := [some (.ref 19), none, some (.int p1), some (.int p2), some (.int p3), none]) rfl ?_
      refine J_drop 2 (L' := [some (.ref 19), none, none, some (.int p2), some (.int p3), none]) rfl ?_
      refine J_drop 3 (L' := [some (.ref 19), none, none, none, some (.int p3), none]) rfl ?_
      refine J_drop 4 (L' := [some (.ref 19), none, none, none, none, none]) rfl ?_
      exact jgX7_of_22 d s hh hk
theorem jX7_of {X : Scr} (d : Nat) (s : Mem) (p0 : Int32) (p1 : Int32) (p2 : Int32) (p3 : Int32) {r : (Int32 × Mem)} (hh : fX7_of s p0 p1 p2 p3 = some r) : J X MX7_of (d + 4) 0 [some (.ref 19), some (.int p0), some (.int p1), some (.int p2), some (.int p3), none] [] s (some (.int r.1)) r.2 := jjX7_of d s p0 p1 p2 p3 hh ⟨rfl, rfl⟩
theorem dX7_triples_0 : decode cX7_triples 0 = .ok (.iload_n 1, 1) := by decide +kernel
theorem dX7_triples_1 : decode cX7_triples 1 = .ok (.invokestatic 139, 3) := by decide +kernel
theorem dX7_triples_4 : decode cX7_triples 4 = .ok (.ifCond .eq 11, 3) := by decide +kernel
theorem dX7_triples_7 : decode cX7_triples 7 = .ok (.aload_n 0, 1) := by decide +kernel
theorem dX7_triples_8 : decode cX7_triples 8 = .ok (.iload_n 1, 1) := by decide +kernel
theorem dX7_triples_9 : decode cX7_triples 9 = .ok (.invokevirtual 171, 3) := by decide +kernel
theorem dX7_triples_12 : decode cX7_triples 12 = .ok (.goto 8, 3) := by decide +kernel
theorem dX7_triples_15 : decode cX7_triples 15 = .ok (.aload_n 0, 1) := by decide +kernel
theorem dX7_triples_16 : decode cX7_triples 16 = .ok (.iconst 0, 1) := by decide +kernel
theorem dX7_triples_17 : decode cX7_triples 17 = .ok (.invokevirtual 158, 3) := by decide +kernel
theorem dX7_triples_20 : decode cX7_triples 20 = .ok (.ireturn, 1) := by decide +kernel
def fX7_triples (s : Mem) (p0 : Int32) : Option (Int32 × Mem) :=
  (fX7_isCourse p0).bind (fun y1 => if y1 = (0 : Int32) then (fX7_finds s (0 : Int32)).bind (fun y2 => some ((y2.1, y2.2))) else (fX7_lawful s p0).bind (fun y3 => some ((y3, s))))
set_option maxRecDepth 4000 in
theorem jjX7_triples {X : Scr} (d : Nat) (s : Mem) (p0 : Int32) {r : (Int32 × Mem)} {w : Option Value} {s' : Mem} (hh : fX7_triples s p0 = some r) (hk : w = some (.int r.1) ∧ r.2 = s') : J X MX7_triples (d + 6) 0 [some (.ref 19), some (.int p0)] [] s w s' := by
  unfold fX7_triples at hh
  refine J_iload_n (pc := 0) dX7_triples_0 rfl ?_
  obtain ⟨y1, hy1, hh⟩ := bd_some hh
  refine J_callSi (pc := 1) (M' := MX7_isCourse) (rest := []) (As := [.int p0]) (L0 := [some (.int p0)]) okX7_isCourse osX7_isCourse mlX7_139 rfl rfl (Nat.le_of_ble_eq_true rfl) dX7_triples_1 rfl (Nat.le_of_ble_eq_true rfl) (jX7_isCourse (X := X) (d + 4) s p0 hy1) ?_
  refine J_if_eq (pc := 4) 15 dX7_triples_4 (by decide) (fun c4 => ?_) (fun c4 => ?_)
  · replace hh := (if_pos c4).symm.trans hh
    refine J_aload_n (pc := 15) dX7_triples_15 rfl ?_
    refine J_iconst (pc := 16) dX7_triples_16 ci_0 ?_
    obtain ⟨y2, hy2, hh⟩ := bd_some hh
    refine J_callVi (pc := 17) (M' := MX7_finds) (a := 19) (rest := []) (As := [.int (0 : Int32)]) (L0 := [some (.ref 19), some (.int (0 : Int32))]) okX7_finds ovX7_finds mlX7_158 clX7 so19 rfl rfl (Nat.le_of_ble_eq_true rfl) dX7_triples_17 rfl (Nat.le_of_ble_eq_true rfl) (jX7_finds (X := X) (d + 5) s (0 : Int32) hy2) ?_
    obtain rfl := Option.some.inj hh
    obtain ⟨rfl, rfl⟩ := hk
    exact J_ret (w := some (.int y2.1)) ⟨dX7_triples_20, _, rfl, rfl⟩
  · replace hh := (if_neg c4).symm.trans hh
    refine J_aload_n (pc := 7) dX7_triples_7 rfl ?_
    refine J_iload_n (pc := 8) dX7_triples_8 rfl ?_
    obtain ⟨y3, hy3, hh⟩ := bd_some hh
    refine J_callVi (pc := 9) (M' := MX7_lawful) (a := 19) (rest := []) (As := [.int p0]) (L0 := [some (.ref 19), some (.int p0), none, none]) okX7_lawful ovX7_lawful mlX7_171 clX7 so19 rfl rfl (Nat.le_of_ble_eq_true rfl) dX7_triples_9 rfl (Nat.le_of_ble_eq_true rfl) (jX7_lawful (X := X) d s p0 hy3) ?_
    refine J_goto (pc := 12) 20 dX7_triples_12 (by decide) ?_
    obtain rfl := Option.some.inj hh
    obtain ⟨rfl, rfl⟩ := hk
    exact J_ret (w := some (.int y3)) ⟨dX7_triples_20, _, rfl, rfl⟩
theorem jX7_triples {X : Scr} (d : Nat) (s : Mem) (p0 : Int32) {r : (Int32 × Mem)} (hh : fX7_triples s p0 = some r) : J X MX7_triples (d + 6) 0 [some (.ref 19), some (.int p0)] [] s (some (.int r.1)) r.2 := jjX7_triples d s p0 hh ⟨rfl, rfl⟩
theorem dX7_time_0 : decode cX7_time 0 = .ok (.iload_n 1, 1) := by decide +kernel
theorem dX7_time_1 : decode cX7_time 1 = .ok (.invokestatic 139, 3) := by decide +kernel
theorem dX7_time_4 : decode cX7_time 4 = .ok (.ifCond .eq 15, 3) := by decide +kernel
theorem dX7_time_7 : decode cX7_time 7 = .ok (.iload_n 2, 1) := by decide +kernel
theorem dX7_time_8 : decode cX7_time 8 = .ok (.i2l, 1) := by decide +kernel
theorem dX7_time_9 : decode cX7_time 9 = .ok (.lconst 0, 1) := by decide +kernel
theorem dX7_time_10 : decode cX7_time 10 = .ok (.ldc2_w 178, 3) := by decide +kernel
theorem dX7_time_13 : decode cX7_time 13 = .ok (.invokestatic 63, 3) := by decide +kernel
theorem dX7_time_16 : decode cX7_time 16 = .ok (.ifCond .ne 9, 3) := by decide +kernel
theorem dX7_time_19 : decode cX7_time 19 = .ok (.aload_n 0, 1) := by decide +kernel
theorem dX7_time_20 : decode cX7_time 20 = .ok (.iconst 0, 1) := by decide +kernel
theorem dX7_time_21 : decode cX7_time 21 = .ok (.invokevirtual 158, 3) := by decide +kernel
theorem dX7_time_24 : decode cX7_time 24 = .ok (.ireturn, 1) := by decide +kernel
theorem dX7_time_25 : decode cX7_time 25 = .ok (.aload_n 0, 1) := by decide +kernel
theorem dX7_time_26 : decode cX7_time 26 = .ok (.iload_n 1, 1) := by decide +kernel
theorem dX7_time_27 : decode cX7_time 27 = .ok (.iload_n 2, 1) := by decide +kernel
theorem dX7_time_28 : decode cX7_time 28 = .ok (.invokevirtual 98, 3) := by decide +kernel
theorem dX7_time_31 : decode cX7_time 31 = .ok (.ifCond .eq 12, 3) := by decide +kernel
theorem dX7_time_34 : decode cX7_time 34 = .ok (.aload_n 0, 1) := by decide +kernel
theorem dX7_time_35 : decode cX7_time 35 = .ok (.iload_n 1, 1) := by decide +kernel
theorem dX7_time_36 : decode cX7_time 36 = .ok (.iload_n 2, 1) := by decide +kernel
theorem dX7_time_37 : decode cX7_time 37 = .ok (.invokevirtual 108, 3) := by decide +kernel
theorem dX7_time_40 : decode cX7_time 40 = .ok (.goto 8, 3) := by decide +kernel
theorem dX7_time_43 : decode cX7_time 43 = .ok (.aload_n 0, 1) := by decide +kernel
theorem dX7_time_44 : decode cX7_time 44 = .ok (.iconst 3, 1) := by decide +kernel
theorem dX7_time_45 : decode cX7_time 45 = .ok (.invokevirtual 158, 3) := by decide +kernel
theorem dX7_time_48 : decode cX7_time 48 = .ok (.ireturn, 1) := by decide +kernel
def gX7_time_19 (s : Mem)  : Option (Int32 × Mem) :=
  (fX7_finds s (0 : Int32)).bind (fun y2 => some ((y2.1, y2.2)))
set_option maxRecDepth 4000 in
theorem jgX7_time_19 {X : Scr} (d : Nat) (s : Mem)  {r : (Int32 × Mem)} {w : Option Value} {s' : Mem} (hh : gX7_time_19 s = some r) (hk : w = some (.int r.1) ∧ r.2 = s') : J X MX7_time (d + 5) 19 [some (.ref 19), none, none] [] s w s' := by
  unfold gX7_time_19 at hh
  refine J_aload_n (pc := 19) dX7_time_19 rfl ?_
  refine J_iconst (pc := 20) dX7_time_20 ci_0 ?_
  obtain ⟨y2, hy2, hh⟩ := bd_some hh
  refine J_callVi (pc := 21) (M' := MX7_finds) (a := 19) (rest := []) (As := [.int (0 : Int32)]) (L0 := [some (.ref 19), some (.int (0 : Int32))]) okX7_finds ovX7_finds mlX7_158 clX7 so19 rfl rfl (Nat.le_of_ble_eq_true rfl) dX7_time_21 rfl (Nat.le_of_ble_eq_true rfl) (jX7_finds (X := X) (d + 4) s (0 : Int32) hy2) ?_
  obtain rfl := Option.some.inj hh
  obtain ⟨rfl, rfl⟩ := hk
  exact J_ret (w := some (.int y2.1)) ⟨dX7_time_24, _, rfl, rfl⟩
def fX7_time (s : Mem) (p0 : Int32) (p1 : Int32) : Option (Int32 × Mem) :=
  (fX7_isCourse p0).bind (fun y1 => if y1 = (0 : Int32) then gX7_time_19 s else (fX7_in (p1.toInt64) (0 : Int64) (7 : Int64)).bind (fun y3 => if y3 = (0 : Int32) then gX7_time_19 s else (fX7_isLawful s p0 p1).bind (fun y4 => if y4 = (0 : Int32) then (fX7_finds s (3 : Int32)).bind (fun y5 => some ((y5.1, y5.2))) else (fX7_timeOf_ s p0 p1).bind (fun y6 => some ((y6, s))))))
set_option maxRecDepth 4000 in
theorem jjX7_time {X : Scr} (d : Nat) (s : Mem) (p0 : Int32) (p1 : Int32) {r : (Int32 × Mem)} {w : Option Value} {s' : Mem} (hh : fX7_time s p0 p1 = some r) (hk : w = some (.int r.1) ∧ r.2 = s') : J X MX7_time (d + 5) 0 [some (.ref 19), some (.int p0), some (.int p1)] [] s w s' := by
  unfold fX7_time at hh
  refine J_iload_n (pc := 0) dX7_time_0 rfl ?_
  obtain ⟨y1, hy1, hh⟩ := bd_some hh
  refine J_callSi (pc := 1) (M' := MX7_isCourse) (rest := []) (As := [.int p0]) (L0 := [some (.int p0)]) okX7_isCourse osX7_isCourse mlX7_139 rfl rfl (Nat.le_of_ble_eq_true rfl) dX7_time_1 rfl (Nat.le_of_ble_eq_true rfl) (jX7_isCourse (X := X) (d + 3) s p0 hy1) ?_
  refine J_if_eq (pc := 4) 19 dX7_time_4 (by decide) (fun c9 => ?_) (fun c9 => ?_)
  · replace hh := (if_pos c9).symm.trans hh
    refine J_drop 1 (L' := [some (.ref 19), none, some (.int p1)]) rfl ?_
    refine J_drop 2 (L' := [some (.ref 19), none, none]) rfl ?_
    exact jgX7_time_19 d s hh hk
  · replace hh := (if_neg c9).symm.trans hh
    refine J_iload_n (pc := 7) dX7_time_7 rfl ?_
    refine J_i2l (pc := 8) dX7_time_8 ?_
    refine J_lconst (pc := 9) (v := 0) dX7_time_9 rfl ?_
    refine J_ldc2 (pc := 10) klX7_178 dX7_time_10 ?_
    obtain ⟨y3, hy3, hh⟩ := bd_some hh
    refine J_callSi (pc := 13) (M' := MX7_in) (rest := []) (As := [.long (p1.toInt64), .long (0 : Int64), .long (7 : Int64)]) (L0 := [some (.long (p1.toInt64)), none, some (.long (0 : Int64)), none, some (.long (7 : Int64)), none]) okX7_in osX7_in mlX7_63 rfl rfl (Nat.le_of_ble_eq_true rfl) dX7_time_13 rfl (Nat.le_of_ble_eq_true rfl) (jX7_in (X := X) (d + 4) s (p1.toInt64) (0 : Int64) (7 : Int64) hy3) ?_
    refine J_if_ne (pc := 16) 25 dX7_time_16 (by decide) (fun c8 => ?_) (fun c8 => ?_)
    · replace hh := (if_neg c8).symm.trans hh
      refine J_aload_n (pc := 25) dX7_time_25 rfl ?_
      refine J_iload_n (pc := 26) dX7_time_26 rfl ?_
      refine J_iload_n (pc := 27) dX7_time_27 rfl ?_
      obtain ⟨y4, hy4, hh⟩ := bd_some hh
      refine J_callVi (pc := 28) (M' := MX7_isLawful) (a := 19) (rest := []) (As := [.int p0, .int p1]) (L0 := [some (.ref 19), some (.int p0), some (.int p1), none, none, none]) okX7_isLawful ovX7_isLawful mlX7_98 clX7 so19 rfl rfl (Nat.le_of_ble_eq_true rfl) dX7_time_28 rfl (Nat.le_of_ble_eq_true rfl) (jX7_isLawful (X := X) d s p0 p1 hy4) ?_
      refine J_if_eq (pc := 31) 43 dX7_time_31 (by decide) (fun c7 => ?_) (fun c7 => ?_)
      · replace hh := (if_pos c7).symm.trans hh
        refine J_aload_n (pc := 43) dX7_time_43 rfl ?_
        refine J_iconst (pc := 44) dX7_time_44 ci_3 ?_
        obtain ⟨y5, hy5, hh⟩ := bd_some hh
        refine J_callVi (pc := 45) (M' := MX7_finds) (a := 19) (rest := []) (As := [.int (3 : Int32)]) (L0 := [some (.ref 19), some (.int (3 : Int32))]) okX7_finds ovX7_finds mlX7_158 clX7 so19 rfl rfl (Nat.le_of_ble_eq_true rfl) dX7_time_45 rfl (Nat.le_of_ble_eq_true rfl) (jX7_finds (X := X) (d + 4) s (3 : Int32) hy5) ?_
        obtain rfl := Option.some.inj hh
        obtain ⟨rfl, rfl⟩ := hk
        exact J_ret (w := some (.int y5.1)) ⟨dX7_time_48, _, rfl, rfl⟩
      · replace hh := (if_neg c7).symm.trans hh
        refine J_aload_n (pc := 34) dX7_time_34 rfl ?_
        refine J_iload_n (pc := 35) dX7_time_35 rfl ?_
        refine J_iload_n (pc := 36) dX7_time_36 rfl ?_
        obtain ⟨y6, hy6, hh⟩ := bd_some hh
        refine J_callVi (pc := 37) (M' := MX7_timeOf_) (a := 19) (rest := []) (As := [.int p0, .int p1]) (L0 := [some (.ref 19), some (.int p0), some (.int p1)]) okX7_timeOf_ ovX7_timeOf_ mlX7_108 clX7 so19 rfl rfl (Nat.le_of_ble_eq_true rfl) dX7_time_37 rfl (Nat.le_of_ble_eq_true rfl) (jX7_timeOf_ (X := X) d s p0 p1 hy6) ?_
        refine J_goto (pc := 40) 48 dX7_time_40 (by decide) ?_
        obtain rfl := Option.some.inj hh
        obtain ⟨rfl, rfl⟩ := hk
        exact J_ret (w := some (.int y6)) ⟨dX7_time_48, _, rfl, rfl⟩
    · replace hh := (if_pos c8).symm.trans hh
      refine J_drop 1 (L' := [some (.ref 19), none, some (.int p1)]) rfl ?_
      refine J_drop 2 (L' := [some (.ref 19), none, none]) rfl ?_
      exact jgX7_time_19 d s hh hk
theorem jX7_time {X : Scr} (d : Nat) (s : Mem) (p0 : Int32) (p1 : Int32) {r : (Int32 × Mem)} (hh : fX7_time s p0 p1 = some r) : J X MX7_time (d + 5) 0 [some (.ref 19), some (.int p0), some (.int p1)] [] s (some (.int r.1)) r.2 := jjX7_time d s p0 p1 hh ⟨rfl, rfl⟩
theorem dX7_unevenOf_0 : decode cX7_unevenOf 0 = .ok (.iconst 0, 1) := by decide +kernel
theorem dX7_unevenOf_1 : decode cX7_unevenOf 1 = .ok (.istore_n 2, 1) := by decide +kernel
theorem dX7_unevenOf_2 : decode cX7_unevenOf 2 = .ok (.iconst 0, 1) := by decide +kernel
theorem dX7_unevenOf_3 : decode cX7_unevenOf 3 = .ok (.istore_n 3, 1) := by decide +kernel
theorem dX7_unevenOf_4 : decode cX7_unevenOf 4 = .ok (.iload_n 3, 1) := by decide +kernel
theorem dX7_unevenOf_5 : decode cX7_unevenOf 5 = .ok (.iconst 3, 1) := by decide +kernel
theorem dX7_unevenOf_6 : decode cX7_unevenOf 6 = .ok (.if_icmp .ge 52, 3) := by decide +kernel
theorem dX7_unevenOf_9 : decode cX7_unevenOf 9 = .ok (.aload_n 0, 1) := by decide +kernel
theorem dX7_unevenOf_10 : decode cX7_unevenOf 10 = .ok (.iload_n 1, 1) := by decide +kernel
theorem dX7_unevenOf_11 : decode cX7_unevenOf 11 = .ok (.iload_n 3, 1) := by decide +kernel
theorem dX7_unevenOf_12 : decode cX7_unevenOf 12 = .ok (.iconst 0, 1) := by decide +kernel
theorem dX7_unevenOf_13 : decode cX7_unevenOf 13 = .ok (.invokevirtual 77, 3) := by decide +kernel
theorem dX7_unevenOf_16 : decode cX7_unevenOf 16 = .ok (.ifCond .eq 36, 3) := by decide +kernel
theorem dX7_unevenOf_19 : decode cX7_unevenOf 19 = .ok (.aload_n 0, 1) := by decide +kernel
theorem dX7_unevenOf_20 : decode cX7_unevenOf 20 = .ok (.iload_n 1, 1) := by decide +kernel
theorem dX7_unevenOf_21 : decode cX7_unevenOf 21 = .ok (.iload_n 3, 1) := by decide +kernel
theorem dX7_unevenOf_22 : decode cX7_unevenOf 22 = .ok (.iconst 1, 1) := by decide +kernel
theorem dX7_unevenOf_23 : decode cX7_unevenOf 23 = .ok (.invokevirtual 77, 3) := by decide +kernel
theorem dX7_unevenOf_26 : decode cX7_unevenOf 26 = .ok (.ifCond .eq 26, 3) := by decide +kernel
theorem dX7_unevenOf_29 : decode cX7_unevenOf 29 = .ok (.iload_n 2, 1) := by decide +kernel
theorem dX7_unevenOf_30 : decode cX7_unevenOf 30 = .ok (.aload_n 0, 1) := by decide +kernel
theorem dX7_unevenOf_31 : decode cX7_unevenOf 31 = .ok (.iload_n 1, 1) := by decide +kernel
theorem dX7_unevenOf_32 : decode cX7_unevenOf 32 = .ok (.iload_n 3, 1) := by decide +kernel
theorem dX7_unevenOf_33 : decode cX7_unevenOf 33 = .ok (.iconst 0, 1) := by decide +kernel
theorem dX7_unevenOf_34 : decode cX7_unevenOf 34 = .ok (.iconst (-1), 1) := by decide +kernel
theorem dX7_unevenOf_35 : decode cX7_unevenOf 35 = .ok (.invokevirtual 110, 3) := by decide +kernel
theorem dX7_unevenOf_38 : decode cX7_unevenOf 38 = .ok (.aload_n 0, 1) := by decide +kernel
theorem dX7_unevenOf_39 : decode cX7_unevenOf 39 = .ok (.iload_n 1, 1) := by decide +kernel
theorem dX7_unevenOf_40 : decode cX7_unevenOf 40 = .ok (.iload_n 3, 1) := by decide +kernel
theorem dX7_unevenOf_41 : decode cX7_unevenOf 41 = .ok (.iconst 1, 1) := by decide +kernel
theorem dX7_unevenOf_42 : decode cX7_unevenOf 42 = .ok (.iconst (-1), 1) := by decide +kernel
theorem dX7_unevenOf_43 : decode cX7_unevenOf 43 = .ok (.invokevirtual 110, 3) := by decide +kernel
theorem dX7_unevenOf_46 : decode cX7_unevenOf 46 = .ok (.isub, 1) := by decide +kernel
theorem dX7_unevenOf_47 : decode cX7_unevenOf 47 = .ok (.invokestatic 180, 3) := by decide +kernel
theorem dX7_unevenOf_50 : decode cX7_unevenOf 50 = .ok (.iadd, 1) := by decide +kernel
theorem dX7_unevenOf_51 : decode cX7_unevenOf 51 = .ok (.istore_n 2, 1) := by decide +kernel
theorem dX7_unevenOf_52 : decode cX7_unevenOf 52 = .ok (.iinc 3 1, 3) := by decide +kernel
theorem dX7_unevenOf_55 : decode cX7_unevenOf 55 = .ok (.goto (-51), 3) := by decide +kernel
theorem dX7_unevenOf_58 : decode cX7_unevenOf 58 = .ok (.iload_n 2, 1) := by decide +kernel
theorem dX7_unevenOf_59 : decode cX7_unevenOf 59 = .ok (.ireturn, 1) := by decide +kernel
def bX7_unevenOf_4 (s : Mem) (v1 : Int32) (v2 : Int32) (v3 : Int32) : Option (Int32 ⊕ (Int32 × Int32)) :=
  if (3 : Int32) ≤ v3 then some (Sum.inl v2) else (fX7_isOpen s v1 v3 (0 : Int32)).bind (fun y1 => if y1 = (0 : Int32) then lt (v3 + (1 : Int32)) (fun x2 => some (Sum.inr (v2, x2))) else (fX7_isOpen s v1 v3 (1 : Int32)).bind (fun y3 => if y3 = (0 : Int32) then lt (v3 + (1 : Int32)) (fun x4 => some (Sum.inr (v2, x4))) else (fX7_takenBut s v1 v3 (0 : Int32) (-1 : Int32)).bind (fun y5 => (fX7_takenBut s v1 v3 (1 : Int32) (-1 : Int32)).bind (fun y6 => lt (v2 + (abI (y5 - y6))) (fun x7 => lt (v3 + (1 : Int32)) (fun x8 => some (Sum.inr (x7, x8))))))))
set_option maxRecDepth 4000 in
theorem jbX7_unevenOf_4 {X : Scr} (d : Nat) (s : Mem) (v1 : Int32) (v2 : Int32) (v3 : Int32) {r : (Int32 ⊕ (Int32 × Int32))} {w : Option Value} {s' : Mem} (hh : bX7_unevenOf_4 s v1 v2 v3 = some r) (hk : Sum.elim (fun t : Int32 => J X MX7_unevenOf (d + 4) 58 [none, none, some (.int t), none] [] s w s') (fun a : (Int32 × Int32) => J X MX7_unevenOf (d + 4) 4 [some (.ref 19), some (.int v1), some (.int a.1), some (.int a.2)] [] s w s') r) : J X MX7_unevenOf (d + 4) 4 [some (.ref 19), some (.int v1), some (.int v2), some (.int v3)] [] s w s' := by
  unfold bX7_unevenOf_4 at hh
  refine J_iload_n (pc := 4) dX7_unevenOf_4 rfl ?_
  refine J_iconst (pc := 5) dX7_unevenOf_5 ci_3 ?_
  refine J_icmp_ge (pc := 6) 58 dX7_unevenOf_6 (by decide) (fun c11 => ?_) (fun c11 => ?_)
  · replace hh := (if_pos c11).symm.trans hh
    refine J_drop 0 (L' := [none, some (.int v1), some (.int v2), some (.int v3)]) rfl ?_
    refine J_drop 1 (L' := [none, none, some (.int v2), some (.int v3)]) rfl ?_
    refine J_drop 3 (L' := [none, none, some (.int v2), none]) rfl ?_
    obtain rfl := Option.some.inj hh
    exact hk
  · replace hh := (if_neg c11).symm.trans hh
    refine J_aload_n (pc := 9) dX7_unevenOf_9 rfl ?_
    refine J_iload_n (pc := 10) dX7_unevenOf_10 rfl ?_
    refine J_iload_n (pc := 11) dX7_unevenOf_11 rfl ?_
    refine J_iconst (pc := 12) dX7_unevenOf_12 ci_0 ?_
    obtain ⟨y1, hy1, hh⟩ := bd_some hh
    refine J_callVi (pc := 13) (M' := MX7_isOpen) (a := 19) (rest := []) (As := [.int v1, .int v3, .int (0 : Int32)]) (L0 := [some (.ref 19), some (.int v1), some (.int v3), some (.int (0 : Int32))]) okX7_isOpen ovX7_isOpen mlX7_77 clX7 so19 rfl rfl (Nat.le_of_ble_eq_true rfl) dX7_unevenOf_13 rfl (Nat.le_of_ble_eq_true rfl) (jX7_isOpen (X := X) (d + 2) s v1 v3 (0 : Int32) hy1) ?_
    refine J_if_eq (pc := 16) 52 dX7_unevenOf_16 (by decide) (fun c10 => ?_) (fun c10 => ?_)
    · replace hh := (if_pos c10).symm.trans hh
      refine J_iincL (pc := 52) (v := v3 + (1 : Int32)) (fun x2 => [some (.ref 19), some (.int v1), some (.int v2), some (.int x2)]) dX7_unevenOf_52 rfl rfl (Nat.le_of_ble_eq_true rfl) (congrArg _ ci_1) (fun _ => rfl) hh (fun x2 hh => ?_)
      refine J_goto (pc := 55) 4 dX7_unevenOf_55 (by decide) ?_
      obtain rfl := Option.some.inj hh
      exact hk
    · replace hh := (if_neg c10).symm.trans hh
      refine J_aload_n (pc := 19) dX7_unevenOf_19 rfl ?_
      refine J_iload_n (pc := 20) dX7_unevenOf_20 rfl ?_
      refine J_iload_n (pc := 21) dX7_unevenOf_21 rfl ?_
      refine J_iconst (pc := 22) dX7_unevenOf_22 ci_1 ?_
      obtain ⟨y3, hy3, hh⟩ := bd_some hh
      refine J_callVi (pc := 23) (M' := MX7_isOpen) (a := 19) (rest := []) (As := [.int v1, .int v3, .int (1 : Int32)]) (L0 := [some (.ref 19), some (.int v1), some (.int v3), some (.int (1 : Int32))]) okX7_isOpen ovX7_isOpen mlX7_77 clX7 so19 rfl rfl (Nat.le_of_ble_eq_true rfl) dX7_unevenOf_23 rfl (Nat.le_of_ble_eq_true rfl) (jX7_isOpen (X := X) (d + 2) s v1 v3 (1 : Int32) hy3) ?_
      refine J_if_eq (pc := 26) 52 dX7_unevenOf_26 (by decide) (fun c9 => ?_) (fun c9 => ?_)
      · replace hh := (if_pos c9).symm.trans hh
        refine J_iincL (pc := 52) (v := v3 + (1 : Int32)) (fun x4 => [some (.ref 19), some (.int v1), some (.int v2), some (.int x4)]) dX7_unevenOf_52 rfl rfl (Nat.le_of_ble_eq_true rfl) (congrArg _ ci_1) (fun _ => rfl) hh (fun x4 hh => ?_)
        refine J_goto (pc := 55) 4 dX7_unevenOf_55 (by decide) ?_
        obtain rfl := Option.some.inj hh
        exact hk
      · replace hh := (if_neg c9).symm.trans hh
        refine J_iload_n (pc := 29) dX7_unevenOf_29 rfl ?_
        refine J_aload_n (pc := 30) dX7_unevenOf_30 rfl ?_
        refine J_iload_n (pc := 31) dX7_unevenOf_31 rfl ?_
        refine J_iload_n (pc := 32) dX7_unevenOf_32 rfl ?_
        refine J_iconst (pc := 33) dX7_unevenOf_33 ci_0 ?_
        refine J_iconst (pc := 34) dX7_unevenOf_34 ci_m1 ?_
        obtain ⟨y5, hy5, hh⟩ := bd_some hh
        refine J_callVi (pc := 35) (M' := MX7_takenBut) (a := 19) (rest := [.int v2]) (As := [.int v1, .int v3, .int (0 : Int32), .int (-1 : Int32)]) (L0 := [some (.ref 19), some (.int v1), some (.int v3), some (.int (0 : Int32)), some (.int (-1 : Int32)), none, none, none]) okX7_takenBut ovX7_takenBut mlX7_110 clX7 so19 rfl rfl (Nat.le_of_ble_eq_true rfl) dX7_unevenOf_35 rfl (Nat.le_of_ble_eq_true rfl) (jX7_takenBut (X := X) d s v1 v3 (0 : Int32) (-1 : Int32) hy5) ?_
        refine J_aload_n (pc := 38) dX7_unevenOf_38 rfl ?_
        refine J_iload_n (pc := 39) dX7_unevenOf_39 rfl ?_
        refine J_iload_n (pc := 40) dX7_unevenOf_40 rfl ?_
        refine J_iconst (pc := 41) dX7_unevenOf_41 ci_1 ?_
        refine J_iconst (pc := 42) dX7_unevenOf_42 ci_m1 ?_
        obtain ⟨y6, hy6, hh⟩ := bd_some hh
        refine J_callVi (pc := 43) (M' := MX7_takenBut) (a := 19) (rest := [.int y5, .int v2]) (As := [.int v1, .int v3, .int (1 : Int32), .int (-1 : Int32)]) (L0 := [some (.ref 19), some (.int v1), some (.int v3), some (.int (1 : Int32)), some (.int (-1 : Int32)), none, none, none]) okX7_takenBut ovX7_takenBut mlX7_110 clX7 so19 rfl rfl (Nat.le_of_ble_eq_true rfl) dX7_unevenOf_43 rfl (Nat.le_of_ble_eq_true rfl) (jX7_takenBut (X := X) d s v1 v3 (1 : Int32) (-1 : Int32) hy6) ?_
        refine J_isub (pc := 46) dX7_unevenOf_46 ?_
        refine J_mabs (pc := 47) mtX7_180 (Nat.le_of_ble_eq_true rfl) dX7_unevenOf_47 ?_
        refine J_iadd (pc := 50) dX7_unevenOf_50 ?_
        refine J_istoreL_n (pc := 51) (fun x7 => [some (.ref 19), some (.int v1), some (.int x7), some (.int v3)]) dX7_unevenOf_51 rfl (Nat.le_of_ble_eq_true rfl) (fun _ => rfl) hh (fun x7 hh => ?_)
        refine J_iincL (pc := 52) (v := v3 + (1 : Int32)) (fun x8 => [some (.ref 19), some (.int v1), some (.int x7), some (.int x8)]) dX7_unevenOf_52 rfl rfl (Nat.le_of_ble_eq_true rfl) (congrArg _ ci_1) (fun _ => rfl) hh (fun x8 hh => ?_)
        refine J_goto (pc := 55) 4 dX7_unevenOf_55 (by decide) ?_
        obtain rfl := Option.some.inj hh
        exact hk
def fX7_unevenOf (s : Mem) (p0 : Int32) : Option Int32 :=
  (lp (fun a => bX7_unevenOf_4 s p0 a.1 a.2) 600 ((0 : Int32), (0 : Int32))).bind (fun y12 => some y12)
set_option maxRecDepth 4000 in
theorem jjX7_unevenOf {X : Scr} (d : Nat) (s : Mem) (p0 : Int32) {r : Int32} {w : Option Value} {s' : Mem} (hh : fX7_unevenOf s p0 = some r) (hk : w = some (.int r) ∧ s = s') : J X MX7_unevenOf (d + 4) 0 [some (.ref 19), some (.int p0), none, none] [] s w s' := by
  unfold fX7_unevenOf at hh
  refine J_iconst (pc := 0) dX7_unevenOf_0 ci_0 ?_
  refine J_istore_n (pc := 1) (L' := [some (.ref 19), some (.int p0), some (.int (0 : Int32)), none]) dX7_unevenOf_1 rfl (Nat.le_of_ble_eq_true rfl) rfl ?_
  refine J_iconst (pc := 2) dX7_unevenOf_2 ci_0 ?_
  refine J_istore_n (pc := 3) (L' := [some (.ref 19), some (.int p0), some (.int (0 : Int32)), some (.int (0 : Int32))]) dX7_unevenOf_3 rfl (Nat.le_of_ble_eq_true rfl) rfl ?_
  obtain ⟨y12, hy12, hh⟩ := bd_some hh
  refine J_lp (a := ((0 : Int32), (0 : Int32))) (fun a : (Int32 × Int32) => J X MX7_unevenOf (d + 4) 4 [some (.ref 19), some (.int p0), some (.int a.1), some (.int a.2)] [] s w s') (fun t : Int32 => J X MX7_unevenOf (d + 4) 58 [none, none, some (.int t), none] [] s w s') (fun a q h1 h2 => jbX7_unevenOf_4 d s p0 a.1 a.2 h1 h2) hy12 ?_
  refine J_iload_n (pc := 58) dX7_unevenOf_58 rfl ?_
  obtain rfl := Option.some.inj hh
  obtain ⟨rfl, rfl⟩ := hk
  exact J_ret (w := some (.int y12)) ⟨dX7_unevenOf_59, _, rfl, rfl⟩
theorem jX7_unevenOf {X : Scr} (d : Nat) (s : Mem) (p0 : Int32) {r : Int32} (hh : fX7_unevenOf s p0 = some r) : J X MX7_unevenOf (d + 4) 0 [some (.ref 19), some (.int p0), none, none] [] s (some (.int r)) s := jjX7_unevenOf d s p0 hh ⟨rfl, rfl⟩
theorem dX7_uneven_0 : decode cX7_uneven 0 = .ok (.iload_n 1, 1) := by decide +kernel
theorem dX7_uneven_1 : decode cX7_uneven 1 = .ok (.invokestatic 139, 3) := by decide +kernel
theorem dX7_uneven_4 : decode cX7_uneven 4 = .ok (.ifCond .eq 11, 3) := by decide +kernel
theorem dX7_uneven_7 : decode cX7_uneven 7 = .ok (.aload_n 0, 1) := by decide +kernel
theorem dX7_uneven_8 : decode cX7_uneven 8 = .ok (.iload_n 1, 1) := by decide +kernel
theorem dX7_uneven_9 : decode cX7_uneven 9 = .ok (.invokevirtual 185, 3) := by decide +kernel
theorem dX7_uneven_12 : decode cX7_uneven 12 = .ok (.goto 8, 3) := by decide +kernel
theorem dX7_uneven_15 : decode cX7_uneven 15 = .ok (.aload_n 0, 1) := by decide +kernel
theorem dX7_uneven_16 : decode cX7_uneven 16 = .ok (.iconst 0, 1) := by decide +kernel
theorem dX7_uneven_17 : decode cX7_uneven 17 = .ok (.invokevirtual 158, 3) := by decide +kernel
theorem dX7_uneven_20 : decode cX7_uneven 20 = .ok (.ireturn, 1) := by decide +kernel
def fX7_uneven (s : Mem) (p0 : Int32) : Option (Int32 × Mem) :=
  (fX7_isCourse p0).bind (fun y1 => if y1 = (0 : Int32) then (fX7_finds s (0 : Int32)).bind (fun y2 => some ((y2.1, y2.2))) else (fX7_unevenOf s p0).bind (fun y3 => some ((y3, s))))
set_option maxRecDepth 4000 in
theorem jjX7_uneven {X : Scr} (d : Nat) (s : Mem) (p0 : Int32) {r : (Int32 × Mem)} {w : Option Value} {s' : Mem} (hh : fX7_uneven s p0 = some r) (hk : w = some (.int r.1) ∧ r.2 = s') : J X MX7_uneven (d + 5) 0 [some (.ref 19), some (.int p0)] [] s w s' := by
  unfold fX7_uneven at hh
  refine J_iload_n (pc := 0) dX7_uneven_0 rfl ?_
  obtain ⟨y1, hy1, hh⟩ := bd_some hh
  refine J_callSi (pc := 1) (M' := MX7_isCourse) (rest := []) (As := [.int p0]) (L0 := [some (.int p0)]) okX7_isCourse osX7_isCourse mlX7_139 rfl rfl (Nat.le_of_ble_eq_true rfl) dX7_uneven_1 rfl (Nat.le_of_ble_eq_true rfl) (jX7_isCourse (X := X) (d + 3) s p0 hy1) ?_
  refine J_if_eq (pc := 4) 15 dX7_uneven_4 (by decide) (fun c4 => ?_) (fun c4 => ?_)
  · replace hh := (if_pos c4).symm.trans hh
    refine J_aload_n (pc := 15) dX7_uneven_15 rfl ?_
    refine J_iconst (pc := 16) dX7_uneven_16 ci_0 ?_
    obtain ⟨y2, hy2, hh⟩ := bd_some hh
    refine J_callVi (pc := 17) (M' := MX7_finds) (a := 19) (rest := []) (As := [.int (0 : Int32)]) (L0 := [some (.ref 19), some (.int (0 : Int32))]) okX7_finds ovX7_finds mlX7_158 clX7 so19 rfl rfl (Nat.le_of_ble_eq_true rfl) dX7_uneven_17 rfl (Nat.le_of_ble_eq_true rfl) (jX7_finds (X := X) (d + 4) s (0 : Int32) hy2) ?_
    obtain rfl := Option.some.inj hh
    obtain ⟨rfl, rfl⟩ := hk
    exact J_ret (w := some (.int y2.1)) ⟨dX7_uneven_20, _, rfl, rfl⟩
  · replace hh := (if_neg c4).symm.trans hh
    refine J_aload_n (pc := 7) dX7_uneven_7 rfl ?_
    refine J_iload_n (pc := 8) dX7_uneven_8 rfl ?_
    obtain ⟨y3, hy3, hh⟩ := bd_some hh
    refine J_callVi (pc := 9) (M' := MX7_unevenOf) (a := 19) (rest := []) (As := [.int p0]) (L0 := [some (.ref 19), some (.int p0), none, none]) okX7_unevenOf ovX7_unevenOf mlX7_185 clX7 so19 rfl rfl (Nat.le_of_ble_eq_true rfl) dX7_uneven_9 rfl (Nat.le_of_ble_eq_true rfl) (jX7_unevenOf (X := X) d s p0 hy3) ?_
    refine J_goto (pc := 12) 20 dX7_uneven_12 (by decide) ?_
    obtain rfl := Option.some.inj hh
    obtain ⟨rfl, rfl⟩ := hk
    exact J_ret (w := some (.int y3)) ⟨dX7_uneven_20, _, rfl, rfl⟩
theorem jX7_uneven {X : Scr} (d : Nat) (s : Mem) (p0 : Int32) {r : (Int32 × Mem)} (hh : fX7_uneven s p0 = some r) : J X MX7_uneven (d + 5) 0 [some (.ref 19), some (.int p0)] [] s (some (.int r.1)) r.2 := jjX7_uneven d s p0 hh ⟨rfl, rfl⟩
theorem dX7_comes_0 : decode cX7_comes 0 = .ok (.bipush 97, 2) := by decide +kernel
theorem dX7_comes_2 : decode cX7_comes 2 = .ok (.bipush 7, 2) := by decide +kernel
theorem dX7_comes_4 : decode cX7_comes 4 = .ok (.aload_n 0, 1) := by decide +kernel
theorem dX7_comes_5 : decode cX7_comes 5 = .ok (.getfield 9, 3) := by decide +kernel
theorem dX7_comes_8 : decode cX7_comes 8 = .ok (.bipush 96, 2) := by decide +kernel
theorem dX7_comes_10 : decode cX7_comes 10 = .ok (.iaload, 1) := by decide +kernel
theorem dX7_comes_11 : decode cX7_comes 11 = .ok (.imul, 1) := by decide +kernel
theorem dX7_comes_12 : decode cX7_comes 12 = .ok (.iadd, 1) := by decide +kernel
theorem dX7_comes_13 : decode cX7_comes 13 = .ok (.istore 4, 2) := by decide +kernel
theorem dX7_comes_15 : decode cX7_comes 15 = .ok (.aload_n 0, 1) := by decide +kernel
theorem dX7_comes_16 : decode cX7_comes 16 = .ok (.getfield 9, 3) := by decide +kernel
theorem dX7_comes_19 : decode cX7_comes 19 = .ok (.iload 4, 2) := by decide +kernel
theorem dX7_comes_21 : decode cX7_comes 21 = .ok (.iload_n 1, 1) := by decide +kernel
theorem dX7_comes_22 : decode cX7_comes 22 = .ok (.iastore, 1) := by decide +kernel
theorem dX7_comes_23 : decode cX7_comes 23 = .ok (.aload_n 0, 1) := by decide +kernel
theorem dX7_comes_24 : decode cX7_comes 24 = .ok (.getfield 9, 3) := by decide +kernel
theorem dX7_comes_27 : decode cX7_comes 27 = .ok (.iload 4, 2) := by decide +kernel
theorem dX7_comes_29 : decode cX7_comes 29 = .ok (.iconst 1, 1) := by decide +kernel
theorem dX7_comes_30 : decode cX7_comes 30 = .ok (.iadd, 1) := by decide +kernel
theorem dX7_comes_31 : decode cX7_comes 31 = .ok (.iload_n 2, 1) := by decide +kernel
theorem dX7_comes_32 : decode cX7_comes 32 = .ok (.iastore, 1) := by decide +kernel
theorem dX7_comes_33 : decode cX7_comes 33 = .ok (.aload_n 0, 1) := by decide +kernel
theorem dX7_comes_34 : decode cX7_comes 34 = .ok (.getfield 9, 3) := by decide +kernel
theorem dX7_comes_37 : decode cX7_comes 37 = .ok (.iload 4, 2) := by decide +kernel
theorem dX7_comes_39 : decode cX7_comes 39 = .ok (.iconst 2, 1) := by decide +kernel
theorem dX7_comes_40 : decode cX7_comes 40 = .ok (.iadd, 1) := by decide +kernel
theorem dX7_comes_41 : decode cX7_comes 41 = .ok (.iload_n 3, 1) := by decide +kernel
theorem dX7_comes_42 : decode cX7_comes 42 = .ok (.iastore, 1) := by decide +kernel
theorem dX7_comes_43 : decode cX7_comes 43 = .ok (.iconst 0, 1) := by decide +kernel
theorem dX7_comes_44 : decode cX7_comes 44 = .ok (.istore 5, 2) := by decide +kernel
theorem dX7_comes_46 : decode cX7_comes 46 = .ok (.iload 5, 2) := by decide +kernel
theorem dX7_comes_48 : decode cX7_comes 48 = .ok (.iconst 4, 1) := by decide +kernel
theorem dX7_comes_49 : decode cX7_comes 49 = .ok (.if_icmp .ge 22, 3) := by decide +kernel
theorem dX7_comes_52 : decode cX7_comes 52 = .ok (.aload_n 0, 1) := by decide +kernel
theorem dX7_comes_53 : decode cX7_comes 53 = .ok (.getfield 9, 3) := by decide +kernel
theorem dX7_comes_56 : decode cX7_comes 56 = .ok (.iload 4, 2) := by decide +kernel
theorem dX7_comes_58 : decode cX7_comes 58 = .ok (.iconst 3, 1) := by decide +kernel
theorem dX7_comes_59 : decode cX7_comes 59 = .ok (.iadd, 1) := by decide +kernel
theorem dX7_comes_60 : decode cX7_comes 60 = .ok (.iload 5, 2) := by decide +kernel
theorem dX7_comes_62 : decode cX7_comes 62 = .ok (.iadd, 1) := by decide +kernel
theorem dX7_comes_63 : decode cX7_comes 63 = .ok (.iconst (-1), 1) := by decide +kernel
theorem dX7_comes_64 : decode cX7_comes 64 = .ok (.iastore, 1) := by decide +kernel
theorem dX7_comes_65 : decode cX7_comes 65 = .ok (.iinc 5 1, 3) := by decide +kernel
theorem dX7_comes_68 : decode cX7_comes 68 = .ok (.goto (-22), 3) := by decide +kernel
theorem dX7_comes_71 : decode cX7_comes 71 = .ok (.aload_n 0, 1) := by decide +kernel
theorem dX7_comes_72 : decode cX7_comes 72 = .ok (.getfield 9, 3) := by decide +kernel
theorem dX7_comes_75 : decode cX7_comes 75 = .ok (.bipush 96, 2) := by decide +kernel
theorem dX7_comes_77 : decode cX7_comes 77 = .ok (.dup2, 1) := by decide +kernel
theorem dX7_comes_78 : decode cX7_comes 78 = .ok (.iaload, 1) := by decide +kernel
theorem dX7_comes_79 : decode cX7_comes 79 = .ok (.iconst 1, 1) := by decide +kernel
theorem dX7_comes_80 : decode cX7_comes 80 = .ok (.iadd, 1) := by decide +kernel
theorem dX7_comes_81 : decode cX7_comes 81 = .ok (.iastore, 1) := by decide +kernel
theorem dX7_comes_82 : decode cX7_comes 82 = .ok (.return_, 1) := by decide +kernel
def bX7_comes_46 (s : Mem) (v4 : Int32) (v5 : Int32) : Option (Mem ⊕ (Int32 × Mem)) :=
  if (4 : Int32) ≤ v5 then some (Sum.inl s) else gd ((v4 + (3 : Int32)) + v5) 139 (lt (up2 s 20 ((v4 + (3 : Int32)) + v5).toNatClampNeg (-1 : Int32)) (fun s10 => lt (v5 + (1 : Int32)) (fun x11 => some (Sum.inr (x11, s10)))))
set_option maxRecDepth 4000 in
theorem jbX7_comes_46 {X : Scr} (d : Nat) (s : Mem) (v4 : Int32) (v5 : Int32) {r : (Mem ⊕ (Int32 × Mem))} {w : Option Value} {s' : Mem} (hh : bX7_comes_46 s v4 v5 = some r) (hk : Sum.elim (fun t : Mem => J X MX7_comes (d + 0) 71 [some (.ref 19), none, none, none, none, none] [] t w s') (fun a : (Int32 × Mem) => J X MX7_comes (d + 0) 46 [some (.ref 19), none, none, none, some (.int v4), some (.int a.1)] [] a.2 w s') r) : J X MX7_comes (d + 0) 46 [some (.ref 19), none, none, none, some (.int v4), some (.int v5)] [] s w s' := by
  unfold bX7_comes_46 at hh
  refine J_iload (pc := 46) dX7_comes_46 rfl ?_
  refine J_iconst (pc := 48) dX7_comes_48 ci_4 ?_
  refine J_icmp_ge (pc := 49) 71 dX7_comes_49 (by decide) (fun c12 => ?_) (fun c12 => ?_)
  · replace hh := (if_pos c12).symm.trans hh
    refine J_drop 4 (L' := [some (.ref 19), none, none, none, none, some (.int v5)]) rfl ?_
    refine J_drop 5 (L' := [some (.ref 19), none, none, none, none, none]) rfl ?_
    obtain rfl := Option.some.inj hh
    exact hk
  · replace hh := (if_neg c12).symm.trans hh
    refine J_aload_n (pc := 52) dX7_comes_52 rfl ?_
    refine J_getR (pc := 53) (k := 0) flX7_9 so19 fk19_0 dX7_comes_53 ?_
    refine J_iload (pc := 56) dX7_comes_56 rfl ?_
    refine J_iconst (pc := 58) dX7_comes_58 ci_3 ?_
    refine J_iadd (pc := 59) dX7_comes_59 ?_
    refine J_iload (pc := 60) dX7_comes_60 rfl ?_
    refine J_iadd (pc := 62) dX7_comes_62 ?_
    refine J_iconst (pc := 63) dX7_comes_63 ci_m1 ?_
    obtain ⟨h9, hh⟩ := gd_some hh
    refine J_iastL (pc := 64) dX7_comes_64 sa20 h9 hh (fun s10 hh => ?_)
    refine J_iincL (pc := 65) (v := v5 + (1 : Int32)) (fun x11 => [some (.ref 19), none, none, none, some (.int v4), some (.int x11)]) dX7_comes_65 rfl rfl (Nat.le_of_ble_eq_true rfl) (congrArg _ ci_1) (fun _ => rfl) hh (fun x11 hh => ?_)
    refine J_goto (pc := 68) 46 dX7_comes_68 (by decide) ?_
    obtain rfl := Option.some.inj hh
    exact hk
def fX7_comes (s : Mem) (p0 : Int32) (p1 : Int32) (p2 : Int32) : Option Mem :=
  gd (96 : Int32) 139 (lt ((97 : Int32) + ((7 : Int32) * (s.1 20 (96 : Int32).toNatClampNeg))) (fun x2 => gd x2 139 (lt (up2 s 20 x2.toNatClampNeg p0) (fun s4 => gd (x2 + (1 : Int32)) 139 (lt (up2 s4 20 (x2 + (1 : Int32)).toNatClampNeg p1) (fun s6 => gd (x2 + (2 : Int32)) 139 (lt (up2 s6 20 (x2 + (2 : Int32)).toNatClampNeg p2) (fun s8 => (lp (fun a => bX7_comes_46 a.2 x2 a.1) 600 ((0 : Int32), s8)).bind (fun y13 => gd (96 : Int32) 139 (gd (96 : Int32) 139 (lt (up2 y13 20 (96 : Int32).toNatClampNeg ((y13.1 20 (96 : Int32).toNatClampNeg) + (1 : Int32))) (fun s16 => some s16))))))))))))
set_option maxRecDepth 4000 in
theorem jjX7_comes {X : Scr} (d : Nat) (s : Mem) (p0 : Int32) (p1 : Int32) (p2 : Int32) {r : Mem} {w : Option Value} {s' : Mem} (hh : fX7_comes s p0 p1 p2 = some r) (hk : w = none ∧ r = s') : J X MX7_comes (d + 0) 0 [some (.ref 19), some (.int p0), some (.int p1), some (.int p2), none, none] [] s w s' := by
  unfold fX7_comes at hh
  refine J_bipush (pc := 0) dX7_comes_0 cb_97 ?_
  refine J_bipush (pc := 2) dX7_comes_2 cb_7 ?_
  refine J_aload_n (pc := 4) dX7_comes_4 rfl ?_
  refine J_getR (pc := 5) (k := 0) flX7_9 so19 fk19_0 dX7_comes_5 ?_
  refine J_bipush (pc := 8) dX7_comes_8 cb_96 ?_
  obtain ⟨h1, hh⟩ := gd_some hh
  refine J_iald (pc := 10) dX7_comes_10 sa20 h1 ?_
  refine J_imul (pc := 11) dX7_comes_11 ?_
  refine J_iadd (pc := 12) dX7_comes_12 ?_
  refine J_istoreL (pc := 13) (fun x2 => [some (.ref 19), some (.int p0), some (.int p1), some (.int p2), some (.int x2), none]) dX7_comes_13 rfl (Nat.le_of_ble_eq_true rfl) (fun _ => rfl) hh (fun x2 hh => ?_)
  refine J_aload_n (pc := 15) dX7_comes_15 rfl ?_
  refine J_getR (pc := 16) (k := 0) flX7_9 so19 fk19_0 dX7_comes_16 ?_
  refine J_iload (pc := 19) dX7_comes_19 rfl ?_
  refine J_iload_n (pc := 21) dX7_comes_21 rfl ?_
  obtain ⟨h3, hh⟩ := gd_some hh
  refine J_iastL (pc := 22) dX7_comes_22 sa20 h3 hh (fun s4 hh => ?_)
  refine J_aload_n (pc := 23) dX7_comes_23 rfl ?_
  refine J_getR (pc := 24) (k := 0) flX7_9 so19 fk19_0 dX7_comes_24 ?_
  refine J_iload (pc := 27) dX7_comes_27 rfl ?_
  refine J_iconst (pc := 29) dX7_comes_29 ci_1 ?_
  refine J_iadd (pc := 30) dX7_comes_30 ?_
  refine J_iload_n (pc := 31) dX7_comes_31 rfl ?_
  obtain ⟨h5, hh⟩ := gd_some hh
  refine J_iastL (pc := 32) dX7_comes_32 sa20 h5 hh (fun s6 hh => ?_)
  refine J_aload_n (pc := 33) dX7_comes_33 rfl ?_
  refine J_getR (pc := 34) (k := 0) flX7_9 so19 fk19_0 dX7_comes_34 ?_
  refine J_iload (pc := 37) dX7_comes_37 rfl ?_
  refine J_iconst (pc := 39) dX7_comes_39 ci_2 ?_
  refine J_iadd (pc := 40) dX7_comes_40 ?_
  refine J_iload_n (pc := 41) dX7_comes_41 rfl ?_
  obtain ⟨h7, hh⟩ := gd_some hh
  refine J_iastL (pc := 42) dX7_comes_42 sa20 h7 hh (fun s8 hh => ?_)
  refine J_iconst (pc := 43) dX7_comes_43 ci_0 ?_
  refine J_istore (pc := 44) (L' := [some (.ref 19), some (.int p0), some (.int p1), some (.int p2), some (.int x2), some (.int (0 : Int32))]) dX7_comes_44 rfl (Nat.le_of_ble_eq_true rfl) rfl ?_
  refine J_drop 1 (L' := [some (.ref 19), none, some (.int p1), some (.int p2), some (.int x2), some (.int (0 : Int32))]) rfl ?_
  refine J_drop 2 (L' := [some (.ref 19), none, none, some (.int p2), some (.int x2), some (.int (0 : Int32))]) rfl ?_
  refine J_drop 3 (L' := [some (.ref 19), none, none, none, some (.int x2), some (.int (0 : Int32))]) rfl ?_
  obtain ⟨y13, hy13, hh⟩ := bd_some hh
  refine J_lp (a := ((0 : Int32), s8)) (fun a : (Int32 × Mem) => J X MX7_comes (d + 0) 46 [some (.ref 19), none, none, none, some (.int x2), some (.int a.1)] [] a.2 w s') (fun t : Mem => J X MX7_comes (d + 0) 71 [some (.ref 19), none, none, none, none, none] [] t w s') (fun a q h1 h2 => jbX7_comes_46 d a.2 x2 a.1 h1 h2) hy13 ?_
  refine J_aload_n (pc := 71) dX7_comes_71 rfl ?_
  refine J_getR (pc := 72) (k := 0) flX7_9 so19 fk19_0 dX7_comes_72 ?_
  refine J_bipush (pc := 75) dX7_comes_75 cb_96 ?_
  refine J_dup2 (pc := 77) dX7_comes_77 rfl rfl ?_
  obtain ⟨h14, hh⟩ := gd_some hh
  refine J_iald (pc := 78) dX7_comes_78 sa20 h14 ?_
  refine J_iconst (pc := 79) dX7_comes_79 ci_1 ?_
  refine J_iadd (pc := 80) dX7_comes_80 ?_
  obtain ⟨h15, hh⟩ := gd_some hh
  refine J_iastL (pc := 81) dX7_comes_81 sa20 h15 hh (fun s16 hh => ?_)
  obtain rfl := Option.some.inj hh
  obtain ⟨rfl, rfl⟩ := hk
  exact J_ret (w := none) ⟨dX7_comes_82, rfl⟩
theorem jX7_comes {X : Scr} (d : Nat) (s : Mem) (p0 : Int32) (p1 : Int32) (p2 : Int32) {r : Mem} (hh : fX7_comes s p0 p1 p2 = some r) : J X MX7_comes (d + 0) 0 [some (.ref 19), some (.int p0), some (.int p1), some (.int p2), none, none] [] s (none) r := jjX7_comes d s p0 p1 p2 hh ⟨rfl, rfl⟩
theorem dX7_pupil_0 : decode cX7_pupil 0 = .ok (.iload_n 1, 1) := by decide +kernel
theorem dX7_pupil_1 : decode cX7_pupil 1 = .ok (.invokestatic 188, 3) := by decide +kernel
theorem dX7_pupil_4 : decode cX7_pupil 4 = .ok (.ifCond .eq 22, 3) := by decide +kernel
theorem dX7_pupil_7 : decode cX7_pupil 7 = .ok (.iload_n 2, 1) := by decide +kernel
theorem dX7_pupil_8 : decode cX7_pupil 8 = .ok (.invokestatic 151, 3) := by decide +kernel
theorem dX7_pupil_11 : decode cX7_pupil 11 = .ok (.ifCond .eq 15, 3) := by decide +kernel
theorem dX7_pupil_14 : decode cX7_pupil 14 = .ok (.iload_n 3, 1) := by decide +kernel
theorem dX7_pupil_15 : decode cX7_pupil 15 = .ok (.i2l, 1) := by decide +kernel
theorem dX7_pupil_16 : decode cX7_pupil 16 = .ok (.lconst 0, 1) := by decide +kernel
theorem dX7_pupil_17 : decode cX7_pupil 17 = .ok (.ldc2_w 191, 3) := by decide +kernel
theorem dX7_pupil_20 : decode cX7_pupil 20 = .ok (.invokestatic 63, 3) := by decide +kernel
theorem dX7_pupil_23 : decode cX7_pupil 23 = .ok (.ifCond .ne 9, 3) := by decide +kernel
theorem dX7_pupil_26 : decode cX7_pupil 26 = .ok (.aload_n 0, 1) := by decide +kernel
theorem dX7_pupil_27 : decode cX7_pupil 27 = .ok (.iconst 0, 1) := by decide +kernel
theorem dX7_pupil_28 : decode cX7_pupil 28 = .ok (.invokevirtual 158, 3) := by decide +kernel
theorem dX7_pupil_31 : decode cX7_pupil 31 = .ok (.ireturn, 1) := by decide +kernel
theorem dX7_pupil_32 : decode cX7_pupil 32 = .ok (.aload_n 0, 1) := by decide +kernel
theorem dX7_pupil_33 : decode cX7_pupil 33 = .ok (.getfield 9, 3) := by decide +kernel
theorem dX7_pupil_36 : decode cX7_pupil 36 = .ok (.bipush 96, 2) := by decide +kernel
theorem dX7_pupil_38 : decode cX7_pupil 38 = .ok (.iaload, 1) := by decide +kernel
theorem dX7_pupil_39 : decode cX7_pupil 39 = .ok (.bipush 6, 2) := by decide +kernel
theorem dX7_pupil_41 : decode cX7_pupil 41 = .ok (.if_icmp .ne 9, 3) := by decide +kernel
theorem dX7_pupil_44 : decode cX7_pupil 44 = .ok (.aload_n 0, 1) := by decide +kernel
theorem dX7_pupil_45 : decode cX7_pupil 45 = .ok (.iconst 1, 1) := by decide +kernel
theorem dX7_pupil_46 : decode cX7_pupil 46 = .ok (.invokevirtual 158, 3) := by decide +kernel
theorem dX7_pupil_49 : decode cX7_pupil 49 = .ok (.ireturn, 1) := by decide +kernel
theorem dX7_pupil_50 : decode cX7_pupil 50 = .ok (.aload_n 0, 1) := by decide +kernel
theorem dX7_pupil_51 : decode cX7_pupil 51 = .ok (.invokevirtual 161, 3) := by decide +kernel
theorem dX7_pupil_54 : decode cX7_pupil 54 = .ok (.aload_n 0, 1) := by decide +kernel
theorem dX7_pupil_55 : decode cX7_pupil 55 = .ok (.iload_n 1, 1) := by decide +kernel
theorem dX7_pupil_56 : decode cX7_pupil 56 = .ok (.iload_n 2, 1) := by decide +kernel
theorem dX7_pupil_57 : decode cX7_pupil 57 = .ok (.iload_n 3, 1) := by decide +kernel
theorem dX7_pupil_58 : decode cX7_pupil 58 = .ok (.invokevirtual 193, 3) := by decide +kernel
theorem dX7_pupil_61 : decode cX7_pupil 61 = .ok (.aload_n 0, 1) := by decide +kernel
theorem dX7_pupil_62 : decode cX7_pupil 62 = .ok (.invokevirtual 168, 3) := by decide +kernel
theorem dX7_pupil_65 : decode cX7_pupil 65 = .ok (.aload_n 0, 1) := by decide +kernel
theorem dX7_pupil_66 : decode cX7_pupil 66 = .ok (.getfield 9, 3) := by decide +kernel
theorem dX7_pupil_69 : decode cX7_pupil 69 = .ok (.bipush 96, 2) := by decide +kernel
theorem dX7_pupil_71 : decode cX7_pupil 71 = .ok (.iaload, 1) := by decide +kernel
theorem dX7_pupil_72 : decode cX7_pupil 72 = .ok (.iconst 1, 1) := by decide +kernel
theorem dX7_pupil_73 : decode cX7_pupil 73 = .ok (.isub, 1) := by decide +kernel
theorem dX7_pupil_74 : decode cX7_pupil 74 = .ok (.ireturn, 1) := by decide +kernel
def gX7_pupil_26 (s : Mem)  : Option (Int32 × Mem) :=
  (fX7_finds s (0 : Int32)).bind (fun y2 => some ((y2.1, y2.2)))
set_option maxRecDepth 4000 in
theorem jgX7_pupil_26 {X : Scr} (d : Nat) (s : Mem)  {r : (Int32 × Mem)} {w : Option Value} {s' : Mem} (hh : gX7_pupil_26 s = some r) (hk : w = some (.int r.1) ∧ r.2 = s') : J X MX7_pupil (d + 2) 26 [some (.ref 19), none, none, none] [] s w s' := by
  unfold gX7_pupil_26 at hh
  refine J_aload_n (pc := 26) dX7_pupil_26 rfl ?_
  refine J_iconst (pc := 27) dX7_pupil_27 ci_0 ?_
  obtain ⟨y2, hy2, hh⟩ := bd_some hh
  refine J_callVi (pc := 28) (M' := MX7_finds) (a := 19) (rest := []) (As := [.int (0 : Int32)]) (L0 := [some (.ref 19), some (.int (0 : Int32))]) okX7_finds ovX7_finds mlX7_158 clX7 so19 rfl rfl (Nat.le_of_ble_eq_true rfl) dX7_pupil_28 rfl (Nat.le_of_ble_eq_true rfl) (jX7_finds (X := X) (d + 1) s (0 : Int32) hy2) ?_
  obtain rfl := Option.some.inj hh
  obtain ⟨rfl, rfl⟩ := hk
  exact J_ret (w := some (.int y2.1)) ⟨dX7_pupil_31, _, rfl, rfl⟩
def fX7_pupil (s : Mem) (p0 : Int32) (p1 : Int32) (p2 : Int32) : Option (Int32 × Mem) :=
  (fX7_isKind p0).bind (fun y1 => if y1 = (0 : Int32) then gX7_pupil_26 s else (fX7_areHours p1).bind (fun y3 => if y3 = (0 : Int32) then gX7_pupil_26 s else (fX7_in (p2.toInt64) (0 : Int64) (15 : Int64)).bind (fun y4 => if y4 = (0 : Int32) then gX7_pupil_26 s else gd (96 : Int32) 139 (if (s.1 20 (96 : Int32).toNatClampNeg) = (6 : Int32) then (fX7_finds s (1 : Int32)).bind (fun y10 => some ((y10.1, y10.2))) else (fX7_laysAside s).bind (fun y6 => (fX7_comes y6 p0 p1 p2).bind (fun y7 => (fX7_changes y7).bind (fun y8 => gd (96 : Int32) 139 (some (((y8.1 20 (96 : Int32).toNatClampNeg) - (1 : Int32), y8))))))))))
set_option maxRecDepth 4000 in
theorem jjX7_pupil {X : Scr} (d : Nat) (s : Mem) (p0 : Int32) (p1 : Int32) (p2 : Int32) {r : (Int32 × Mem)} {w : Option Value} {s' : Mem} (hh : fX7_pupil s p0 p1 p2 = some r) (hk : w = some (.int r.1) ∧ r.2 = s') : J X MX7_pupil (d + 2) 0 [some (.ref 19), some (.int p0), some (.int p1), some (.int p2)] [] s w s' := by
  unfold fX7_pupil at hh
  refine J_iload_n (pc := 0) dX7_pupil_0 rfl ?_
  obtain ⟨y1, hy1, hh⟩ := bd_some hh
  refine J_callSi (pc := 1) (M' := MX7_isKind) (rest := []) (As := [.int p0]) (L0 := [some (.int p0)]) okX7_isKind osX7_isKind mlX7_188 rfl rfl (Nat.le_of_ble_eq_true rfl) dX7_pupil_1 rfl (Nat.le_of_ble_eq_true rfl) (jX7_isKind (X := X) d s p0 hy1) ?_
  refine J_if_eq (pc := 4) 26 dX7_pupil_4 (by decide) (fun c14 => ?_) (fun c14 => ?_)
  · replace hh := (if_pos c14).symm.trans hh
    refine J_drop 1 (L' := [some (.ref 19), none, some (.int p1), some (.int p2)]) rfl ?_
    refine J_drop 2 (L' := [some (.ref 19), none, none, some (.int p2)]) rfl ?_
    refine J_drop 3 (L' := [some (.ref 19), none, none, none]) rfl ?_
    exact jgX7_pupil_26 d s hh hk
  · replace hh := (if_neg c14).symm.trans hh
    refine J_iload_n (pc := 7) dX7_pupil_7 rfl ?_
    obtain ⟨y3, hy3, hh⟩ := bd_some hh
    refine J_callSi (pc := 8) (M' := MX7_areHours) (rest := []) (As := [.int p1]) (L0 := [some (.int p1)]) okX7_areHours osX7_areHours mlX7_151 rfl rfl (Nat.le_of_ble_eq_true rfl) dX7_pupil_8 rfl (Nat.le_of_ble_eq_true rfl) (jX7_areHours (X := X) d s p1 hy3) ?_
    refine J_if_eq (pc := 11) 26 dX7_pupil_11 (by decide) (fun c13 => ?_) (fun c13 => ?_)
    · replace hh := (if_pos c13).symm.trans hh
      refine J_drop 1 (L' := [some (.ref 19), none, some (.int p1), some (.int p2)]) rfl ?_
      refine J_drop 2 (L' := [some (.ref 19), none, none, some (.int p2)]) rfl ?_
      refine J_drop 3 (L' := [some (.ref 19), none, none, none]) rfl ?_
      exact jgX7_pupil_26 d s hh hk
    · replace hh := (if_neg c13).symm.trans hh
      refine J_iload_n (pc := 14) dX7_pupil_14 rfl ?_
      refine J_i2l (pc := 15) dX7_pupil_15 ?_
      refine J_lconst (pc := 16) (v := 0) dX7_pupil_16 rfl ?_
      refine J_ldc2 (pc := 17) klX7_191 dX7_pupil_17 ?_
      obtain ⟨y4, hy4, hh⟩ := bd_some hh
      refine J_callSi (pc := 20) (M' := MX7_in) (rest := []) (As := [.long (p2.toInt64), .long (0 : Int64), .long (15 : Int64)]) (L0 := [some (.long (p2.toInt64)), none, some (.long (0 : Int64)), none, some (.long (15 : Int64)), none]) okX7_in osX7_in mlX7_63 rfl rfl (Nat.le_of_ble_eq_true rfl) dX7_pupil_20 rfl (Nat.le_of_ble_eq_true rfl) (jX7_in (X := X) (d + 1) s (p2.toInt64) (0 : Int64) (15 : Int64) hy4) ?_
      refine J_if_ne (pc := 23) 32 dX7_pupil_23 (by decide) (fun c12 => ?_) (fun c12 => ?_)
      · replace hh := (if_neg c12).symm.trans hh
        refine J_aload_n (pc := 32) dX7_pupil_32 rfl ?_
        refine J_getR (pc := 33) (k := 0) flX7_9 so19 fk19_0 dX7_pupil_33 ?_
        refine J_bipush (pc := 36) dX7_pupil_36 cb_96 ?_
        obtain ⟨h5, hh⟩ := gd_some hh
        refine J_iald (pc := 38) dX7_pupil_38 sa20 h5 ?_
        refine J_bipush (pc := 39) dX7_pupil_39 cb_6 ?_
        refine J_icmp_ne (pc := 41) 50 dX7_pupil_41 (by decide) (fun c11 => ?_) (fun c11 => ?_)
        · replace hh := (if_neg c11).symm.trans hh
          refine J_aload_n (pc := 50) dX7_pupil_50 rfl ?_
          obtain ⟨y6, hy6, hh⟩ := bd_some hh
          refine J_callV0 (pc := 51) (M' := MX7_laysAside) (a := 19) (rest := []) (As := []) (L0 := [some (.ref 19), none]) okX7_laysAside ovX7_laysAside mlX7_161 clX7 so19 rfl rfl (Nat.le_of_ble_eq_true rfl) dX7_pupil_51 rfl (Nat.le_of_ble_eq_true rfl) (jX7_laysAside (X := X) (d + 1) s hy6) ?_
          refine J_aload_n (pc := 54) dX7_pupil_54 rfl ?_
          refine J_iload_n (pc := 55) dX7_pupil_55 rfl ?_
          refine J_iload_n (pc := 56) dX7_pupil_56 rfl ?_
          refine J_iload_n (pc := 57) dX7_pupil_57 rfl ?_
          obtain ⟨y7, hy7, hh⟩ := bd_some hh
          refine J_callV0 (pc := 58) (M' := MX7_comes) (a := 19) (rest := []) (As := [.int p0, .int p1, .int p2]) (L0 := [some (.ref 19), some (.int p0), some (.int p1), some (.int p2), none, none]) okX7_comes ovX7_comes mlX7_193 clX7 so19 rfl rfl (Nat.le_of_ble_eq_true rfl) dX7_pupil_58 rfl (Nat.le_of_ble_eq_true rfl) (jX7_comes (X := X) (d + 1) y6 p0 p1 p2 hy7) ?_
          refine J_aload_n (pc := 61) dX7_pupil_61 rfl ?_
          obtain ⟨y8, hy8, hh⟩ := bd_some hh
          refine J_callV0 (pc := 62) (M' := MX7_changes) (a := 19) (rest := []) (As := []) (L0 := [some (.ref 19), none, none]) okX7_changes ovX7_changes mlX7_168 clX7 so19 rfl rfl (Nat.le_of_ble_eq_true rfl) dX7_pupil_62 rfl (Nat.le_of_ble_eq_true rfl) (jX7_changes (X := X) (d + 1) y7 hy8) ?_
          refine J_aload_n (pc := 65) dX7_pupil_65 rfl ?_
          refine J_getR (pc := 66) (k := 0) flX7_9 so19 fk19_0 dX7_pupil_66 ?_
          refine J_bipush (pc := 69) dX7_pupil_69 cb_96 ?_
          obtain ⟨h9, hh⟩ := gd_some hh
          refine J_iald (pc := 71) dX7_pupil_71 sa20 h9 ?_
          refine J_iconst (pc := 72) dX7_pupil_72 ci_1 ?_
          refine J_isub (pc := 73) dX7_pupil_73 ?_
          obtain rfl := Option.some.inj hh
          obtain ⟨rfl, rfl⟩ := hk
          exact J_ret (w := some (.int ((y8.1 20 (96 : Int32).toNatClampNeg) - (1 : Int32)))) ⟨dX7_pupil_74, _, rfl, rfl⟩
        · replace hh := (if_pos c11).symm.trans hh
          refine J_aload_n (pc := 44) dX7_pupil_44 rfl ?_
          refine J_iconst (pc := 45) dX7_pupil_45 ci_1 ?_
          obtain ⟨y10, hy10, hh⟩ := bd_some hh
          refine J_callVi (pc := 46) (M' := MX7_finds) (a := 19) (rest := []) (As := [.int (1 : Int32)]) (L0 := [some (.ref 19), some (.int (1 : Int32))]) okX7_finds ovX7_finds mlX7_158 clX7 so19 rfl rfl (Nat.le_of_ble_eq_true rfl) dX7_pupil_46 rfl (Nat.le_of_ble_eq_true rfl) (jX7_finds (X := X) (d + 1) s (1 : Int32) hy10) ?_
          obtain rfl := Option.some.inj hh
          obtain ⟨rfl, rfl⟩ := hk
          exact J_ret (w := some (.int y10.1)) ⟨dX7_pupil_49, _, rfl, rfl⟩
      · replace hh := (if_pos c12).symm.trans hh
        refine J_drop 1 (L' := [some (.ref 19), none, some (.int p1), some (.int p2)]) rfl ?_
        refine J_drop 2 (L' := [some (.ref 19), none, none, some (.int p2)]) rfl ?_
        refine J_drop 3 (L' := [some (.ref 19), none, none, none]) rfl ?_
        exact jgX7_pupil_26 d s hh hk
theorem jX7_pupil {X : Scr} (d : Nat) (s : Mem) (p0 : Int32) (p1 : Int32) (p2 : Int32) {r : (Int32 × Mem)} (hh : fX7_pupil s p0 p1 p2 = some r) : J X MX7_pupil (d + 2) 0 [some (.ref 19), some (.int p0), some (.int p1), some (.int p2)] [] s (some (.int r.1)) r.2 := jjX7_pupil d s p0 p1 p2 hh ⟨rfl, rfl⟩
theorem dX7_leave_0 : decode cX7_leave 0 = .ok (.aload_n 0, 1) := by decide +kernel
theorem dX7_leave_1 : decode cX7_leave 1 = .ok (.getfield 9, 3) := by decide +kernel
theorem dX7_leave_4 : decode cX7_leave 4 = .ok (.bipush 96, 2) := by decide +kernel
theorem dX7_leave_6 : decode cX7_leave 6 = .ok (.iaload, 1) := by decide +kernel
theorem dX7_leave_7 : decode cX7_leave 7 = .ok (.ifCond .ne 9, 3) := by decide +kernel
theorem dX7_leave_10 : decode cX7_leave 10 = .ok (.aload_n 0, 1) := by decide +kernel
theorem dX7_leave_11 : decode cX7_leave 11 = .ok (.iconst 3, 1) := by decide +kernel
theorem dX7_leave_12 : decode cX7_leave 12 = .ok (.invokevirtual 158, 3) := by decide +kernel
theorem dX7_leave_15 : decode cX7_leave 15 = .ok (.ireturn, 1) := by decide +kernel
theorem dX7_leave_16 : decode cX7_leave 16 = .ok (.aload_n 0, 1) := by decide +kernel
theorem dX7_leave_17 : decode cX7_leave 17 = .ok (.invokevirtual 161, 3) := by decide +kernel
theorem dX7_leave_20 : decode cX7_leave 20 = .ok (.aload_n 0, 1) := by decide +kernel
theorem dX7_leave_21 : decode cX7_leave 21 = .ok (.getfield 9, 3) := by decide +kernel
theorem dX7_leave_24 : decode cX7_leave 24 = .ok (.bipush 96, 2) := by decide +kernel
theorem dX7_leave_26 : decode cX7_leave 26 = .ok (.dup2, 1) := by decide +kernel
theorem dX7_leave_27 : decode cX7_leave 27 = .ok (.iaload, 1) := by decide +kernel
theorem dX7_leave_28 : decode cX7_leave 28 = .ok (.iconst 1, 1) := by decide +kernel
theorem dX7_leave_29 : decode cX7_leave 29 = .ok (.isub, 1) := by decide +kernel
theorem dX7_leave_30 : decode cX7_leave 30 = .ok (.iastore, 1) := by decide +kernel
theorem dX7_leave_31 : decode cX7_leave 31 = .ok (.aload_n 0, 1) := by decide +kernel
theorem dX7_leave_32 : decode cX7_leave 32 = .ok (.invokevirtual 168, 3) := by decide +kernel
theorem dX7_leave_35 : decode cX7_leave 35 = .ok (.aload_n 0, 1) := by decide +kernel
theorem dX7_leave_36 : decode cX7_leave 36 = .ok (.getfield 9, 3) := by decide +kernel
theorem dX7_leave_39 : decode cX7_leave 39 = .ok (.bipush 96, 2) := by decide +kernel
theorem dX7_leave_41 : decode cX7_leave 41 = .ok (.iaload, 1) := by decide +kernel
theorem dX7_leave_42 : decode cX7_leave 42 = .ok (.ireturn, 1) := by decide +kernel
def fX7_leave (s : Mem)  : Option (Int32 × Mem) :=
  gd (96 : Int32) 139 (if (s.1 20 (96 : Int32).toNatClampNeg) = (0 : Int32) then (fX7_finds s (3 : Int32)).bind (fun y8 => some ((y8.1, y8.2))) else (fX7_laysAside s).bind (fun y2 => gd (96 : Int32) 139 (gd (96 : Int32) 139 (lt (up2 y2 20 (96 : Int32).toNatClampNeg ((y2.1 20 (96 : Int32).toNatClampNeg) - (1 : Int32))) (fun s5 => (fX7_changes s5).bind (fun y6 => gd (96 : Int32) 139 (some ((y6.1 20 (96 : Int32).toNatClampNeg, y6)))))))))
set_option maxRecDepth 4000 in
theorem jjX7_leave {X : Scr} (d : Nat) (s : Mem)  {r : (Int32 × Mem)} {w : Option Value} {s' : Mem} (hh : fX7_leave s = some r) (hk : w = some (.int r.1) ∧ r.2 = s') : J X MX7_leave (d + 1) 0 [some (.ref 19)] [] s w s' := by
  unfold fX7_leave at hh
  refine J_aload_n (pc := 0) dX7_leave_0 rfl ?_
  refine J_getR (pc := 1) (k := 0) flX7_9 so19 fk19_0 dX7_leave_1 ?_
  refine J_bipush (pc := 4) dX7_leave_4 cb_96 ?_
  obtain ⟨h1, hh⟩ := gd_some hh
  refine J_iald (pc := 6) dX7_leave_6 sa20 h1 ?_
  refine J_if_ne (pc := 7) 16 dX7_leave_7 (by decide) (fun c9 => ?_) (fun c9 => ?_)
  · replace hh := (if_neg c9).symm.trans hh
    refine J_aload_n (pc := 16) dX7_leave_16 rfl ?_
    obtain ⟨y2, hy2, hh⟩ := bd_some hh
    refine J_callV0 (pc := 17) (M' := MX7_laysAside) (a := 19) (rest := []) (As := []) (L0 := [some (.ref 19), none]) okX7_laysAside ovX7_laysAside mlX7_161 clX7 so19 rfl rfl (Nat.le_of_ble_eq_true rfl) dX7_leave_17 rfl (Nat.le_of_ble_eq_true rfl) (jX7_laysAside (X := X) d s hy2) ?_
    refine J_aload_n (pc := 20) dX7_leave_20 rfl ?_
    refine J_getR (pc := 21) (k := 0) flX7_9 so19 fk19_0 dX7_leave_21 ?_
    refine J_bipush (pc := 24) dX7_leave_24 cb_96 ?_
    refine J_dup2 (pc := 26) dX7_leave_26 rfl rfl ?_
    obtain ⟨h3, hh⟩ := gd_some hh
    refine J_iald (pc := 27) dX7_leave_27 sa20 h3 ?_
    refine J_iconst (pc := 28) dX7_leave_28 ci_1 ?_
    refine J_isub (pc := 29) dX7_leave_29 ?_
    obtain ⟨h4, hh⟩ := gd_some hh
    refine J_iastL (pc := 30) dX7_leave_30 sa20 h4 hh (fun s5 hh => ?_)
    refine J_aload_n (pc := 31) dX7_leave_31 rfl ?_
    obtain ⟨y6, hy6, hh⟩ := bd_some hh
    refine J_callV0 (pc := 32) (M' := MX7_changes) (a := 19) (rest := []) (As := []) (L0 := [some (.ref 19), none, none]) okX7_changes ovX7_changes mlX7_168 clX7 so19 rfl rfl (Nat.le_of_ble_eq_true rfl) dX7_leave_32 rfl (Nat.le_of_ble_eq_true rfl) (jX7_changes (X := X) d s5 hy6) ?_
    refine J_aload_n (pc := 35) dX7_leave_35 rfl ?_
    refine J_getR (pc := 36) (k := 0) flX7_9 so19 fk19_0 dX7_leave_36 ?_
    refine J_bipush (pc := 39) dX7_leave_39 cb_96 ?_
    obtain ⟨h7, hh⟩ := gd_some hh
    refine J_iald (pc := 41) dX7_leave_41 sa20 h7 ?_
    obtain rfl := Option.some.inj hh
    obtain ⟨rfl, rfl⟩ := hk
    exact J_ret (w := some (.int (y6.1 20 (96 : Int32).toNatClampNeg))) ⟨dX7_leave_42, _, rfl, rfl⟩
  · replace hh := (if_pos c9).symm.trans hh
    refine J_aload_n (pc := 10) dX7_leave_10 rfl ?_
    refine J_iconst (pc := 11) dX7_leave_11 ci_3 ?_
    obtain ⟨y8, hy8, hh⟩ := bd_some hh
    refine J_callVi (pc := 12) (M' := MX7_finds) (a := 19) (rest := []) (As := [.int (3 : Int32)]) (L0 := [some (.ref 19), some (.int (3 : Int32))]) okX7_finds ovX7_finds mlX7_158 clX7 so19 rfl rfl (Nat.le_of_ble_eq_true rfl) dX7_leave_12 rfl (Nat.le_of_ble_eq_true rfl) (jX7_finds (X := X) d s (3 : Int32) hy8) ?_
    obtain rfl := Option.some.inj hh
    obtain ⟨rfl, rfl⟩ := hk
    exact J_ret (w := some (.int y8.1)) ⟨dX7_leave_15, _, rfl, rfl⟩
theorem jX7_leave {X : Scr} (d : Nat) (s : Mem)  {r : (Int32 × Mem)} (hh : fX7_leave s = some r) : J X MX7_leave (d + 1) 0 [some (.ref 19)] [] s (some (.int r.1)) r.2 := jjX7_leave d s hh ⟨rfl, rfl⟩
theorem dX7_putMany_0 : decode cX7_putMany 0 = .ok (.iconst 0, 1) := by decide +kernel
theorem dX7_putMany_1 : decode cX7_putMany 1 = .ok (.istore_n 2, 1) := by decide +kernel
theorem dX7_putMany_2 : decode cX7_putMany 2 = .ok (.iconst 0, 1) := by decide +kernel
theorem dX7_putMany_3 : decode cX7_putMany 3 = .ok (.istore_n 3, 1) := by decide +kernel
theorem dX7_putMany_4 : decode cX7_putMany 4 = .ok (.iload_n 3, 1) := by decide +kernel
theorem dX7_putMany_5 : decode cX7_putMany 5 = .ok (.iconst 4, 1) := by decide +kernel
theorem dX7_putMany_6 : decode cX7_putMany 6 = .ok (.if_icmp .ge 26, 3) := by decide +kernel
theorem dX7_putMany_9 : decode cX7_putMany 9 = .ok (.iload_n 2, 1) := by decide +kernel
theorem dX7_putMany_10 : decode cX7_putMany 10 = .ok (.aload_n 0, 1) := by decide +kernel
theorem dX7_putMany_11 : decode cX7_putMany 11 = .ok (.iload_n 1, 1) := by decide +kernel
theorem dX7_putMany_12 : decode cX7_putMany 12 = .ok (.iload_n 3, 1) := by decide +kernel
theorem dX7_putMany_13 : decode cX7_putMany 13 = .ok (.invokevirtual 105, 3) := by decide +kernel
theorem dX7_putMany_16 : decode cX7_putMany 16 = .ok (.ifCond .lt 7, 3) := by decide +kernel
theorem dX7_putMany_19 : decode cX7_putMany 19 = .ok (.iconst 1, 1) := by decide +kernel
theorem dX7_putMany_20 : decode cX7_putMany 20 = .ok (.goto 4, 3) := by decide +kernel
theorem dX7_putMany_23 : decode cX7_putMany 23 = .ok (.iconst 0, 1) := by decide +kernel
theorem dX7_putMany_24 : decode cX7_putMany 24 = .ok (.iadd, 1) := by decide +kernel
theorem dX7_putMany_25 : decode cX7_putMany 25 = .ok (.istore_n 2, 1) := by decide +kernel
theorem dX7_putMany_26 : decode cX7_putMany 26 = .ok (.iinc 3 1, 3) := by decide +kernel
theorem dX7_putMany_29 : decode cX7_putMany 29 = .ok (.goto (-25), 3) := by decide +kernel
theorem dX7_putMany_32 : decode cX7_putMany 32 = .ok (.iload_n 2, 1) := by decide +kernel
theorem dX7_putMany_33 : decode cX7_putMany 33 = .ok (.ireturn, 1) := by decide +kernel
def bX7_putMany_4 (s : Mem) (v1 : Int32) (v2 : Int32) (v3 : Int32) : Option (Int32 ⊕ (Int32 × Int32)) :=
  if (4 : Int32) ≤ v3 then some (Sum.inl v2) else (fX7_triple s v1 v3).bind (fun y1 => if y1 < (0 : Int32) then lt (v2 + (0 : Int32)) (fun x2 => lt (v3 + (1 : Int32)) (fun x3 => some (Sum.inr (x2, x3)))) else lt (v2 + (1 : Int32)) (fun x4 => lt (v3 + (1 : Int32)) (fun x5 => some (Sum.inr (x4, x5)))))
set_option maxRecDepth 4000 in
theorem jbX7_putMany_4 {X : Scr} (d : Nat) (s : Mem) (v1 : Int32) (v2 : Int32) (v3 : Int32) {r : (Int32 ⊕ (Int32 × Int32))} {w : Option Value} {s' : Mem} (hh : bX7_putMany_4 s v1 v2 v3 = some r) (hk : Sum.elim (fun t : Int32 => J X MX7_putMany (d + 1) 32 [none, none, some (.int t), none] [] s w s') (fun a : (Int32 × Int32) => J X MX7_putMany (d + 1) 4 [some (.ref 19), some (.int v1), some (.int a.1), some (.int a.2)] [] s w s') r) : J X MX7_putMany (d + 1) 4 [some (.ref 19), some (.int v1), some (.int v2), some (.int v3)] [] s w s' := by
  unfold bX7_putMany_4 at hh
  refine J_iload_n (pc := 4) dX7_putMany_4 rfl ?_
  refine J_iconst (pc := 5) dX7_putMany_5 ci_4 ?_
  refine J_icmp_ge (pc := 6) 32 dX7_putMany_6 (by decide) (fun c7 => ?_) (fun c7 => ?_)
  · replace hh := (if_pos c7).symm.trans hh
    refine J_drop 0 (L' := [none, some (.int v1), some (.int v2), some (.int v3)]) rfl ?_
    refine J_drop 1 (L' := [none, none, some (.int v2), some (.int v3)]) rfl ?_
    refine J_drop 3 (L' := [none, none, some (.int v2), none]) rfl ?_
    obtain rfl := Option.some.inj hh
    exact hk
  · replace hh := (if_neg c7).symm.trans hh
    refine J_iload_n (pc := 9) dX7_putMany_9 rfl ?_
    refine J_aload_n (pc := 10) dX7_putMany_10 rfl ?_
    refine J_iload_n (pc := 11) dX7_putMany_11 rfl ?_
    refine J_iload_n (pc := 12) dX7_putMany_12 rfl ?_
    obtain ⟨y1, hy1, hh⟩ := bd_some hh
    refine J_callVi (pc := 13) (M' := MX7_triple) (a := 19) (rest := [.int v2]) (As := [.int v1, .int v3]) (L0 := [some (.ref 19), some (.int v1), some (.int v3)]) okX7_triple ovX7_triple mlX7_105 clX7 so19 rfl rfl (Nat.le_of_ble_eq_true rfl) dX7_putMany_13 rfl (Nat.le_of_ble_eq_true rfl) (jX7_triple (X := X) d s v1 v3 hy1) ?_
    refine J_if_lt (pc := 16) 23 dX7_putMany_16 (by decide) (fun c6 => ?_) (fun c6 => ?_)
    · replace hh := (if_pos c6).symm.trans hh
      refine J_iconst (pc := 23) dX7_putMany_23 ci_0 ?_
      refine J_iadd (pc := 24) dX7_putMany_24 ?_
      refine J_istoreL_n (pc := 25) (fun x2 => [some (.ref 19), some (.int v1), some (.int x2), some (.int v3)]) dX7_putMany_25 rfl (Nat.le_of_ble_eq_true rfl) (fun _ => rfl) hh (fun x2 hh => ?_)
      refine J_iincL (pc := 26) (v := v3 + (1 : Int32)) (fun x3 => [some (.ref 19), some (.int v1), some (.int x2), some (.int x3)]) dX7_putMany_26 rfl rfl (Nat.le_of_ble_eq_true rfl) (congrArg _ ci_1) (fun _ => rfl) hh (fun x3 hh => ?_)
      refine J_goto (pc := 29) 4 dX7_putMany_29 (by decide) ?_
      obtain rfl := Option.some.inj hh
      exact hk
    · replace hh := (if_neg c6).symm.trans hh
      refine J_iconst (pc := 19) dX7_putMany_19 ci_1 ?_
      refine J_goto (pc := 20) 24 dX7_putMany_20 (by decide) ?_
      refine J_iadd (pc := 24) dX7_putMany_24 ?_
      refine J_istoreL_n (pc := 25) (fun x4 => [some (.ref 19), some (.int v1), some (.int x4), some (.int v3)]) dX7_putMany_25 rfl (Nat.le_of_ble_eq_true rfl) (fun _ => rfl) hh (fun x4 hh => ?_)
      refine J_iincL (pc := 26) (v := v3 + (1 : Int32)) (fun x5 => [some (.ref 19), some (.int v1), some (.int x4), some (.int x5)]) dX7_putMany_26 rfl rfl (Nat.le_of_ble_eq_true rfl) (congrArg _ ci_1) (fun _ => rfl) hh (fun x5 hh => ?_)
      refine J_goto (pc := 29) 4 dX7_putMany_29 (by decide) ?_
      obtain rfl := Option.some.inj hh
      exact hk
def fX7_putMany (s : Mem) (p0 : Int32) : Option Int32 :=
  (lp (fun a => bX7_putMany_4 s p0 a.1 a.2) 600 ((0 : Int32), (0 : Int32))).bind (fun y8 => some y8)
set_option maxRecDepth 4000 in
theorem jjX7_putMany {X : Scr} (d : Nat) (s : Mem) (p0 : Int32) {r : Int32} {w : Option Value} {s' : Mem} (hh : fX7_putMany s p0 = some r) (hk : w = some (.int r) ∧ s = s') : J X MX7_putMany (d + 1) 0 [some (.ref 19), some (.int p0), none, none] [] s w s' := by
  unfold fX7_putMany at hh
  refine J_iconst (pc := 0) dX7_putMany_0 ci_0 ?_
  refine J_istore_n (pc := 1) (L' := [some (.ref 19), some (.int p0), some (.int (0 : Int32)), none]) dX7_putMany_1 rfl (Nat.le_of_ble_eq_true rfl) rfl ?_
  refine J_iconst (pc := 2) dX7_putMany_2 ci_0 ?_
  refine J_istore_n (pc := 3) (L' := [some (.ref 19), some (.int p0), some (.int (0 : Int32)), some (.int (0 : Int32))]) dX7_putMany_3 rfl (Nat.le_of_ble_eq_true rfl) rfl ?_
  obtain ⟨y8, hy8, hh⟩ := bd_some hh
  refine J_lp (a := ((0 : Int32), (0 : Int32))) (fun a : (Int32 × Int32) => J X MX7_putMany (d + 1) 4 [some (.ref 19), some (.int p0), some (.int a.1), some (.int a.2)] [] s w s') (fun t : Int32 => J X MX7_putMany (d + 1) 32 [none, none, some (.int t), none] [] s w s') (fun a q h1 h2 => jbX7_putMany_4 d s p0 a.1 a.2 h1 h2) hy8 ?_
  refine J_iload_n (pc := 32) dX7_putMany_32 rfl ?_
  obtain rfl := Option.some.inj hh
  obtain ⟨rfl, rfl⟩ := hk
  exact J_ret (w := some (.int y8)) ⟨dX7_putMany_33, _, rfl, rfl⟩
theorem jX7_putMany {X : Scr} (d : Nat) (s : Mem) (p0 : Int32) {r : Int32} (hh : fX7_putMany s p0 = some r) : J X MX7_putMany (d + 1) 0 [some (.ref 19), some (.int p0), none, none] [] s (some (.int r)) s := jjX7_putMany d s p0 hh ⟨rfl, rfl⟩
theorem dX7_its_0 : decode cX7_its 0 = .ok (.aload_n 0, 1) := by decide +kernel
theorem dX7_its_1 : decode cX7_its 1 = .ok (.iload_n 1, 1) := by decide +kernel
theorem dX7_its_2 : decode cX7_its 2 = .ok (.invokevirtual 196, 3) := by decide +kernel
theorem dX7_its_5 : decode cX7_its 5 = .ok (.ifCond .eq 29, 3) := by decide +kernel
theorem dX7_its_8 : decode cX7_its 8 = .ok (.iload_n 2, 1) := by decide +kernel
theorem dX7_its_9 : decode cX7_its 9 = .ok (.i2l, 1) := by decide +kernel
theorem dX7_its_10 : decode cX7_its 10 = .ok (.lconst 0, 1) := by decide +kernel
theorem dX7_its_11 : decode cX7_its 11 = .ok (.ldc2_w 103, 3) := by decide +kernel
theorem dX7_its_14 : decode cX7_its 14 = .ok (.invokestatic 63, 3) := by decide +kernel
theorem dX7_its_17 : decode cX7_its 17 = .ok (.ifCond .ne 23, 3) := by decide +kernel
theorem dX7_its_20 : decode cX7_its 20 = .ok (.iload_n 2, 1) := by decide +kernel
theorem dX7_its_21 : decode cX7_its 21 = .ok (.i2l, 1) := by decide +kernel
theorem dX7_its_22 : decode cX7_its 22 = .ok (.ldc2_w 199, 3) := by decide +kernel
theorem dX7_its_25 : decode cX7_its 25 = .ok (.ldc2_w 201, 3) := by decide +kernel
theorem dX7_its_28 : decode cX7_its 28 = .ok (.invokestatic 63, 3) := by decide +kernel
theorem dX7_its_31 : decode cX7_its 31 = .ok (.ifCond .ne 9, 3) := by decide +kernel
theorem dX7_its_34 : decode cX7_its 34 = .ok (.aload_n 0, 1) := by decide +kernel
theorem dX7_its_35 : decode cX7_its 35 = .ok (.iconst 0, 1) := by decide +kernel
theorem dX7_its_36 : decode cX7_its 36 = .ok (.invokevirtual 158, 3) := by decide +kernel
theorem dX7_its_39 : decode cX7_its 39 = .ok (.ireturn, 1) := by decide +kernel
theorem dX7_its_40 : decode cX7_its 40 = .ok (.iload_n 2, 1) := by decide +kernel
theorem dX7_its_41 : decode cX7_its 41 = .ok (.tableswitch 73 0 5 #[39, 39, 39, 54, 61, 67], 39) := by decide +kernel
theorem dX7_its_80 : decode cX7_its 80 = .ok (.aload_n 0, 1) := by decide +kernel
theorem dX7_its_81 : decode cX7_its 81 = .ok (.getfield 9, 3) := by decide +kernel
theorem dX7_its_84 : decode cX7_its 84 = .ok (.bipush 97, 2) := by decide +kernel
theorem dX7_its_86 : decode cX7_its 86 = .ok (.bipush 7, 2) := by decide +kernel
theorem dX7_its_88 : decode cX7_its 88 = .ok (.iload_n 1, 1) := by decide +kernel
theorem dX7_its_89 : decode cX7_its 89 = .ok (.imul, 1) := by decide +kernel
theorem dX7_its_90 : decode cX7_its 90 = .ok (.iadd, 1) := by decide +kernel
theorem dX7_its_91 : decode cX7_its 91 = .ok (.iload_n 2, 1) := by decide +kernel
theorem dX7_its_92 : decode cX7_its 92 = .ok (.iadd, 1) := by decide +kernel
theorem dX7_its_93 : decode cX7_its 93 = .ok (.iaload, 1) := by decide +kernel
theorem dX7_its_94 : decode cX7_its 94 = .ok (.ireturn, 1) := by decide +kernel
theorem dX7_its_95 : decode cX7_its 95 = .ok (.aload_n 0, 1) := by decide +kernel
theorem dX7_its_96 : decode cX7_its 96 = .ok (.iload_n 1, 1) := by decide +kernel
theorem dX7_its_97 : decode cX7_its 97 = .ok (.iconst (-1), 1) := by decide +kernel
theorem dX7_its_98 : decode cX7_its 98 = .ok (.invokevirtual 121, 3) := by decide +kernel
theorem dX7_its_101 : decode cX7_its 101 = .ok (.ireturn, 1) := by decide +kernel
theorem dX7_its_102 : decode cX7_its 102 = .ok (.aload_n 0, 1) := by decide +kernel
theorem dX7_its_103 : decode cX7_its 103 = .ok (.iload_n 1, 1) := by decide +kernel
theorem dX7_its_104 : decode cX7_its 104 = .ok (.invokevirtual 203, 3) := by decide +kernel
theorem dX7_its_107 : decode cX7_its 107 = .ok (.ireturn, 1) := by decide +kernel
theorem dX7_its_108 : decode cX7_its 108 = .ok (.aload_n 0, 1) := by decide +kernel
theorem dX7_its_109 : decode cX7_its 109 = .ok (.iload_n 1, 1) := by decide +kernel
theorem dX7_its_110 : decode cX7_its 110 = .ok (.invokevirtual 205, 3) := by decide +kernel
theorem dX7_its_113 : decode cX7_its 113 = .ok (.ireturn, 1) := by decide +kernel
theorem dX7_its_114 : decode cX7_its 114 = .ok (.aload_n 0, 1) := by decide +kernel
theorem dX7_its_115 : decode cX7_its 115 = .ok (.iload_n 1, 1) := by decide +kernel
theorem dX7_its_116 : decode cX7_its 116 = .ok (.iload_n 2, 1) := by decide +kernel
theorem dX7_its_117 : decode cX7_its 117 = .ok (.bipush 10, 2) := by decide +kernel
theorem dX7_its_119 : decode cX7_its 119 = .ok (.isub, 1) := by decide +kernel
theorem dX7_its_120 : decode cX7_its 120 = .ok (.invokevirtual 105, 3) := by decide +kernel
theorem dX7_its_123 : decode cX7_its 123 = .ok (.ireturn, 1) := by decide +kernel
def gX7_its_34 (s : Mem)  : Option (Int32 × Mem) :=
  (fX7_finds s (0 : Int32)).bind (fun y2 => some ((y2.1, y2.2)))
set_option maxRecDepth 4000 in
theorem jgX7_its_34 {X : Scr} (d : Nat) (s : Mem)  {r : (Int32 × Mem)} {w : Option Value} {s' : Mem} (hh : gX7_its_34 s = some r) (hk : w = some (.int r.1) ∧ r.2 = s') : J X MX7_its (d + 7) 34 [some (.ref 19), none, none] [] s w s' := by
  unfold gX7_its_34 at hh
  refine J_aload_n (pc := 34) dX7_its_34 rfl ?_
  refine J_iconst (pc := 35) dX7_its_35 ci_0 ?_
  obtain ⟨y2, hy2, hh⟩ := bd_some hh
  refine J_callVi (pc := 36) (M' := MX7_finds) (a := 19) (rest := []) (As := [.int (0 : Int32)]) (L0 := [some (.ref 19), some (.int (0 : Int32))]) okX7_finds ovX7_finds mlX7_158 clX7 so19 rfl rfl (Nat.le_of_ble_eq_true rfl) dX7_its_36 rfl (Nat.le_of_ble_eq_true rfl) (jX7_finds (X := X) (d + 6) s (0 : Int32) hy2) ?_
  obtain rfl := Option.some.inj hh
  obtain ⟨rfl, rfl⟩ := hk
  exact J_ret (w := some (.int y2.1)) ⟨dX7_its_39, _, rfl, rfl⟩
def gX7_its_40 (s : Mem) (v1 : Int32) (v2 : Int32) : Option (Int32 × Mem) :=
  if v2 = (0 : Int32) then gd (((97 : Int32) + ((7 : Int32) * v1)) + v2) 139 (some ((s.1 20 (((97 : Int32) + ((7 : Int32) * v1)) + v2).toNatClampNeg, s))) else if v2 = (1 : Int32) then gd (((97 : Int32) + ((7 : Int32) * v1)) + v2) 139 (some ((s.1 20 (((97 : Int32) + ((7 : Int32) * v1)) + v2).toNatClampNeg, s))) else if v2 = (2 : Int32) then gd (((97 : Int32) + ((7 : Int32) * v1)) + v2) 139 (some ((s.1 20 (((97 : Int32) + ((7 : Int32) * v1)) + v2).toNatClampNeg, s))) else if v2 = (3 : Int32) then (fX7_busyBut s v1 (-1 : Int32)).bind (fun y11 => some ((y11, s))) else if v2 = (4 : Int32) then (fX7_costOf_ s v1).bind (fun y13 => some ((y13, s))) else if v2 = (5 : Int32) then (fX7_putMany s v1).bind (fun y15 => some ((y15, s))) else (fX7_triple s v1 (v2 - (10 : Int32))).bind (fun y16 => some ((y16, s)))
set_option maxRecDepth 4000 in
theorem jgX7_its_40 {X : Scr} (d : Nat) (s : Mem) (v1 : Int32) (v2 : Int32) {r : (Int32 × Mem)} {w : Option Value} {s' : Mem} (hh : gX7_its_40 s v1 v2 = some r) (hk : w = some (.int r.1) ∧ r.2 = s') : J X MX7_its (d + 7) 40 [some (.ref 19), some (.int v1), some (.int v2)] [] s w s' := by
  unfold gX7_its_40 at hh
  refine J_iload_n (pc := 40) dX7_its_40 rfl ?_
  by_cases c4 : v2 = (0 : Int32)
  · replace hh := (if_pos c4).symm.trans hh
    refine J_swIn (pc := 41) 80 dX7_its_41 (by rw [c4]; decide) (by rw [c4]; decide) (by rw [c4]; rfl) (by decide) ?_
    refine J_aload_n (pc := 80) dX7_its_80 rfl ?_
    refine J_getR (pc := 81) (k := 0) flX7_9 so19 fk19_0 dX7_its_81 ?_
    refine J_bipush (pc := 84) dX7_its_84 cb_97 ?_
    refine J_bipush (pc := 86) dX7_its_86 cb_7 ?_
    refine J_iload_n (pc := 88) dX7_its_88 rfl ?_
    refine J_imul (pc := 89) dX7_its_89 ?_
    refine J_iadd (pc := 90) dX7_its_90 ?_
    refine J_iload_n (pc := 91) dX7_its_91 rfl ?_
    refine J_iadd (pc := 92) dX7_its_92 ?_
    obtain ⟨h5, hh⟩ := gd_some hh
    refine J_iald (pc := 93) dX7_its_93 sa20 h5 ?_
    obtain rfl := Option.some.inj hh
    obtain ⟨rfl, rfl⟩ := hk
    exact J_ret (w := some (.int (s.1 20 (((97 : Int32) + ((7 : Int32) * v1)) + v2).toNatClampNeg))) ⟨dX7_its_94, _, rfl, rfl⟩
  replace hh := (if_neg c4).symm.trans hh
  by_cases c6 : v2 = (1 : Int32)
  · replace hh := (if_pos c6).symm.trans hh
    refine J_swIn (pc := 41) 80 dX7_its_41 (by rw [c6]; decide) (by rw [c6]; decide) (by rw [c6]; rfl) (by decide) ?_
    refine J_aload_n (pc := 80) dX7_its_80 rfl ?_
    refine J_getR (pc := 81) (k := 0) flX7_9 so19 fk19_0 dX7_its_81 ?_
    refine J_bipush (pc := 84) dX7_its_84 cb_97 ?_
    refine J_bipush (pc := 86) dX7_its_86 cb_7 ?_
    refine J_iload_n (pc := 88) dX7_its_88 rfl ?_
    refine J_imul (pc := 89) dX7_its_89 ?_
    refine J_iadd (pc := 90) dX7_its_90 ?_
    refine J_iload_n (pc := 91) dX7_its_91 rfl ?_
    refine J_iadd (pc := 92) dX7_its_92 ?_
    obtain ⟨h7, hh⟩ := gd_some hh
    refine J_iald (pc := 93) dX7_its_93 sa20 h7 ?_
    obtain rfl := Option.some.inj hh
    obtain ⟨rfl, rfl⟩ := hk
    exact J_ret (w := some (.int (s.1 20 (((97 : Int32) + ((7 : Int32) * v1)) + v2).toNatClampNeg))) ⟨dX7_its_94, _, rfl, rfl⟩
  replace hh := (if_neg c6).symm.trans hh
  by_cases c8 : v2 = (2 : Int32)
  · replace hh := (if_pos c8).symm.trans hh
    refine J_swIn (pc := 41) 80 dX7_its_41 (by rw [c8]; decide) (by rw [c8]; decide) (by rw [c8]; rfl) (by decide) ?_
    refine J_aload_n (pc := 80) dX7_its_80 rfl ?_
    refine J_getR (pc := 81) (k := 0) flX7_9 so19 fk19_0 dX7_its_81 ?_
    refine J_bipush (pc := 84) dX7_its_84 cb_97 ?_
    refine J_bipush (pc := 86) dX7_its_86 cb_7 ?_
    refine J_iload_n (pc := 88) dX7_its_88 rfl ?_
    refine J_imul (pc := 89) dX7_its_89 ?_
    refine J_iadd (pc := 90) dX7_its_90 ?_
    refine J_iload_n (pc := 91) dX7_its_91 rfl ?_
    refine J_iadd (pc := 92) dX7_its_92 ?_
    obtain ⟨h9, hh⟩ := gd_some hh
    refine J_iald (pc := 93) dX7_its_93 sa20 h9 ?_
    obtain rfl := Option.some.inj hh
    obtain ⟨rfl, rfl⟩ := hk
    exact J_ret (w := some (.int (s.1 20 (((97 : Int32) + ((7 : Int32) * v1)) + v2).toNatClampNeg))) ⟨dX7_its_94, _, rfl, rfl⟩
  replace hh := (if_neg c8).symm.trans hh
  by_cases c10 : v2 = (3 : Int32)
  · replace hh := (if_pos c10).symm.trans hh
    refine J_swIn (pc := 41) 95 dX7_its_41 (by rw [c10]; decide) (by rw [c10]; decide) (by rw [c10]; rfl) (by decide) ?_
    refine J_aload_n (pc := 95) dX7_its_95 rfl ?_
    refine J_iload_n (pc := 96) dX7_its_96 rfl ?_
    refine J_iconst (pc := 97) dX7_its_97 ci_m1 ?_
    obtain ⟨y11, hy11, hh⟩ := bd_some hh
    refine J_callVi (pc := 98) (M' := MX7_busyBut) (a := 19) (rest := []) (As := [.int v1, .int (-1 : Int32)]) (L0 := [some (.ref 19), some (.int v1), some (.int (-1 : Int32)), none, none]) okX7_busyBut ovX7_busyBut mlX7_121 clX7 so19 rfl rfl (Nat.le_of_ble_eq_true rfl) dX7_its_98 rfl (Nat.le_of_ble_eq_true rfl) (jX7_busyBut (X := X) (d + 1) s v1 (-1 : Int32) hy11) ?_
    obtain rfl := Option.some.inj hh
    obtain ⟨rfl, rfl⟩ := hk
    exact J_ret (w := some (.int y11)) ⟨dX7_its_101, _, rfl, rfl⟩
  replace hh := (if_neg c10).symm.trans hh
  by_cases c12 : v2 = (4 : Int32)
  · replace hh := (if_pos c12).symm.trans hh
    refine J_swIn (pc := 41) 102 dX7_its_41 (by rw [c12]; decide) (by rw [c12]; decide) (by rw [c12]; rfl) (by decide) ?_
    refine J_aload_n (pc := 102) dX7_its_102 rfl ?_
    refine J_iload_n (pc := 103) dX7_its_103 rfl ?_
    obtain ⟨y13, hy13, hh⟩ := bd_some hh
    refine J_callVi (pc := 104) (M' := MX7_costOf_) (a := 19) (rest := []) (As := [.int v1]) (L0 := [some (.ref 19), some (.int v1)]) okX7_costOf_ ovX7_costOf_ mlX7_203 clX7 so19 rfl rfl (Nat.le_of_ble_eq_true rfl) dX7_its_104 rfl (Nat.le_of_ble_eq_true rfl) (jX7_costOf_ (X := X) d s v1 hy13) ?_
    obtain rfl := Option.some.inj hh
    obtain ⟨rfl, rfl⟩ := hk
    exact J_ret (w := some (.int y13)) ⟨dX7_its_107, _, rfl, rfl⟩
  replace hh := (if_neg c12).symm.trans hh
  by_cases c14 : v2 = (5 : Int32)
  · replace hh := (if_pos c14).symm.trans hh
    refine J_swIn (pc := 41) 108 dX7_its_41 (by rw [c14]; decide) (by rw [c14]; decide) (by rw [c14]; rfl) (by decide) ?_
    refine J_aload_n (pc := 108) dX7_its_108 rfl ?_
    refine J_iload_n (pc := 109) dX7_its_109 rfl ?_
    obtain ⟨y15, hy15, hh⟩ := bd_some hh
    refine J_callVi (pc := 110) (M' := MX7_putMany) (a := 19) (rest := []) (As := [.int v1]) (L0 := [some (.ref 19), some (.int v1), none, none]) okX7_putMany ovX7_putMany mlX7_205 clX7 so19 rfl rfl (Nat.le_of_ble_eq_true rfl) dX7_its_110 rfl (Nat.le_of_ble_eq_true rfl) (jX7_putMany (X := X) (d + 5) s v1 hy15) ?_
    obtain rfl := Option.some.inj hh
    obtain ⟨rfl, rfl⟩ := hk
    exact J_ret (w := some (.int y15)) ⟨dX7_its_113, _, rfl, rfl⟩
  replace hh := (if_neg c14).symm.trans hh
  refine J_swOut (pc := 41) 114 dX7_its_41 (by have := lv_neT c4 (a := 0) (by decide); have := lv_neT c6 (a := 1) (by decide); have := lv_neT c8 (a := 2) (by decide); have := lv_neT c10 (a := 3) (by decide); have := lv_neT c12 (a := 4) (by decide); have := lv_neT c14 (a := 5) (by decide); omega) (by decide) ?_
  refine J_aload_n (pc := 114) dX7_its_114 rfl ?_
  refine J_iload_n (pc := 115) dX7_its_115 rfl ?_
  refine J_iload_n (pc := 116) dX7_its_116 rfl ?_
  refine J_bipush (pc := 117) dX7_its_117 cb_10 ?_
  refine J_isub (pc := 119) dX7_its_119 ?_
  obtain ⟨y16, hy16, hh⟩ := bd_some hh
  refine J_callVi (pc := 120) (M' := MX7_triple) (a := 19) (rest := []) (As := [.int v1, .int (v2 - (10 : Int32))]) (L0 := [some (.ref 19), some (.int v1), some (.int (v2 - (10 : Int32)))]) okX7_triple ovX7_triple mlX7_105 clX7 so19 rfl rfl (Nat.le_of_ble_eq_true rfl) dX7_its_120 rfl (Nat.le_of_ble_eq_true rfl) (jX7_triple (X := X) (d + 6) s v1 (v2 - (10 : Int32)) hy16) ?_
  obtain rfl := Option.some.inj hh
  obtain ⟨rfl, rfl⟩ := hk
  exact J_ret (w := some (.int y16)) ⟨dX7_its_123, _, rfl, rfl⟩
def fX7_its (s : Mem) (p0 : Int32) (p1 : Int32) : Option (Int32 × Mem) :=
  (fX7_isPupil s p0).bind (fun y1 => if y1 = (0 : Int32) then gX7_its_34 s else (fX7_in (p1.toInt64) (0 : Int64) (5 : Int64)).bind (fun y3 => if y3 = (0 : Int32) then (fX7_in (p1.toInt64) (10 : Int64) (13 : Int64)).bind (fun y17 => if y17 = (0 : Int32) then gX7_its_34 s else gX7_its_40 s p0 p1) else gX7_its_40 s p0 p1))
set_option maxRecDepth 4000 in
theorem jjX7_its {X : Scr} (d : Nat) (s : Mem) (p0 : Int32) (p1 : Int32) {r : (Int32 × Mem)} {w : Option Value} {s' : Mem} (hh : fX7_its s p0 p1 = some r) (hk : w = some (.int r.1) ∧ r.2 = s') : J X MX7_its (d + 7) 0 [some (.ref 19), some (.int p0), some (.int p1)] [] s w s' := by
  unfold fX7_its at hh
  refine J_aload_n (pc := 0) dX7_its_0 rfl ?_
  refine J_iload_n (pc := 1) dX7_its_1 rfl ?_
  obtain ⟨y1, hy1, hh⟩ := bd_some hh
  refine J_callVi (pc := 2) (M' := MX7_isPupil) (a := 19) (rest := []) (As := [.int p0]) (L0 := [some (.ref 19), some (.int p0)]) okX7_isPupil ovX7_isPupil mlX7_196 clX7 so19 rfl rfl (Nat.le_of_ble_eq_true rfl) dX7_its_2 rfl (Nat.le_of_ble_eq_true rfl) (jX7_isPupil (X := X) (d + 5) s p0 hy1) ?_
  refine J_if_eq (pc := 5) 34 dX7_its_5 (by decide) (fun c20 => ?_) (fun c20 => ?_)
  · replace hh := (if_pos c20).symm.trans hh
    refine J_drop 1 (L' := [some (.ref 19), none, some (.int p1)]) rfl ?_
    refine J_drop 2 (L' := [some (.ref 19), none, none]) rfl ?_
    exact jgX7_its_34 d s hh hk
  · replace hh := (if_neg c20).symm.trans hh
    refine J_iload_n (pc := 8) dX7_its_8 rfl ?_
    refine J_i2l (pc := 9) dX7_its_9 ?_
    refine J_lconst (pc := 10) (v := 0) dX7_its_10 rfl ?_
    refine J_ldc2 (pc := 11) klX7_103 dX7_its_11 ?_
    obtain ⟨y3, hy3, hh⟩ := bd_some hh
    refine J_callSi (pc := 14) (M' := MX7_in) (rest := []) (As := [.long (p1.toInt64), .long (0 : Int64), .long (5 : Int64)]) (L0 := [some (.long (p1.toInt64)), none, some (.long (0 : Int64)), none, some (.long (5 : Int64)), none]) okX7_in osX7_in mlX7_63 rfl rfl (Nat.le_of_ble_eq_true rfl) dX7_its_14 rfl (Nat.le_of_ble_eq_true rfl) (jX7_in (X := X) (d + 6) s (p1.toInt64) (0 : Int64) (5 : Int64) hy3) ?_
    refine J_if_ne (pc := 17) 40 dX7_its_17 (by decide) (fun c19 => ?_) (fun c19 => ?_)
    · replace hh := (if_neg c19).symm.trans hh
      exact jgX7_its_40 d s p0 p1 hh hk
    · replace hh := (if_pos c19).symm.trans hh
      refine J_iload_n (pc := 20) dX7_its_20 rfl ?_
      refine J_i2l (pc := 21) dX7_its_21 ?_
      refine J_ldc2 (pc := 22) klX7_199 dX7_its_22 ?_
      refine J_ldc2 (pc := 25) klX7_201 dX7_its_25 ?_
      obtain ⟨y17, hy17, hh⟩ := bd_some hh
      refine J_callSi (pc := 28) (M' := MX7_in) (rest := []) (As := [.long (p1.toInt64), .long (10 : Int64), .long (13 : Int64)]) (L0 := [some (.long (p1.toInt64)), none, some (.long (10 : Int64)), none, some (.long (13 : Int64)), none]) okX7_in osX7_in mlX7_63 rfl rfl (Nat.le_of_ble_eq_true rfl) dX7_its_28 rfl (Nat.le_of_ble_eq_true rfl) (jX7_in (X := X) (d + 6) s (p1.toInt64) (10 : Int64) (13 : Int64) hy17) ?_
      refine J_if_ne (pc := 31) 40 dX7_its_31 (by decide) (fun c18 => ?_) (fun c18 => ?_)
      · replace hh := (if_neg c18).symm.trans hh
        exact jgX7_its_40 d s p0 p1 hh hk
      · replace hh := (if_pos c18).symm.trans hh
        refine J_drop 1 (L' := [some (.ref 19), none, some (.int p1)]) rfl ?_
        refine J_drop 2 (L' := [some (.ref 19), none, none]) rfl ?_
        exact jgX7_its_34 d s hh hk
theorem jX7_its {X : Scr} (d : Nat) (s : Mem) (p0 : Int32) (p1 : Int32) {r : (Int32 × Mem)} (hh : fX7_its s p0 p1 = some r) : J X MX7_its (d + 7) 0 [some (.ref 19), some (.int p0), some (.int p1)] [] s (some (.int r.1)) r.2 := jjX7_its d s p0 p1 hh ⟨rfl, rfl⟩
theorem dX7_change_0 : decode cX7_change 0 = .ok (.aload_n 0, 1) := by decide +kernel
theorem dX7_change_1 : decode cX7_change 1 = .ok (.iload_n 1, 1) := by decide +kernel
theorem dX7_change_2 : decode cX7_change 2 = .ok (.invokevirtual 196, 3) := by decide +kernel
theorem dX7_change_5 : decode cX7_change 5 = .ok (.ifCond .eq 56, 3) := by decide +kernel
theorem dX7_change_8 : decode cX7_change 8 = .ok (.iload_n 2, 1) := by decide +kernel
theorem dX7_change_9 : decode cX7_change 9 = .ok (.i2l, 1) := by decide +kernel
theorem dX7_change_10 : decode cX7_change 10 = .ok (.lconst 0, 1) := by decide +kernel
theorem dX7_change_11 : decode cX7_change 11 = .ok (.ldc2_w 143, 3) := by decide +kernel
theorem dX7_change_14 : decode cX7_change 14 = .ok (.invokestatic 63, 3) := by decide +kernel
theorem dX7_change_17 : decode cX7_change 17 = .ok (.ifCond .eq 44, 3) := by decide +kernel
theorem dX7_change_20 : decode cX7_change 20 = .ok (.iload_n 2, 1) := by decide +kernel
theorem dX7_change_21 : decode cX7_change 21 = .ok (.ifCond .ne 13, 3) := by decide +kernel
theorem dX7_change_24 : decode cX7_change 24 = .ok (.iload_n 3, 1) := by decide +kernel
theorem dX7_change_25 : decode cX7_change 25 = .ok (.invokestatic 188, 3) := by decide +kernel
theorem dX7_change_28 : decode cX7_change 28 = .ok (.ifCond .eq 33, 3) := by decide +kernel
theorem dX7_change_31 : decode cX7_change 31 = .ok (.goto 36, 3) := by decide +kernel
theorem dX7_change_34 : decode cX7_change 34 = .ok (.iload_n 2, 1) := by decide +kernel
theorem dX7_change_35 : decode cX7_change 35 = .ok (.iconst 1, 1) := by decide +kernel
theorem dX7_change_36 : decode cX7_change 36 = .ok (.if_icmp .ne 13, 3) := by decide +kernel
theorem dX7_change_39 : decode cX7_change 39 = .ok (.iload_n 3, 1) := by decide +kernel
theorem dX7_change_40 : decode cX7_change 40 = .ok (.invokestatic 151, 3) := by decide +kernel
theorem dX7_change_43 : decode cX7_change 43 = .ok (.ifCond .eq 18, 3) := by decide +kernel
theorem dX7_change_46 : decode cX7_change 46 = .ok (.goto 21, 3) := by decide +kernel
theorem dX7_change_49 : decode cX7_change 49 = .ok (.iload_n 3, 1) := by decide +kernel
theorem dX7_change_50 : decode cX7_change 50 = .ok (.i2l, 1) := by decide +kernel
theorem dX7_change_51 : decode cX7_change 51 = .ok (.lconst 0, 1) := by decide +kernel
theorem dX7_change_52 : decode cX7_change 52 = .ok (.ldc2_w 191, 3) := by decide +kernel
theorem dX7_change_55 : decode cX7_change 55 = .ok (.invokestatic 63, 3) := by decide +kernel
theorem dX7_change_58 : decode cX7_change 58 = .ok (.ifCond .ne 9, 3) := by decide +kernel
theorem dX7_change_61 : decode cX7_change 61 = .ok (.aload_n 0, 1) := by decide +kernel
theorem dX7_change_62 : decode cX7_change 62 = .ok (.iconst 0, 1) := by decide +kernel
theorem dX7_change_63 : decode cX7_change 63 = .ok (.invokevirtual 158, 3) := by decide +kernel
theorem dX7_change_66 : decode cX7_change 66 = .ok (.ireturn, 1) := by decide +kernel
theorem dX7_change_67 : decode cX7_change 67 = .ok (.iload_n 2, 1) := by decide +kernel
theorem dX7_change_68 : decode cX7_change 68 = .ok (.iconst 1, 1) := by decide +kernel
theorem dX7_change_69 : decode cX7_change 69 = .ok (.if_icmp .ne 20, 3) := by decide +kernel
theorem dX7_change_72 : decode cX7_change 72 = .ok (.iload_n 3, 1) := by decide +kernel
theorem dX7_change_73 : decode cX7_change 73 = .ok (.aload_n 0, 1) := by decide +kernel
theorem dX7_change_74 : decode cX7_change 74 = .ok (.iload_n 1, 1) := by decide +kernel
theorem dX7_change_75 : decode cX7_change 75 = .ok (.iconst (-1), 1) := by decide +kernel
theorem dX7_change_76 : decode cX7_change 76 = .ok (.invokevirtual 121, 3) := by decide +kernel
theorem dX7_change_79 : decode cX7_change 79 = .ok (.iand, 1) := by decide +kernel
theorem dX7_change_80 : decode cX7_change 80 = .ok (.ifCond .eq 9, 3) := by decide +kernel
theorem dX7_change_83 : decode cX7_change 83 = .ok (.aload_n 0, 1) := by decide +kernel
theorem dX7_change_84 : decode cX7_change 84 = .ok (.iconst 4, 1) := by decide +kernel
theorem dX7_change_85 : decode cX7_change 85 = .ok (.invokevirtual 158, 3) := by decide +kernel
theorem dX7_change_88 : decode cX7_change 88 = .ok (.ireturn, 1) := by decide +kernel
theorem dX7_change_89 : decode cX7_change 89 = .ok (.aload_n 0, 1) := by decide +kernel
theorem dX7_change_90 : decode cX7_change 90 = .ok (.invokevirtual 161, 3) := by decide +kernel
theorem dX7_change_93 : decode cX7_change 93 = .ok (.aload_n 0, 1) := by decide +kernel
theorem dX7_change_94 : decode cX7_change 94 = .ok (.getfield 9, 3) := by decide +kernel
theorem dX7_change_97 : decode cX7_change 97 = .ok (.bipush 97, 2) := by decide +kernel
theorem dX7_change_99 : decode cX7_change 99 = .ok (.bipush 7, 2) := by decide +kernel
theorem dX7_change_101 : decode cX7_change 101 = .ok (.iload_n 1, 1) := by decide +kernel
theorem dX7_change_102 : decode cX7_change 102 = .ok (.imul, 1) := by decide +kernel
theorem dX7_change_103 : decode cX7_change 103 = .ok (.iadd, 1) := by decide +kernel
theorem dX7_change_104 : decode cX7_change 104 = .ok (.iload_n 2, 1) := by decide +kernel
theorem dX7_change_105 : decode cX7_change 105 = .ok (.iadd, 1) := by decide +kernel
theorem dX7_change_106 : decode cX7_change 106 = .ok (.iaload, 1) := by decide +kernel
theorem dX7_change_107 : decode cX7_change 107 = .ok (.istore 4, 2) := by decide +kernel
theorem dX7_change_109 : decode cX7_change 109 = .ok (.aload_n 0, 1) := by decide +kernel
theorem dX7_change_110 : decode cX7_change 110 = .ok (.getfield 9, 3) := by decide +kernel
theorem dX7_change_113 : decode cX7_change 113 = .ok (.bipush 97, 2) := by decide +kernel
theorem dX7_change_115 : decode cX7_change 115 = .ok (.bipush 7, 2) := by decide +kernel
theorem dX7_change_117 : decode cX7_change 117 = .ok (.iload_n 1, 1) := by decide +kernel
theorem dX7_change_118 : decode cX7_change 118 = .ok (.imul, 1) := by decide +kernel
theorem dX7_change_119 : decode cX7_change 119 = .ok (.iadd, 1) := by decide +kernel
theorem dX7_change_120 : decode cX7_change 120 = .ok (.iload_n 2, 1) := by decide +kernel
theorem dX7_change_121 : decode cX7_change 121 = .ok (.iadd, 1) := by decide +kernel
theorem dX7_change_122 : decode cX7_change 122 = .ok (.iload_n 3, 1) := by decide +kernel
theorem dX7_change_123 : decode cX7_change 123 = .ok (.iastore, 1) := by decide +kernel
theorem dX7_change_124 : decode cX7_change 124 = .ok (.iconst 0, 1) := by decide +kernel
theorem dX7_change_125 : decode cX7_change 125 = .ok (.istore 5, 2) := by decide +kernel
theorem dX7_change_127 : decode cX7_change 127 = .ok (.iload 5, 2) := by decide +kernel
theorem dX7_change_129 : decode cX7_change 129 = .ok (.iconst 4, 1) := by decide +kernel
theorem dX7_change_130 : decode cX7_change 130 = .ok (.if_icmp .ge 30, 3) := by decide +kernel
theorem dX7_change_133 : decode cX7_change 133 = .ok (.aload_n 0, 1) := by decide +kernel
theorem dX7_change_134 : decode cX7_change 134 = .ok (.iload_n 1, 1) := by decide +kernel
theorem dX7_change_135 : decode cX7_change 135 = .ok (.invokevirtual 208, 3) := by decide +kernel
theorem dX7_change_138 : decode cX7_change 138 = .ok (.iload 5, 2) := by decide +kernel
theorem dX7_change_140 : decode cX7_change 140 = .ok (.invokestatic 211, 3) := by decide +kernel
theorem dX7_change_143 : decode cX7_change 143 = .ok (.ifCond .ne 11, 3) := by decide +kernel
theorem dX7_change_146 : decode cX7_change 146 = .ok (.aload_n 0, 1) := by decide +kernel
theorem dX7_change_147 : decode cX7_change 147 = .ok (.iload_n 1, 1) := by decide +kernel
theorem dX7_change_148 : decode cX7_change 148 = .ok (.iload 5, 2) := by decide +kernel
theorem dX7_change_150 : decode cX7_change 150 = .ok (.iconst (-1), 1) := by decide +kernel
theorem dX7_change_151 : decode cX7_change 151 = .ok (.invokevirtual 174, 3) := by decide +kernel
theorem dX7_change_154 : decode cX7_change 154 = .ok (.iinc 5 1, 3) := by decide +kernel
theorem dX7_change_157 : decode cX7_change 157 = .ok (.goto (-30), 3) := by decide +kernel
theorem dX7_change_160 : decode cX7_change 160 = .ok (.aload_n 0, 1) := by decide +kernel
theorem dX7_change_161 : decode cX7_change 161 = .ok (.invokevirtual 168, 3) := by decide +kernel
theorem dX7_change_164 : decode cX7_change 164 = .ok (.iload 4, 2) := by decide +kernel
theorem dX7_change_166 : decode cX7_change 166 = .ok (.ireturn, 1) := by decide +kernel
def gX7_change_61 (s : Mem)  : Option (Int32 × Mem) :=
  (fX7_finds s (0 : Int32)).bind (fun y2 => some ((y2.1, y2.2)))
set_option maxRecDepth 4000 in
theorem jgX7_change_61 {X : Scr} (d : Nat) (s : Mem)  {r : (Int32 × Mem)} {w : Option Value} {s' : Mem} (hh : gX7_change_61 s = some r) (hk : w = some (.int r.1) ∧ r.2 = s') : J X MX7_change (d + 6) 61 [some (.ref 19), none, none, none, none, none] [] s w s' := by
  unfold gX7_change_61 at hh
  refine J_aload_n (pc := 61) dX7_change_61 rfl ?_
  refine J_iconst (pc := 62) dX7_change_62 ci_0 ?_
  obtain ⟨y2, hy2, hh⟩ := bd_some hh
  refine J_callVi (pc := 63) (M' := MX7_finds) (a := 19) (rest := []) (As := [.int (0 : Int32)]) (L0 := [some (.ref 19), some (.int (0 : Int32))]) okX7_finds ovX7_finds mlX7_158 clX7 so19 rfl rfl (Nat.le_of_ble_eq_true rfl) dX7_change_63 rfl (Nat.le_of_ble_eq_true rfl) (jX7_finds (X := X) (d + 5) s (0 : Int32) hy2) ?_
  obtain rfl := Option.some.inj hh
  obtain ⟨rfl, rfl⟩ := hk
  exact J_ret (w := some (.int y2.1)) ⟨dX7_change_66, _, rfl, rfl⟩
def bX7_change_127 (s : Mem) (v1 : Int32) (v4 : Int32) (v5 : Int32) : Option (Mem ⊕ (Int32 × Mem)) :=
  if (4 : Int32) ≤ v5 then some (Sum.inl s) else (fX7_wishes s v1).bind (fun y10 => (fX7_has y10 v5).bind (fun y11 => if y11 = (0 : Int32) then (fX7_puts s v1 v5 (-1 : Int32)).bind (fun y13 => lt (v5 + (1 : Int32)) (fun x14 => some (Sum.inr (x14, y13)))) else lt (v5 + (1 : Int32)) (fun x12 => some (Sum.inr (x12, s)))))
set_option maxRecDepth 4000 in
theorem jbX7_change_127 {X : Scr} (d : Nat) (s : Mem) (v1 : Int32) (v4 : Int32) (v5 : Int32) {r : (Mem ⊕ (Int32 × Mem))} {w : Option Value} {s' : Mem} (hh : bX7_change_127 s v1 v4 v5 = some r) (hk : Sum.elim (fun t : Mem => J X MX7_change (d + 6) 160 [some (.ref 19), none, none, none, some (.int v4), none] [] t w s') (fun a : (Int32 × Mem) => J X MX7_change (d + 6) 127 [some (.ref 19), some (.int v1), none, none, some (.int v4), some (.int a.1)] [] a.2 w s') r) : J X MX7_change (d + 6) 127 [some (.ref 19), some (.int v1), none, none, some (.int v4), some (.int v5)] [] s w s' := by
  unfold bX7_change_127 at hh
  refine J_iload (pc := 127) dX7_change_127 rfl ?_
  refine J_iconst (pc := 129) dX7_change_129 ci_4 ?_
  refine J_icmp_ge (pc := 130) 160 dX7_change_130 (by decide) (fun c16 => ?_) (fun c16 => ?_)
  · replace hh := (if_pos c16).symm.trans hh
    refine J_drop 1 (L' := [some (.ref 19), none, none, none, some (.int v4), some (.int v5)]) rfl ?_
    refine J_drop 5 (L' := [some (.ref 19), none, none, none, some (.int v4), none]) rfl ?_
    obtain rfl := Option.some.inj hh
    exact hk
  · replace hh := (if_neg c16).symm.trans hh
    refine J_aload_n (pc := 133) dX7_change_133 rfl ?_
    refine J_iload_n (pc := 134) dX7_change_134 rfl ?_
    obtain ⟨y10, hy10, hh⟩ := bd_some hh
    refine J_callVi (pc := 135) (M' := MX7_wishes) (a := 19) (rest := []) (As := [.int v1]) (L0 := [some (.ref 19), some (.int v1)]) okX7_wishes ovX7_wishes mlX7_208 clX7 so19 rfl rfl (Nat.le_of_ble_eq_true rfl) dX7_change_135 rfl (Nat.le_of_ble_eq_true rfl) (jX7_wishes (X := X) (d + 5) s v1 hy10) ?_
    refine J_iload (pc := 138) dX7_change_138 rfl ?_
    obtain ⟨y11, hy11, hh⟩ := bd_some hh
    refine J_callSi (pc := 140) (M' := MX7_has) (rest := []) (As := [.int y10, .int v5]) (L0 := [some (.int y10), some (.int v5)]) okX7_has osX7_has mlX7_211 rfl rfl (Nat.le_of_ble_eq_true rfl) dX7_change_140 rfl (Nat.le_of_ble_eq_true rfl) (jX7_has (X := X) (d + 5) s y10 v5 hy11) ?_
    refine J_if_ne (pc := 143) 154 dX7_change_143 (by decide) (fun c15 => ?_) (fun c15 => ?_)
    · replace hh := (if_neg c15).symm.trans hh
      refine J_iincL (pc := 154) (v := v5 + (1 : Int32)) (fun x12 => [some (.ref 19), some (.int v1), none, none, some (.int v4), some (.int x12)]) dX7_change_154 rfl rfl (Nat.le_of_ble_eq_true rfl) (congrArg _ ci_1) (fun _ => rfl) hh (fun x12 hh => ?_)
      refine J_goto (pc := 157) 127 dX7_change_157 (by decide) ?_
      obtain rfl := Option.some.inj hh
      exact hk
    · replace hh := (if_pos c15).symm.trans hh
      refine J_aload_n (pc := 146) dX7_change_146 rfl ?_
      refine J_iload_n (pc := 147) dX7_change_147 rfl ?_
      refine J_iload (pc := 148) dX7_change_148 rfl ?_
      refine J_iconst (pc := 150) dX7_change_150 ci_m1 ?_
      obtain ⟨y13, hy13, hh⟩ := bd_some hh
      refine J_callV0 (pc := 151) (M' := MX7_puts) (a := 19) (rest := []) (As := [.int v1, .int v5, .int (-1 : Int32)]) (L0 := [some (.ref 19), some (.int v1), some (.int v5), some (.int (-1 : Int32))]) okX7_puts ovX7_puts mlX7_174 clX7 so19 rfl rfl (Nat.le_of_ble_eq_true rfl) dX7_change_151 rfl (Nat.le_of_ble_eq_true rfl) (jX7_puts (X := X) (d + 5) s v1 v5 (-1 : Int32) hy13) ?_
      refine J_iincL (pc := 154) (v := v5 + (1 : Int32)) (fun x14 => [some (.ref 19), some (.int v1), none, none, some (.int v4), some (.int x14)]) dX7_change_154 rfl rfl (Nat.le_of_ble_eq_true rfl) (congrArg _ ci_1) (fun _ => rfl) hh (fun x14 hh => ?_)
      refine J_goto (pc := 157) 127 dX7_change_157 (by decide) ?_
      obtain rfl := Option.some.inj hh
      exact hk
def gX7_change_89 (s : Mem) (v1 : Int32) (v2 : Int32) (v3 : Int32) : Option (Int32 × Mem) :=
  (fX7_laysAside s).bind (fun y5 => gd (((97 : Int32) + ((7 : Int32) * v1)) + v2) 139 (lt (y5.1 20 (((97 : Int32) + ((7 : Int32) * v1)) + v2).toNatClampNeg) (fun x7 => gd (((97 : Int32) + ((7 : Int32) * v1)) + v2) 139 (lt (up2 y5 20 (((97 : Int32) + ((7 : Int32) * v1)) + v2).toNatClampNeg v3) (fun s9 => (lp (fun a => bX7_change_127 a.2 v1 x7 a.1) 600 ((0 : Int32), s9)).bind (fun y17 => (fX7_changes y17).bind (fun y18 => some ((x7, y18)))))))))
set_option maxRecDepth 4000 in
theorem jgX7_change_89 {X : Scr} (d : Nat) (s : Mem) (v1 : Int32) (v2 : Int32) (v3 : Int32) {r : (Int32 × Mem)} {w : Option Value} {s' : Mem} (hh : gX7_change_89 s v1 v2 v3 = some r) (hk : w = some (.int r.1) ∧ r.2 = s') : J X MX7_change (d + 6) 89 [some (.ref 19), some (.int v1), some (.int v2), some (.int v3), none, none] [] s w s' := by
  unfold gX7_change_89 at hh
  refine J_aload_n (pc := 89) dX7_change_89 rfl ?_
  obtain ⟨y5, hy5, hh⟩ := bd_some hh
  refine J_callV0 (pc := 90) (M' := MX7_laysAside) (a := 19) (rest := []) (As := []) (L0 := [some (.ref 19), none]) okX7_laysAside ovX7_laysAside mlX7_161 clX7 so19 rfl rfl (Nat.le_of_ble_eq_true rfl) dX7_change_90 rfl (Nat.le_of_ble_eq_true rfl) (jX7_laysAside (X := X) (d + 5) s hy5) ?_
  refine J_aload_n (pc := 93) dX7_change_93 rfl ?_
  refine J_getR (pc := 94) (k := 0) flX7_9 so19 fk19_0 dX7_change_94 ?_
  refine J_bipush (pc := 97) dX7_change_97 cb_97 ?_
  refine J_bipush (pc := 99) dX7_change_99 cb_7 ?_
  refine J_iload_n (pc := 101) dX7_change_101 rfl ?_
  refine J_imul (pc := 102) dX7_change_102 ?_
  refine J_iadd (pc := 103) dX7_change_103 ?_
  refine J_iload_n (pc := 104) dX7_change_104 rfl ?_
  refine J_iadd (pc := 105) dX7_change_105 ?_
  obtain ⟨h6, hh⟩ := gd_some hh
  refine J_iald (pc := 106) dX7_change_106 sa20 h6 ?_
  refine J_istoreL (pc := 107) (fun x7 => [some (.ref 19), some (.int v1), some (.int v2), some (.int v3), some (.int x7), none]) dX7_change_107 rfl (Nat.le_of_ble_eq_true rfl) (fun _ => rfl) hh (fun x7 hh => ?_)
  refine J_aload_n (pc := 109) dX7_change_109 rfl ?_
  refine J_getR (pc := 110) (k := 0) flX7_9 so19 fk19_0 dX7_change_110 ?_
  refine J_bipush (pc := 113) dX7_change_113 cb_97 ?_
  refine J_bipush (pc := 115) dX7_change_115 cb_7 ?_
  refine J_iload_n (pc := 117) dX7_change_117 rfl ?_
  refine J_imul (pc := 118) dX7_change_118 ?_
  refine J_iadd (pc := 119) dX7_change_119 ?_
  refine J_iload_n (pc := 120) dX7_change_120 rfl ?_
  refine J_iadd (pc := 121) dX7_change_121 ?_
  refine J_iload_n (pc := 122) dX7_change_122 rfl ?_
  obtain ⟨h8, hh⟩ := gd_some hh
  refine J_iastL (pc := 123) dX7_change_123 sa20 h8 hh (fun s9 hh => ?_)
  refine J_iconst (pc := 124) dX7_change_124 ci_0 ?_
  refine J_istore (pc := 125) (L' := [some (.ref 19), some (.int v1), some (.int v2), some (.int v3), some (.int x7), some (.int (0 : Int32))]) dX7_change_125 rfl (Nat.le_of_ble_eq_true rfl) rfl ?_
  refine J_drop 2 (L' := [some (.ref 19), some (.int v1), none, some (.int v3), some (.int x7), some (.int (0 : Int32))]) rfl ?_
  refine J_drop 3 (L' := [some (.ref 19), some (.int v1), none, none, some (.int x7), some (.int (0 : Int32))]) rfl ?_
  obtain ⟨y17, hy17, hh⟩ := bd_some hh
  refine J_lp (a := ((0 : Int32), s9)) (fun a : (Int32 × Mem) => J X MX7_change (d + 6) 127 [some (.ref 19), some (.int v1), none, none, some (.int x7), some (.int a.1)] [] a.2 w s') (fun t : Mem => J X MX7_change (d + 6) 160 [some (.ref 19), none, none, none, some (.int x7), none] [] t w s') (fun a q h1 h2 => jbX7_change_127 d a.2 v1 x7 a.1 h1 h2) hy17 ?_
  refine J_aload_n (pc := 160) dX7_change_160 rfl ?_
  obtain ⟨y18, hy18, hh⟩ := bd_some hh
  refine J_callV0 (pc := 161) (M' := MX7_changes) (a := 19) (rest := []) (As := []) (L0 := [some (.ref 19), none, none]) okX7_changes ovX7_changes mlX7_168 clX7 so19 rfl rfl (Nat.le_of_ble_eq_true rfl) dX7_change_161 rfl (Nat.le_of_ble_eq_true rfl) (jX7_changes (X := X) (d + 5) y17 hy18) ?_
  refine J_iload (pc := 164) dX7_change_164 rfl ?_
  obtain rfl := Option.some.inj hh
  obtain ⟨rfl, rfl⟩ := hk
  exact J_ret (w := some (.int x7)) ⟨dX7_change_166, _, rfl, rfl⟩
def gX7_change_67 (s : Mem) (v1 : Int32) (v2 : Int32) (v3 : Int32) : Option (Int32 × Mem) :=
  if v2 = (1 : Int32) then (fX7_busyBut s v1 (-1 : Int32)).bind (fun y19 => if (v3 &&& y19) = (0 : Int32) then gX7_change_89 s v1 v2 v3 else (fX7_finds s (4 : Int32)).bind (fun y20 => some ((y20.1, y20.2)))) else gX7_change_89 s v1 v2 v3
set_option maxRecDepth 4000 in
theorem jgX7_change_67 {X : Scr} (d : Nat) (s : Mem) (v1 : Int32) (v2 : Int32) (v3 : Int32) {r : (Int32 × Mem)} {w : Option Value} {s' : Mem} (hh : gX7_change_67 s v1 v2 v3 = some r) (hk : w = some (.int r.1) ∧ r.2 = s') : J X MX7_change (d + 6) 67 [some (.ref 19), some (.int v1), some (.int v2), some (.int v3), none, none] [] s w s' := by
  unfold gX7_change_67 at hh
  refine J_iload_n (pc := 67) dX7_change_67 rfl ?_
  refine J_iconst (pc := 68) dX7_change_68 ci_1 ?_
  refine J_icmp_ne (pc := 69) 89 dX7_change_69 (by decide) (fun c22 => ?_) (fun c22 => ?_)
  · replace hh := (if_neg c22).symm.trans hh
    exact jgX7_change_89 d s v1 v2 v3 hh hk
  · replace hh := (if_pos c22).symm.trans hh
    refine J_iload_n (pc := 72) dX7_change_72 rfl ?_
    refine J_aload_n (pc := 73) dX7_change_73 rfl ?_
    refine J_iload_n (pc := 74) dX7_change_74 rfl ?_
    refine J_iconst (pc := 75) dX7_change_75 ci_m1 ?_
    obtain ⟨y19, hy19, hh⟩ := bd_some hh
    refine J_callVi (pc := 76) (M' := MX7_busyBut) (a := 19) (rest := [.int v3]) (As := [.int v1, .int (-1 : Int32)]) (L0 := [some (.ref 19), some (.int v1), some (.int (-1 : Int32)), none, none]) okX7_busyBut ovX7_busyBut mlX7_121 clX7 so19 rfl rfl (Nat.le_of_ble_eq_true rfl) dX7_change_76 rfl (Nat.le_of_ble_eq_true rfl) (jX7_busyBut (X := X) d s v1 (-1 : Int32) hy19) ?_
    refine J_iand (pc := 79) dX7_change_79 ?_
    refine J_if_eq (pc := 80) 89 dX7_change_80 (by decide) (fun c21 => ?_) (fun c21 => ?_)
    · replace hh := (if_pos c21).symm.trans hh
      exact jgX7_change_89 d s v1 v2 v3 hh hk
    · replace hh := (if_neg c21).symm.trans hh
      refine J_aload_n (pc := 83) dX7_change_83 rfl ?_
      refine J_iconst (pc := 84) dX7_change_84 ci_4 ?_
      obtain ⟨y20, hy20, hh⟩ := bd_some hh
      refine J_callVi (pc := 85) (M' := MX7_finds) (a := 19) (rest := []) (As := [.int (4 : Int32)]) (L0 := [some (.ref 19), some (.int (4 : Int32))]) okX7_finds ovX7_finds mlX7_158 clX7 so19 rfl rfl (Nat.le_of_ble_eq_true rfl) dX7_change_85 rfl (Nat.le_of_ble_eq_true rfl) (jX7_finds (X := X) (d + 5) s (4 : Int32) hy20) ?_
      obtain rfl := Option.some.inj hh
      obtain ⟨rfl, rfl⟩ := hk
      exact J_ret (w := some (.int y20.1)) ⟨dX7_change_88, _, rfl, rfl⟩
def fX7_change (s : Mem) (p0 : Int32) (p1 : Int32) (p2 : Int32) : Option (Int32 × Mem) :=
  (fX7_isPupil s p0).bind (fun y1 => if y1 = (0 : Int32) then gX7_change_61 s else (fX7_in (p1.toInt64) (0 : Int64) (2 : Int64)).bind (fun y3 => if y3 = (0 : Int32) then gX7_change_61 s else if p1 = (0 : Int32) then (fX7_isKind p2).bind (fun y27 => if y27 = (0 : Int32) then gX7_change_61 s else gX7_change_67 s p0 p1 p2) else if p1 = (1 : Int32) then (fX7_areHours p2).bind (fun y24 => if y24 = (0 : Int32) then gX7_change_61 s else gX7_change_67 s p0 p1 p2) else (fX7_in (p2.toInt64) (0 : Int64) (15 : Int64)).bind (fun y4 => if y4 = (0 : Int32) then gX7_change_61 s else gX7_change_67 s p0 p1 p2)))
set_option maxRecDepth 4000 in
theorem jjX7_change {X : Scr} (d : Nat) (s : Mem) (p0 : Int32) (p1 : Int32) (p2 : Int32) {r : (Int32 × Mem)} {w : Option Value} {s' : Mem} (hh : fX7_change s p0 p1 p2 = some r) (hk : w = some (.int r.1) ∧ r.2 = s') : J X MX7_change (d + 6) 0 [some (.ref 19), some (.int p0), some (.int p1), some (.int p2), none, none] [] s w s' := by
  unfold fX7_change at hh
  refine J_aload_n (pc := 0) dX7_change_0 rfl ?_
  refine J_iload_n (pc := 1) dX7_change_1 rfl ?_
  obtain ⟨y1, hy1, hh⟩ := bd_some hh
  refine J_callVi (pc := 2) (M' := MX7_isPupil) (a := 19) (rest := []) (As := [.int p0]) (L0 := [some (.ref 19), some (.int p0)]) okX7_isPupil ovX7_isPupil mlX7_196 clX7 so19 rfl rfl (Nat.le_of_ble_eq_true rfl) dX7_change_2 rfl (Nat.le_of_ble_eq_true rfl) (jX7_isPupil (X := X) (d + 4) s p0 hy1) ?_
  refine J_if_eq (pc := 5) 61 dX7_change_5 (by decide) (fun c31 => ?_) (fun c31 => ?_)
  · replace hh := (if_pos c31).symm.trans hh
    refine J_drop 1 (L' := [some (.ref 19), none, some (.int p1), some (.int p2), none, none]) rfl ?_
    refine J_drop 2 (L' := [some (.ref 19), none, none, some (.int p2), none, none]) rfl ?_
    refine J_drop 3 (L' := [some (.ref 19), none, none, none, none, none]) rfl ?_
    exact jgX7_change_61 d s hh hk
  · replace hh := (if_neg c31).symm.trans hh
    refine J_iload_n (pc := 8) dX7_change_8 rfl ?_
    refine J_i2l (pc := 9) dX7_change_9 ?_
    refine J_lconst (pc := 10) (v := 0) dX7_change_10 rfl ?_
    refine J_ldc2 (pc := 11) klX7_143 dX7_change_11 ?_
    obtain ⟨y3, hy3, hh⟩ := bd_some hh
    refine J_callSi (pc := 14) (M' := MX7_in) (rest := []) (As := [.long (p1.toInt64), .long (0 : Int64), .long (2 : Int64)]) (L0 := [some (.long (p1.toInt64)), none, some (.long (0 : Int64)), none, some (.long (2 : Int64)), none]) okX7_in osX7_in mlX7_63 rfl rfl (Nat.le_of_ble_eq_true rfl) dX7_change_14 rfl (Nat.le_of_ble_eq_true rfl) (jX7_in (X := X) (d + 5) s (p1.toInt64) (0 : Int64) (2 : Int64) hy3) ?_
    refine J_if_eq (pc := 17) 61 dX7_change_17 (by decide) (fun c30 => ?_) (fun c30 => ?_)
    · replace hh := (if_pos c30).symm.trans hh
      refine J_drop 1 (L' := [some (.ref 19), none, some (.int p1), some (.int p2), none, none]) rfl ?_
      refine J_drop 2 (L' := [some (.ref 19), none, none, some (.int p2), none, none]) rfl ?_
      refine J_drop 3 (L' := [some (.ref 19), none, none, none, none, none]) rfl ?_
      exact jgX7_change_61 d s hh hk
    · replace hh := (if_neg c30).symm.trans hh
      refine J_iload_n (pc := 20) dX7_change_20 rfl ?_
      refine J_if_ne (pc := 21) 34 dX7_change_21 (by decide) (fun c29 => ?_) (fun c29 => ?_)
      · replace hh := (if_neg c29).symm.trans hh
        refine J_iload_n (pc := 34) dX7_change_34 rfl ?_
        refine J_iconst (pc := 35) dX7_change_35 ci_1 ?_
        refine J_icmp_ne (pc := 36) 49 dX7_change_36 (by decide) (fun c26 => ?_) (fun c26 => ?_)
        · replace hh := (if_neg c26).symm.trans hh
          refine J_iload_n (pc := 49) dX7_change_49 rfl ?_
          refine J_i2l (pc := 50) dX7_change_50 ?_
          refine J_lconst (pc := 51) (v := 0) dX7_change_51 rfl ?_
          refine J_ldc2 (pc := 52) klX7_191 dX7_change_52 ?_
          obtain ⟨y4, hy4, hh⟩ := bd_some hh
          refine J_callSi (pc := 55) (M' := MX7_in) (rest := []) (As := [.long (p2.toInt64), .long (0 : Int64), .long (15 : Int64)]) (L0 := [some (.long (p2.toInt64)), none, some (.long (0 : Int64)), none, some (.long (15 : Int64)), none]) okX7_in osX7_in mlX7_63 rfl rfl (Nat.le_of_ble_eq_true rfl) dX7_change_55 rfl (Nat.le_of_ble_eq_true rfl) (jX7_in (X := X) (d + 5) s (p2.toInt64) (0 : Int64) (15 : Int64) hy4) ?_
          refine J_if_ne (pc := 58) 67 dX7_change_58 (by decide) (fun c23 => ?_) (fun c23 => ?_)
          · replace hh := (if_neg c23).symm.trans hh
            exact jgX7_change_67 d s p0 p1 p2 hh hk
          · replace hh := (if_pos c23).symm.trans hh
            refine J_drop 1 (L' := [some (.ref 19), none, some (.int p1), some (.int p2), none, none]) rfl ?_
            refine J_drop 2 (L' := [some (.ref 19), none, none, some (.int p2), none, none]) rfl ?_
            refine J_drop 3 (L' := [some (.ref 19), none, none, none, none, none]) rfl ?_
            exact jgX7_change_61 d s hh hk
        · replace hh := (if_pos c26).symm.trans hh
          refine J_iload_n (pc := 39) dX7_change_39 rfl ?_
          obtain ⟨y24, hy24, hh⟩ := bd_some hh
          refine J_callSi (pc := 40) (M' := MX7_areHours) (rest := []) (As := [.int p2]) (L0 := [some (.int p2)]) okX7_areHours osX7_areHours mlX7_151 rfl rfl (Nat.le_of_ble_eq_true rfl) dX7_change_40 rfl (Nat.le_of_ble_eq_true rfl) (jX7_areHours (X := X) (d + 4) s p2 hy24) ?_
          refine J_if_eq (pc := 43) 61 dX7_change_43 (by decide) (fun c25 => ?_) (fun c25 => ?_)
          · replace hh := (if_pos c25).symm.trans hh
            refine J_drop 1 (L' := [some (.ref 19), none, some (.int p1), some (.int p2), none, none]) rfl ?_
            refine J_drop 2 (L' := [some (.ref 19), none, none, some (.int p2), none, none]) rfl ?_
            refine J_drop 3 (L' := [some (.ref 19), none, none, none, none, none]) rfl ?_
            exact jgX7_change_61 d s hh hk
          · replace hh := (if_neg c25).symm.trans hh
            refine J_goto (pc := 46) 67 dX7_change_46 (by decide) ?_
            exact jgX7_change_67 d s p0 p1 p2 hh hk
      · replace hh := (if_pos c29).symm.trans hh
        refine J_iload_n (pc := 24) dX7_change_24 rfl ?_
        obtain ⟨y27, hy27, hh⟩ := bd_some hh
        refine J_callSi (pc := 25) (M' := MX7_isKind) (rest := []) (As := [.int p2]) (L0 := [some (.int p2)]) okX7_isKind osX7_isKind mlX7_188 rfl rfl (Nat.le_of_ble_eq_true rfl) dX7_change_25 rfl (Nat.le_of_ble_eq_true rfl) (jX7_isKind (X := X) (d + 4) s p2 hy27) ?_
        refine J_if_eq (pc := 28) 61 dX7_change_28 (by decide) (fun c28 => ?_) (fun c28 => ?_)
        · replace hh := (if_pos c28).symm.trans hh
          refine J_drop 1 (L' := [some (.ref 19), none, some (.int p1), some (.int p2), none, none]) rfl ?_
          refine J_drop 2 (L' := [some (.ref 19), none, none, some (.int p2), none, none]) rfl ?_
          refine J_drop 3 (L' := [some (.ref 19), none, none, none, none, none]) rfl ?_
          exact jgX7_change_61 d s hh hk
        · replace hh := (if_neg c28).symm.trans hh
          refine J_goto (pc := 31) 67 dX7_change_31 (by decide) ?_
          exact jgX7_change_67 d s p0 p1 p2 hh hk
theorem jX7_change {X : Scr} (d : Nat) (s : Mem) (p0 : Int32) (p1 : Int32) (p2 : Int32) {r : (Int32 × Mem)} (hh : fX7_change s p0 p1 p2 = some r) : J X MX7_change (d + 6) 0 [some (.ref 19), some (.int p0), some (.int p1), some (.int p2), none, none] [] s (some (.int r.1)) r.2 := jjX7_change d s p0 p1 p2 hh ⟨rfl, rfl⟩
theorem dX7_as_0 : decode cX7_as 0 = .ok (.aload_n 0, 1) := by decide +kernel
theorem dX7_as_1 : decode cX7_as 1 = .ok (.iload_n 1, 1) := by decide +kernel
theorem dX7_as_2 : decode cX7_as 2 = .ok (.invokevirtual 196, 3) := by decide +kernel
theorem dX7_as_5 : decode cX7_as 5 = .ok (.ifCond .eq 10, 3) := by decide +kernel
theorem dX7_as_8 : decode cX7_as 8 = .ok (.iload_n 2, 1) := by decide +kernel
theorem dX7_as_9 : decode cX7_as 9 = .ok (.invokestatic 188, 3) := by decide +kernel
theorem dX7_as_12 : decode cX7_as 12 = .ok (.ifCond .ne 9, 3) := by decide +kernel
theorem dX7_as_15 : decode cX7_as 15 = .ok (.aload_n 0, 1) := by decide +kernel
theorem dX7_as_16 : decode cX7_as 16 = .ok (.iconst 0, 1) := by decide +kernel
theorem dX7_as_17 : decode cX7_as 17 = .ok (.invokevirtual 158, 3) := by decide +kernel
theorem dX7_as_20 : decode cX7_as 20 = .ok (.ireturn, 1) := by decide +kernel
theorem dX7_as_21 : decode cX7_as 21 = .ok (.aload_n 0, 1) := by decide +kernel
theorem dX7_as_22 : decode cX7_as 22 = .ok (.iload_n 1, 1) := by decide +kernel
theorem dX7_as_23 : decode cX7_as 23 = .ok (.invokevirtual 118, 3) := by decide +kernel
theorem dX7_as_26 : decode cX7_as 26 = .ok (.istore_n 3, 1) := by decide +kernel
theorem dX7_as_27 : decode cX7_as 27 = .ok (.iload_n 2, 1) := by decide +kernel
theorem dX7_as_28 : decode cX7_as 28 = .ok (.ifCond .eq 34, 3) := by decide +kernel
theorem dX7_as_31 : decode cX7_as 31 = .ok (.iload_n 2, 1) := by decide +kernel
theorem dX7_as_32 : decode cX7_as 32 = .ok (.iload_n 3, 1) := by decide +kernel
theorem dX7_as_33 : decode cX7_as 33 = .ok (.if_icmp .eq 29, 3) := by decide +kernel
theorem dX7_as_36 : decode cX7_as 36 = .ok (.iload_n 3, 1) := by decide +kernel
theorem dX7_as_37 : decode cX7_as 37 = .ok (.iconst 3, 1) := by decide +kernel
theorem dX7_as_38 : decode cX7_as 38 = .ok (.if_icmp .ne 8, 3) := by decide +kernel
theorem dX7_as_41 : decode cX7_as 41 = .ok (.iload_n 2, 1) := by decide +kernel
theorem dX7_as_42 : decode cX7_as 42 = .ok (.iconst 1, 1) := by decide +kernel
theorem dX7_as_43 : decode cX7_as 43 = .ok (.if_icmp .eq 19, 3) := by decide +kernel
theorem dX7_as_46 : decode cX7_as 46 = .ok (.iload_n 3, 1) := by decide +kernel
theorem dX7_as_47 : decode cX7_as 47 = .ok (.iconst 4, 1) := by decide +kernel
theorem dX7_as_48 : decode cX7_as 48 = .ok (.if_icmp .ne 8, 3) := by decide +kernel
theorem dX7_as_51 : decode cX7_as 51 = .ok (.iload_n 2, 1) := by decide +kernel
theorem dX7_as_52 : decode cX7_as 52 = .ok (.iconst 2, 1) := by decide +kernel
theorem dX7_as_53 : decode cX7_as 53 = .ok (.if_icmp .eq 9, 3) := by decide +kernel
theorem dX7_as_56 : decode cX7_as 56 = .ok (.aload_n 0, 1) := by decide +kernel
theorem dX7_as_57 : decode cX7_as 57 = .ok (.iconst 2, 1) := by decide +kernel
theorem dX7_as_58 : decode cX7_as 58 = .ok (.invokevirtual 158, 3) := by decide +kernel
theorem dX7_as_61 : decode cX7_as 61 = .ok (.ireturn, 1) := by decide +kernel
theorem dX7_as_62 : decode cX7_as 62 = .ok (.iload_n 2, 1) := by decide +kernel
theorem dX7_as_63 : decode cX7_as 63 = .ok (.aload_n 0, 1) := by decide +kernel
theorem dX7_as_64 : decode cX7_as 64 = .ok (.iload_n 1, 1) := by decide +kernel
theorem dX7_as_65 : decode cX7_as 65 = .ok (.iconst (-1), 1) := by decide +kernel
theorem dX7_as_66 : decode cX7_as 66 = .ok (.invokevirtual 121, 3) := by decide +kernel
theorem dX7_as_69 : decode cX7_as 69 = .ok (.invokestatic 124, 3) := by decide +kernel
theorem dX7_as_72 : decode cX7_as 72 = .ok (.ireturn, 1) := by decide +kernel
def gX7_as_15 (s : Mem)  : Option (Int32 × Mem) :=
  (fX7_finds s (0 : Int32)).bind (fun y2 => some ((y2.1, y2.2)))
set_option maxRecDepth 4000 in
theorem jgX7_as_15 {X : Scr} (d : Nat) (s : Mem)  {r : (Int32 × Mem)} {w : Option Value} {s' : Mem} (hh : gX7_as_15 s = some r) (hk : w = some (.int r.1) ∧ r.2 = s') : J X MX7_as (d + 6) 15 [some (.ref 19), none, none, none] [] s w s' := by
  unfold gX7_as_15 at hh
  refine J_aload_n (pc := 15) dX7_as_15 rfl ?_
  refine J_iconst (pc := 16) dX7_as_16 ci_0 ?_
  obtain ⟨y2, hy2, hh⟩ := bd_some hh
  refine J_callVi (pc := 17) (M' := MX7_finds) (a := 19) (rest := []) (As := [.int (0 : Int32)]) (L0 := [some (.ref 19), some (.int (0 : Int32))]) okX7_finds ovX7_finds mlX7_158 clX7 so19 rfl rfl (Nat.le_of_ble_eq_true rfl) dX7_as_17 rfl (Nat.le_of_ble_eq_true rfl) (jX7_finds (X := X) (d + 5) s (0 : Int32) hy2) ?_
  obtain rfl := Option.some.inj hh
  obtain ⟨rfl, rfl⟩ := hk
  exact J_ret (w := some (.int y2.1)) ⟨dX7_as_20, _, rfl, rfl⟩
def gX7_as_62 (s : Mem) (v1 : Int32) (v2 : Int32) : Option (Int32 × Mem) :=
  (fX7_busyBut s v1 (-1 : Int32)).bind (fun y5 => (fX7_costOf v2 y5).bind (fun y6 => some ((y6, s))))
set_option maxRecDepth 4000 in
theorem jgX7_as_62 {X : Scr} (d : Nat) (s : Mem) (v1 : Int32) (v2 : Int32) {r : (Int32 × Mem)} {w : Option Value} {s' : Mem} (hh : gX7_as_62 s v1 v2 = some r) (hk : w = some (.int r.1) ∧ r.2 = s') : J X MX7_as (d + 6) 62 [some (.ref 19), some (.int v1), some (.int v2), none] [] s w s' := by
  unfold gX7_as_62 at hh
  refine J_iload_n (pc := 62) dX7_as_62 rfl ?_
  refine J_aload_n (pc := 63) dX7_as_63 rfl ?_
  refine J_iload_n (pc := 64) dX7_as_64 rfl ?_
  refine J_iconst (pc := 65) dX7_as_65 ci_m1 ?_
  obtain ⟨y5, hy5, hh⟩ := bd_some hh
  refine J_callVi (pc := 66) (M' := MX7_busyBut) (a := 19) (rest := [.int v2]) (As := [.int v1, .int (-1 : Int32)]) (L0 := [some (.ref 19), some (.int v1), some (.int (-1 : Int32)), none, none]) okX7_busyBut ovX7_busyBut mlX7_121 clX7 so19 rfl rfl (Nat.le_of_ble_eq_true rfl) dX7_as_66 rfl (Nat.le_of_ble_eq_true rfl) (jX7_busyBut (X := X) d s v1 (-1 : Int32) hy5) ?_
  obtain ⟨y6, hy6, hh⟩ := bd_some hh
  refine J_callSi (pc := 69) (M' := MX7_costOf) (rest := []) (As := [.int v2, .int y5]) (L0 := [some (.int v2), some (.int y5), none, none, none, none]) okX7_costOf osX7_costOf mlX7_124 rfl rfl (Nat.le_of_ble_eq_true rfl) dX7_as_69 rfl (Nat.le_of_ble_eq_true rfl) (jX7_costOf (X := X) (d + 4) s v2 y5 hy6) ?_
  obtain rfl := Option.some.inj hh
  obtain ⟨rfl, rfl⟩ := hk
  exact J_ret (w := some (.int y6)) ⟨dX7_as_72, _, rfl, rfl⟩
def gX7_as_56 (s : Mem)  : Option (Int32 × Mem) :=
  (fX7_finds s (2 : Int32)).bind (fun y7 => some ((y7.1, y7.2)))
set_option maxRecDepth 4000 in
theorem jgX7_as_56 {X : Scr} (d : Nat) (s : Mem)  {r : (Int32 × Mem)} {w : Option Value} {s' : Mem} (hh : gX7_as_56 s = some r) (hk : w = some (.int r.1) ∧ r.2 = s') : J X MX7_as (d + 6) 56 [some (.ref 19), none, none, none] [] s w s' := by
  unfold gX7_as_56 at hh
  refine J_aload_n (pc := 56) dX7_as_56 rfl ?_
  refine J_iconst (pc := 57) dX7_as_57 ci_2 ?_
  obtain ⟨y7, hy7, hh⟩ := bd_some hh
  refine J_callVi (pc := 58) (M' := MX7_finds) (a := 19) (rest := []) (As := [.int (2 : Int32)]) (L0 := [some (.ref 19), some (.int (2 : Int32))]) okX7_finds ovX7_finds mlX7_158 clX7 so19 rfl rfl (Nat.le_of_ble_eq_true rfl) dX7_as_58 rfl (Nat.le_of_ble_eq_true rfl) (jX7_finds (X := X) (d + 5) s (2 : Int32) hy7) ?_
  obtain rfl := Option.some.inj hh
  obtain ⟨rfl, rfl⟩ := hk
  exact J_ret (w := some (.int y7.1)) ⟨dX7_as_61, _, rfl, rfl⟩
def gX7_as_46 (s : Mem) (v1 : Int32) (v2 : Int32) (v3 : Int32) : Option (Int32 × Mem) :=
  if v3 = (4 : Int32) then if v2 = (2 : Int32) then gX7_as_62 s v1 v2 else gX7_as_56 s else gX7_as_56 s
set_option maxRecDepth 4000 in
theorem jgX7_as_46 {X : Scr} (d : Nat) (s : Mem) (v1 : Int32) (v2 : Int32) (v3 : Int32) {r : (Int32 × Mem)} {w : Option Value} {s' : Mem} (hh : gX7_as_46 s v1 v2 v3 = some r) (hk : w = some (.int r.1) ∧ r.2 = s') : J X MX7_as (d + 6) 46 [some (.ref 19), some (.int v1), some (.int v2), some (.int v3)] [] s w s' := by
  unfold gX7_as_46 at hh
  refine J_iload_n (pc := 46) dX7_as_46 rfl ?_
  refine J_iconst (pc := 47) dX7_as_47 ci_4 ?_
  refine J_icmp_ne (pc := 48) 56 dX7_as_48 (by decide) (fun c9 => ?_) (fun c9 => ?_)
  · replace hh := (if_neg c9).symm.trans hh
    refine J_drop 1 (L' := [some (.ref 19), none, some (.int v2), some (.int v3)]) rfl ?_
    refine J_drop 2 (L' := [some (.ref 19), none, none, some (.int v3)]) rfl ?_
    refine J_drop 3 (L' := [some (.ref 19), none, none, none]) rfl ?_
    exact jgX7_as_56 d s hh hk
  · replace hh := (if_pos c9).symm.trans hh
    refine J_iload_n (pc := 51) dX7_as_51 rfl ?_
    refine J_iconst (pc := 52) dX7_as_52 ci_2 ?_
    refine J_icmp_eq (pc := 53) 62 dX7_as_53 (by decide) (fun c8 => ?_) (fun c8 => ?_)
    · replace hh := (if_pos c8).symm.trans hh
      refine J_drop 3 (L' := [some (.ref 19), some (.int v1), some (.int v2), none]) rfl ?_
      exact jgX7_as_62 d s v1 v2 hh hk
    · replace hh := (if_neg c8).symm.trans hh
      refine J_drop 1 (L' := [some (.ref 19), none, some (.int v2), some (.int v3)]) rfl ?_
      refine J_drop 2 (L' := [some (.ref 19), none, none, some (.int v3)]) rfl ?_
      refine J_drop 3 (L' := [some (.ref 19), none, none, none]) rfl ?_
      exact jgX7_as_56 d s hh hk
def fX7_as (s : Mem) (p0 : Int32) (p1 : Int32) : Option (Int32 × Mem) :=
  (fX7_isPupil s p0).bind (fun y1 => if y1 = (0 : Int32) then gX7_as_15 s else (fX7_isKind p1).bind (fun y3 => if y3 = (0 : Int32) then gX7_as_15 s else (fX7_kindOf s p0).bind (fun y4 => if p1 = (0 : Int32) then gX7_as_62 s p0 p1 else if p1 = y4 then gX7_as_62 s p0 p1 else if y4 = (3 : Int32) then if p1 = (1 : Int32) then gX7_as_62 s p0 p1 else gX7_as_46 s p0 p1 y4 else gX7_as_46 s p0 p1 y4)))
set_option maxRecDepth 4000 in
theorem jjX7_as {X : Scr} (d : Nat) (s : Mem) (p0 : Int32) (p1 : Int32) {r : (Int32 × Mem)} {w : Option Value} {s' : Mem} (hh : fX7_as s p0 p1 = some r) (hk : w = some (.int r.1) ∧ r.2 = s') : J X MX7_as (d + 6) 0 [some (.ref 19), some (.int p0), some (.int p1), none] [] s w s' := by
  unfold fX7_as at hh
  refine J_aload_n (pc := 0) dX7_as_0 rfl ?_
  refine J_iload_n (pc := 1) dX7_as_1 rfl ?_
  obtain ⟨y1, hy1, hh⟩ := bd_some hh
  refine J_callVi (pc := 2) (M' := MX7_isPupil) (a := 19) (rest := []) (As := [.int p0]) (L0 := [some (.ref 19), some (.int p0)]) okX7_isPupil ovX7_isPupil mlX7_196 clX7 so19 rfl rfl (Nat.le_of_ble_eq_true rfl) dX7_as_2 rfl (Nat.le_of_ble_eq_true rfl) (jX7_isPupil (X := X) (d + 4) s p0 hy1) ?_
  refine J_if_eq (pc := 5) 15 dX7_as_5 (by decide) (fun c15 => ?_) (fun c15 => ?_)
  · replace hh := (if_pos c15).symm.trans hh
    refine J_drop 1 (L' := [some (.ref 19), none, some (.int p1), none]) rfl ?_
    refine J_drop 2 (L' := [some (.ref 19), none, none, none]) rfl ?_
    exact jgX7_as_15 d s hh hk
  · replace hh := (if_neg c15).symm.trans hh
    refine J_iload_n (pc := 8) dX7_as_8 rfl ?_
    obtain ⟨y3, hy3, hh⟩ := bd_some hh
    refine J_callSi (pc := 9) (M' := MX7_isKind) (rest := []) (As := [.int p1]) (L0 := [some (.int p1)]) okX7_isKind osX7_isKind mlX7_188 rfl rfl (Nat.le_of_ble_eq_true rfl) dX7_as_9 rfl (Nat.le_of_ble_eq_true rfl) (jX7_isKind (X := X) (d + 4) s p1 hy3) ?_
    refine J_if_ne (pc := 12) 21 dX7_as_12 (by decide) (fun c14 => ?_) (fun c14 => ?_)
    · replace hh := (if_neg c14).symm.trans hh
      refine J_aload_n (pc := 21) dX7_as_21 rfl ?_
      refine J_iload_n (pc := 22) dX7_as_22 rfl ?_
      obtain ⟨y4, hy4, hh⟩ := bd_some hh
      refine J_callVi (pc := 23) (M' := MX7_kindOf) (a := 19) (rest := []) (As := [.int p0]) (L0 := [some (.ref 19), some (.int p0)]) okX7_kindOf ovX7_kindOf mlX7_118 clX7 so19 rfl rfl (Nat.le_of_ble_eq_true rfl) dX7_as_23 rfl (Nat.le_of_ble_eq_true rfl) (jX7_kindOf (X := X) (d + 5) s p0 hy4) ?_
      refine J_istore_n (pc := 26) (L' := [some (.ref 19), some (.int p0), some (.int p1), some (.int y4)]) dX7_as_26 rfl (Nat.le_of_ble_eq_true rfl) rfl ?_
      refine J_iload_n (pc := 27) dX7_as_27 rfl ?_
      refine J_if_eq (pc := 28) 62 dX7_as_28 (by decide) (fun c13 => ?_) (fun c13 => ?_)
      · replace hh := (if_pos c13).symm.trans hh
        refine J_drop 3 (L' := [some (.ref 19), some (.int p0), some (.int p1), none]) rfl ?_
        exact jgX7_as_62 d s p0 p1 hh hk
      · replace hh := (if_neg c13).symm.trans hh
        refine J_iload_n (pc := 31) dX7_as_31 rfl ?_
        refine J_iload_n (pc := 32) dX7_as_32 rfl ?_
        refine J_icmp_eq (pc := 33) 62 dX7_as_33 (by decide) (fun c12 => ?_) (fun c12 => ?_)
        · replace hh := (if_pos c12).symm.trans hh
          refine J_drop 3 (L' := [some (.ref 19), some (.int p0), some (.int p1), none]) rfl ?_
          exact jgX7_as_62 d s p0 p1 hh hk
        · replace hh := (if_neg c12).symm.trans hh
          refine J_iload_n (pc := 36) dX7_as_36 rfl ?_
          refine J_iconst (pc := 37) dX7_as_37 ci_3 ?_
          refine J_icmp_ne (pc := 38) 46 dX7_as_38 (by decide) (fun c11 => ?_) (fun c11 => ?_)
          · replace hh := (if_neg c11).symm.trans hh
            exact jgX7_as_46 d s p0 p1 y4 hh hk
          · replace hh := (if_pos c11).symm.trans hh
            refine J_iload_n (pc := 41) dX7_as_41 rfl ?_
            refine J_iconst (pc := 42) dX7_as_42 ci_1 ?_
            refine J_icmp_eq (pc := 43) 62 dX7_as_43 (by decide) (fun c10 => ?_) (fun c10 => ?_)
            · replace hh := (if_pos c10).symm.trans hh
              refine J_drop 3 (L' := [some (.ref 19), some (.int p0), some (.int p1), none]) rfl ?_
              exact jgX7_as_62 d s p0 p1 hh hk
            · replace hh := (if_neg c10).symm.trans hh
              exact jgX7_as_46 d s p0 p1 y4 hh hk
    · replace hh := (if_pos c14).symm.trans hh
      refine J_drop 1 (L' := [some (.ref 19), none, some (.int p1), none]) rfl ?_
      refine J_drop 2 (L' := [some (.ref 19), none, none, none]) rfl ?_
      exact jgX7_as_15 d s hh hk
theorem jX7_as {X : Scr} (d : Nat) (s : Mem) (p0 : Int32) (p1 : Int32) {r : (Int32 × Mem)} (hh : fX7_as s p0 p1 = some r) : J X MX7_as (d + 6) 0 [some (.ref 19), some (.int p0), some (.int p1), none] [] s (some (.int r.1)) r.2 := jjX7_as d s p0 p1 hh ⟨rfl, rfl⟩
theorem dX7_whyNot_0 : decode cX7_whyNot 0 = .ok (.aload_n 0, 1) := by decide +kernel
theorem dX7_whyNot_1 : decode cX7_whyNot 1 = .ok (.iload_n 1, 1) := by decide +kernel
theorem dX7_whyNot_2 : decode cX7_whyNot 2 = .ok (.invokevirtual 196, 3) := by decide +kernel
theorem dX7_whyNot_5 : decode cX7_whyNot 5 = .ok (.ifCond .eq 10, 3) := by decide +kernel
theorem dX7_whyNot_8 : decode cX7_whyNot 8 = .ok (.iload_n 2, 1) := by decide +kernel
theorem dX7_whyNot_9 : decode cX7_whyNot 9 = .ok (.invokestatic 139, 3) := by decide +kernel
theorem dX7_whyNot_12 : decode cX7_whyNot 12 = .ok (.ifCond .ne 7, 3) := by decide +kernel
theorem dX7_whyNot_15 : decode cX7_whyNot 15 = .ok (.iconst 0, 1) := by decide +kernel
theorem dX7_whyNot_16 : decode cX7_whyNot 16 = .ok (.goto 20, 3) := by decide +kernel
theorem dX7_whyNot_19 : decode cX7_whyNot 19 = .ok (.aload_n 0, 1) := by decide +kernel
theorem dX7_whyNot_20 : decode cX7_whyNot 20 = .ok (.iload_n 1, 1) := by decide +kernel
theorem dX7_whyNot_21 : decode cX7_whyNot 21 = .ok (.invokevirtual 208, 3) := by decide +kernel
theorem dX7_whyNot_24 : decode cX7_whyNot 24 = .ok (.iload_n 2, 1) := by decide +kernel
theorem dX7_whyNot_25 : decode cX7_whyNot 25 = .ok (.invokestatic 211, 3) := by decide +kernel
theorem dX7_whyNot_28 : decode cX7_whyNot 28 = .ok (.ifCond .eq 7, 3) := by decide +kernel
theorem dX7_whyNot_31 : decode cX7_whyNot 31 = .ok (.iconst (-1), 1) := by decide +kernel
theorem dX7_whyNot_32 : decode cX7_whyNot 32 = .ok (.goto 4, 3) := by decide +kernel
theorem dX7_whyNot_35 : decode cX7_whyNot 35 = .ok (.iconst 3, 1) := by decide +kernel
theorem dX7_whyNot_36 : decode cX7_whyNot 36 = .ok (.ireturn, 1) := by decide +kernel
def fX7_whyNot (s : Mem) (p0 : Int32) (p1 : Int32) : Option Int32 :=
  (fX7_isPupil s p0).bind (fun y1 => if y1 = (0 : Int32) then some (0 : Int32) else (fX7_isCourse p1).bind (fun y2 => if y2 = (0 : Int32) then some (0 : Int32) else (fX7_wishes s p0).bind (fun y3 => (fX7_has y3 p1).bind (fun y4 => if y4 = (0 : Int32) then some (3 : Int32) else some (-1 : Int32)))))
set_option maxRecDepth 4000 in
theorem jjX7_whyNot {X : Scr} (d : Nat) (s : Mem) (p0 : Int32) (p1 : Int32) {r : Int32} {w : Option Value} {s' : Mem} (hh : fX7_whyNot s p0 p1 = some r) (hk : w = some (.int r) ∧ s = s') : J X MX7_whyNot (d + 2) 0 [some (.ref 19), some (.int p0), some (.int p1)] [] s w s' := by
  unfold fX7_whyNot at hh
  refine J_aload_n (pc := 0) dX7_whyNot_0 rfl ?_
  refine J_iload_n (pc := 1) dX7_whyNot_1 rfl ?_
  obtain ⟨y1, hy1, hh⟩ := bd_some hh
  refine J_callVi (pc := 2) (M' := MX7_isPupil) (a := 19) (rest := []) (As := [.int p0]) (L0 := [some (.ref 19), some (.int p0)]) okX7_isPupil ovX7_isPupil mlX7_196 clX7 so19 rfl rfl (Nat.le_of_ble_eq_true rfl) dX7_whyNot_2 rfl (Nat.le_of_ble_eq_true rfl) (jX7_isPupil (X := X) d s p0 hy1) ?_
  refine J_if_eq (pc := 5) 15 dX7_whyNot_5 (by decide) (fun c7 => ?_) (fun c7 => ?_)
  · replace hh := (if_pos c7).symm.trans hh
    refine J_iconst (pc := 15) dX7_whyNot_15 ci_0 ?_
    refine J_goto (pc := 16) 36 dX7_whyNot_16 (by decide) ?_
    obtain rfl := Option.some.inj hh
    obtain ⟨rfl, rfl⟩ := hk
    exact J_ret (w := some (.int (0 : Int32))) ⟨dX7_whyNot_36, _, rfl, rfl⟩
  · replace hh := (if_neg c7).symm.trans hh
    refine J_iload_n (pc := 8) dX7_whyNot_8 rfl ?_
    obtain ⟨y2, hy2, hh⟩ := bd_some hh
    refine J_callSi (pc := 9) (M' := MX7_isCourse) (rest := []) (As := [.int p1]) (L0 := [some (.int p1)]) okX7_isCourse osX7_isCourse mlX7_139 rfl rfl (Nat.le_of_ble_eq_true rfl) dX7_whyNot_9 rfl (Nat.le_of_ble_eq_true rfl) (jX7_isCourse (X := X) d s p1 hy2) ?_
    refine J_if_ne (pc := 12) 19 dX7_whyNot_12 (by decide) (fun c6 => ?_) (fun c6 => ?_)
    · replace hh := (if_neg c6).symm.trans hh
      refine J_aload_n (pc := 19) dX7_whyNot_19 rfl ?_
      refine J_iload_n (pc := 20) dX7_whyNot_20 rfl ?_
      obtain ⟨y3, hy3, hh⟩ := bd_some hh
      refine J_callVi (pc := 21) (M' := MX7_wishes) (a := 19) (rest := []) (As := [.int p0]) (L0 := [some (.ref 19), some (.int p0)]) okX7_wishes ovX7_wishes mlX7_208 clX7 so19 rfl rfl (Nat.le_of_ble_eq_true rfl) dX7_whyNot_21 rfl (Nat.le_of_ble_eq_true rfl) (jX7_wishes (X := X) (d + 1) s p0 hy3) ?_
      refine J_iload_n (pc := 24) dX7_whyNot_24 rfl ?_
      obtain ⟨y4, hy4, hh⟩ := bd_some hh
      refine J_callSi (pc := 25) (M' := MX7_has) (rest := []) (As := [.int y3, .int p1]) (L0 := [some (.int y3), some (.int p1)]) okX7_has osX7_has mlX7_211 rfl rfl (Nat.le_of_ble_eq_true rfl) dX7_whyNot_25 rfl (Nat.le_of_ble_eq_true rfl) (jX7_has (X := X) (d + 1) s y3 p1 hy4) ?_
      refine J_if_eq (pc := 28) 35 dX7_whyNot_28 (by decide) (fun c5 => ?_) (fun c5 => ?_)
      · replace hh := (if_pos c5).symm.trans hh
        refine J_iconst (pc := 35) dX7_whyNot_35 ci_3 ?_
        obtain rfl := Option.some.inj hh
        obtain ⟨rfl, rfl⟩ := hk
        exact J_ret (w := some (.int (3 : Int32))) ⟨dX7_whyNot_36, _, rfl, rfl⟩
      · replace hh := (if_neg c5).symm.trans hh
        refine J_iconst (pc := 31) dX7_whyNot_31 ci_m1 ?_
        refine J_goto (pc := 32) 36 dX7_whyNot_32 (by decide) ?_
        obtain rfl := Option.some.inj hh
        obtain ⟨rfl, rfl⟩ := hk
        exact J_ret (w := some (.int (-1 : Int32))) ⟨dX7_whyNot_36, _, rfl, rfl⟩
    · replace hh := (if_pos c6).symm.trans hh
      refine J_iconst (pc := 15) dX7_whyNot_15 ci_0 ?_
      refine J_goto (pc := 16) 36 dX7_whyNot_16 (by decide) ?_
      obtain rfl := Option.some.inj hh
      obtain ⟨rfl, rfl⟩ := hk
      exact J_ret (w := some (.int (0 : Int32))) ⟨dX7_whyNot_36, _, rfl, rfl⟩
theorem jX7_whyNot {X : Scr} (d : Nat) (s : Mem) (p0 : Int32) (p1 : Int32) {r : Int32} (hh : fX7_whyNot s p0 p1 = some r) : J X MX7_whyNot (d + 2) 0 [some (.ref 19), some (.int p0), some (.int p1)] [] s (some (.int r)) s := jjX7_whyNot d s p0 p1 hh ⟨rfl, rfl⟩
theorem dX7_fitting_0 : decode cX7_fitting 0 = .ok (.iconst 0, 1) := by decide +kernel
theorem dX7_fitting_1 : decode cX7_fitting 1 = .ok (.istore_n 3, 1) := by decide +kernel
theorem dX7_fitting_2 : decode cX7_fitting 2 = .ok (.iconst 0, 1) := by decide +kernel
theorem dX7_fitting_3 : decode cX7_fitting 3 = .ok (.istore 4, 2) := by decide +kernel
theorem dX7_fitting_5 : decode cX7_fitting 5 = .ok (.iload 4, 2) := by decide +kernel
theorem dX7_fitting_7 : decode cX7_fitting 7 = .ok (.bipush 8, 2) := by decide +kernel
theorem dX7_fitting_9 : decode cX7_fitting 9 = .ok (.if_icmp .ge 31, 3) := by decide +kernel
theorem dX7_fitting_12 : decode cX7_fitting 12 = .ok (.iload_n 3, 1) := by decide +kernel
theorem dX7_fitting_13 : decode cX7_fitting 13 = .ok (.aload_n 0, 1) := by decide +kernel
theorem dX7_fitting_14 : decode cX7_fitting 14 = .ok (.iload_n 1, 1) := by decide +kernel
theorem dX7_fitting_15 : decode cX7_fitting 15 = .ok (.iload_n 2, 1) := by decide +kernel
theorem dX7_fitting_16 : decode cX7_fitting 16 = .ok (.iload 4, 2) := by decide +kernel
theorem dX7_fitting_18 : decode cX7_fitting 18 = .ok (.invokevirtual 214, 3) := by decide +kernel
theorem dX7_fitting_21 : decode cX7_fitting 21 = .ok (.ifCond .eq 10, 3) := by decide +kernel
theorem dX7_fitting_24 : decode cX7_fitting 24 = .ok (.iconst 1, 1) := by decide +kernel
theorem dX7_fitting_25 : decode cX7_fitting 25 = .ok (.iload 4, 2) := by decide +kernel
theorem dX7_fitting_27 : decode cX7_fitting 27 = .ok (.ishl, 1) := by decide +kernel
theorem dX7_fitting_28 : decode cX7_fitting 28 = .ok (.goto 4, 3) := by decide +kernel
theorem dX7_fitting_31 : decode cX7_fitting 31 = .ok (.iconst 0, 1) := by decide +kernel
theorem dX7_fitting_32 : decode cX7_fitting 32 = .ok (.ior, 1) := by decide +kernel
theorem dX7_fitting_33 : decode cX7_fitting 33 = .ok (.istore_n 3, 1) := by decide +kernel
theorem dX7_fitting_34 : decode cX7_fitting 34 = .ok (.iinc 4 1, 3) := by decide +kernel
theorem dX7_fitting_37 : decode cX7_fitting 37 = .ok (.goto (-32), 3) := by decide +kernel
theorem dX7_fitting_40 : decode cX7_fitting 40 = .ok (.iload_n 3, 1) := by decide +kernel
theorem dX7_fitting_41 : decode cX7_fitting 41 = .ok (.ireturn, 1) := by decide +kernel
def bX7_fitting_5 (s : Mem) (v1 : Int32) (v2 : Int32) (v3 : Int32) (v4 : Int32) : Option (Int32 ⊕ (Int32 × Int32)) :=
  if (8 : Int32) ≤ v4 then some (Sum.inl v3) else (fX7_isFit s v1 v2 v4).bind (fun y1 => if y1 = (0 : Int32) then lt (v3 ||| (0 : Int32)) (fun x2 => lt (v4 + (1 : Int32)) (fun x3 => some (Sum.inr (x2, x3)))) else lt (v3 ||| ((1 : Int32) <<< (v4 &&& 31))) (fun x4 => lt (v4 + (1 : Int32)) (fun x5 => some (Sum.inr (x4, x5)))))
set_option maxRecDepth 4000 in
theorem jbX7_fitting_5 {X : Scr} (d : Nat) (s : Mem) (v1 : Int32) (v2 : Int32) (v3 : Int32) (v4 : Int32) {r : (Int32 ⊕ (Int32 × Int32))} {w : Option Value} {s' : Mem} (hh : bX7_fitting_5 s v1 v2 v3 v4 = some r) (hk : Sum.elim (fun t : Int32 => J X MX7_fitting (d + 8) 40 [none, none, none, some (.int t), none] [] s w s') (fun a : (Int32 × Int32) => J X MX7_fitting (d + 8) 5 [some (.ref 19), some (.int v1), some (.int v2), some (.int a.1), some (.int a.2)] [] s w s') r) : J X MX7_fitting (d + 8) 5 [some (.ref 19), some (.int v1), some (.int v2), some (.int v3), some (.int v4)] [] s w s' := by
  unfold bX7_fitting_5 at hh
  refine J_iload (pc := 5) dX7_fitting_5 rfl ?_
  refine J_bipush (pc := 7) dX7_fitting_7 cb_8 ?_
  refine J_icmp_ge (pc := 9) 40 dX7_fitting_9 (by decide) (fun c7 => ?_) (fun c7 => ?_)
  · replace hh := (if_pos c7).symm.trans hh
    refine J_drop 0 (L' := [none, some (.int v1), some (.int v2), some (.int v3), some (.int v4)]) rfl ?_
    refine J_drop 1 (L' := [none, none, some (.int v2), some (.int v3), some (.int v4)]) rfl ?_
    refine J_drop 2 (L' := [none, none, none, some (.int v3), some (.int v4)]) rfl ?_
    refine J_drop 4 (L' := [none, none, none, some (.int v3), none]) rfl ?_
    obtain rfl := Option.some.inj hh
    exact hk
  · replace hh := (if_neg c7).symm.trans hh
    refine J_iload_n (pc := 12) dX7_fitting_12 rfl ?_
    refine J_aload_n (pc := 13) dX7_fitting_13 rfl ?_
    refine J_iload_n (pc := 14) dX7_fitting_14 rfl ?_
    refine J_iload_n (pc := 15) dX7_fitting_15 rfl ?_
    refine J_iload (pc := 16) dX7_fitting_16 rfl ?_
    obtain ⟨y1, hy1, hh⟩ := bd_some hh
    refine J_callVi (pc := 18) (M' := MX7_isFit) (a := 19) (rest := [.int v3]) (As := [.int v1, .int v2, .int v4]) (L0 := [some (.ref 19), some (.int v1), some (.int v2), some (.int v4)]) okX7_isFit ovX7_isFit mlX7_214 clX7 so19 rfl rfl (Nat.le_of_ble_eq_true rfl) dX7_fitting_18 rfl (Nat.le_of_ble_eq_true rfl) (jX7_isFit (X := X) d s v1 v2 v4 hy1) ?_
    refine J_if_eq (pc := 21) 31 dX7_fitting_21 (by decide) (fun c6 => ?_) (fun c6 => ?_)
    · replace hh := (if_pos c6).symm.trans hh
      refine J_iconst (pc := 31) dX7_fitting_31 ci_0 ?_
      refine J_ior (pc := 32) dX7_fitting_32 ?_
      refine J_istoreL_n (pc := 33) (fun x2 => [some (.ref 19), some (.int v1), some (.int v2), some (.int x2), some (.int v4)]) dX7_fitting_33 rfl (Nat.le_of_ble_eq_true rfl) (fun _ => rfl) hh (fun x2 hh => ?_)
      refine J_iincL (pc := 34) (v := v4 + (1 : Int32)) (fun x3 => [some (.ref 19), some (.int v1), some (.int v2), some (.int x2), some (.int x3)]) dX7_fitting_34 rfl rfl (Nat.le_of_ble_eq_true rfl) (congrArg _ ci_1) (fun _ => rfl) hh (fun x3 hh => ?_)
      refine J_goto (pc := 37) 5 dX7_fitting_37 (by decide) ?_
      obtain rfl := Option.some.inj hh
      exact hk
    · replace hh := (if_neg c6).symm.trans hh
      refine J_iconst (pc := 24) dX7_fitting_24 ci_1 ?_
      refine J_iload (pc := 25) dX7_fitting_25 rfl ?_
      refine J_ishl (pc := 27) dX7_fitting_27 ?_
      refine J_goto (pc := 28) 32 dX7_fitting_28 (by decide) ?_
      refine J_ior (pc := 32) dX7_fitting_32 ?_
      refine J_istoreL_n (pc := 33) (fun x4 => [some (.ref 19), some (.int v1), some (.int v2), some (.int x4), some (.int v4)]) dX7_fitting_33 rfl (Nat.le_of_ble_eq_true rfl) (fun _ => rfl) hh (fun x4 hh => ?_)
      refine J_iincL (pc := 34) (v := v4 + (1 : Int32)) (fun x5 => [some (.ref 19), some (.int v1), some (.int v2), some (.int x4), some (.int x5)]) dX7_fitting_34 rfl rfl (Nat.le_of_ble_eq_true rfl) (congrArg _ ci_1) (fun _ => rfl) hh (fun x5 hh => ?_)
      refine J_goto (pc := 37) 5 dX7_fitting_37 (by decide) ?_
      obtain rfl := Option.some.inj hh
      exact hk
def fX7_fitting (s : Mem) (p0 : Int32) (p1 : Int32) : Option Int32 :=
  (lp (fun a => bX7_fitting_5 s p0 p1 a.1 a.2) 600 ((0 : Int32), (0 : Int32))).bind (fun y8 => some y8)
set_option maxRecDepth 4000 in
theorem jjX7_fitting {X : Scr} (d : Nat) (s : Mem) (p0 : Int32) (p1 : Int32) {r : Int32} {w : Option Value} {s' : Mem} (hh : fX7_fitting s p0 p1 = some r) (hk : w = some (.int r) ∧ s = s') : J X MX7_fitting (d + 8) 0 [some (.ref 19), some (.int p0), some (.int p1), none, none] [] s w s' := by
  unfold fX7_fitting at hh
  refine J_iconst (pc := 0) dX7_fitting_0 ci_0 ?_
  refine J_istore_n (pc := 1) (L' := [some (.ref 19), some (.int p0), some (.int p1), some (.int (0 : Int32)), none]) dX7_fitting_1 rfl (Nat.le_of_ble_eq_true rfl) rfl ?_
  refine J_iconst (pc := 2) dX7_fitting_2 ci_0 ?_
  refine J_istore (pc := 3) (L' := [some (.ref 19), some (.int p0), some (.int p1), some (.int (0 : Int32)), some (.int (0 : Int32))]) dX7_fitting_3 rfl (Nat.le_of_ble_eq_true rfl) rfl ?_
  obtain ⟨y8, hy8, hh⟩ := bd_some hh
  refine J_lp (a := ((0 : Int32), (0 : Int32))) (fun a : (Int32 × Int32) => J X MX7_fitting (d + 8) 5 [some (.ref 19), some (.int p0), some (.int p1), some (.int a.1), some (.int a.2)] [] s w s') (fun t : Int32 => J X MX7_fitting (d + 8) 40 [none, none, none, some (.int t), none] [] s w s') (fun a q h1 h2 => jbX7_fitting_5 d s p0 p1 a.1 a.2 h1 h2) hy8 ?_
  refine J_iload_n (pc := 40) dX7_fitting_40 rfl ?_
  obtain rfl := Option.some.inj hh
  obtain ⟨rfl, rfl⟩ := hk
  exact J_ret (w := some (.int y8)) ⟨dX7_fitting_41, _, rfl, rfl⟩
theorem jX7_fitting {X : Scr} (d : Nat) (s : Mem) (p0 : Int32) (p1 : Int32) {r : Int32} (hh : fX7_fitting s p0 p1 = some r) : J X MX7_fitting (d + 8) 0 [some (.ref 19), some (.int p0), some (.int p1), none, none] [] s (some (.int r)) s := jjX7_fitting d s p0 p1 hh ⟨rfl, rfl⟩
theorem dX7_fits_0 : decode cX7_fits 0 = .ok (.aload_n 0, 1) := by decide +kernel
theorem dX7_fits_1 : decode cX7_fits 1 = .ok (.iload_n 1, 1) := by decide +kernel
theorem dX7_fits_2 : decode cX7_fits 2 = .ok (.iload_n 2, 1) := by decide +kernel
theorem dX7_fits_3 : decode cX7_fits 3 = .ok (.invokevirtual 217, 3) := by decide +kernel
theorem dX7_fits_6 : decode cX7_fits 6 = .ok (.istore_n 3, 1) := by decide +kernel
theorem dX7_fits_7 : decode cX7_fits 7 = .ok (.iload_n 3, 1) := by decide +kernel
theorem dX7_fits_8 : decode cX7_fits 8 = .ok (.ifCond .ge 12, 3) := by decide +kernel
theorem dX7_fits_11 : decode cX7_fits 11 = .ok (.aload_n 0, 1) := by decide +kernel
theorem dX7_fits_12 : decode cX7_fits 12 = .ok (.iload_n 1, 1) := by decide +kernel
theorem dX7_fits_13 : decode cX7_fits 13 = .ok (.iload_n 2, 1) := by decide +kernel
theorem dX7_fits_14 : decode cX7_fits 14 = .ok (.invokevirtual 220, 3) := by decide +kernel
theorem dX7_fits_17 : decode cX7_fits 17 = .ok (.goto 8, 3) := by decide +kernel
theorem dX7_fits_20 : decode cX7_fits 20 = .ok (.aload_n 0, 1) := by decide +kernel
theorem dX7_fits_21 : decode cX7_fits 21 = .ok (.iload_n 3, 1) := by decide +kernel
theorem dX7_fits_22 : decode cX7_fits 22 = .ok (.invokevirtual 158, 3) := by decide +kernel
theorem dX7_fits_25 : decode cX7_fits 25 = .ok (.ireturn, 1) := by decide +kernel
def fX7_fits (s : Mem) (p0 : Int32) (p1 : Int32) : Option (Int32 × Mem) :=
  (fX7_whyNot s p0 p1).bind (fun y1 => if (0 : Int32) ≤ y1 then (fX7_finds s y1).bind (fun y2 => some ((y2.1, y2.2))) else (fX7_fitting s p0 p1).bind (fun y3 => some ((y3, s))))
set_option maxRecDepth 4000 in
theorem jjX7_fits {X : Scr} (d : Nat) (s : Mem) (p0 : Int32) (p1 : Int32) {r : (Int32 × Mem)} {w : Option Value} {s' : Mem} (hh : fX7_fits s p0 p1 = some r) (hk : w = some (.int r.1) ∧ r.2 = s') : J X MX7_fits (d + 9) 0 [some (.ref 19), some (.int p0), some (.int p1), none] [] s w s' := by
  unfold fX7_fits at hh
  refine J_aload_n (pc := 0) dX7_fits_0 rfl ?_
  refine J_iload_n (pc := 1) dX7_fits_1 rfl ?_
  refine J_iload_n (pc := 2) dX7_fits_2 rfl ?_
  obtain ⟨y1, hy1, hh⟩ := bd_some hh
  refine J_callVi (pc := 3) (M' := MX7_whyNot) (a := 19) (rest := []) (As := [.int p0, .int p1]) (L0 := [some (.ref 19), some (.int p0), some (.int p1)]) okX7_whyNot ovX7_whyNot mlX7_217 clX7 so19 rfl rfl (Nat.le_of_ble_eq_true rfl) dX7_fits_3 rfl (Nat.le_of_ble_eq_true rfl) (jX7_whyNot (X := X) (d + 6) s p0 p1 hy1) ?_
  refine J_istore_n (pc := 6) (L' := [some (.ref 19), some (.int p0), some (.int p1), some (.int y1)]) dX7_fits_6 rfl (Nat.le_of_ble_eq_true rfl) rfl ?_
  refine J_iload_n (pc := 7) dX7_fits_7 rfl ?_
  refine J_if_ge (pc := 8) 20 dX7_fits_8 (by decide) (fun c4 => ?_) (fun c4 => ?_)
  · replace hh := (if_pos c4).symm.trans hh
    refine J_aload_n (pc := 20) dX7_fits_20 rfl ?_
    refine J_iload_n (pc := 21) dX7_fits_21 rfl ?_
    obtain ⟨y2, hy2, hh⟩ := bd_some hh
    refine J_callVi (pc := 22) (M' := MX7_finds) (a := 19) (rest := []) (As := [.int y1]) (L0 := [some (.ref 19), some (.int y1)]) okX7_finds ovX7_finds mlX7_158 clX7 so19 rfl rfl (Nat.le_of_ble_eq_true rfl) dX7_fits_22 rfl (Nat.le_of_ble_eq_true rfl) (jX7_finds (X := X) (d + 8) s y1 hy2) ?_
    obtain rfl := Option.some.inj hh
    obtain ⟨rfl, rfl⟩ := hk
    exact J_ret (w := some (.int y2.1)) ⟨dX7_fits_25, _, rfl, rfl⟩
  · replace hh := (if_neg c4).symm.trans hh
    refine J_aload_n (pc := 11) dX7_fits_11 rfl ?_
    refine J_iload_n (pc := 12) dX7_fits_12 rfl ?_
    refine J_iload_n (pc := 13) dX7_fits_13 rfl ?_
    obtain ⟨y3, hy3, hh⟩ := bd_some hh
    refine J_callVi (pc := 14) (M' := MX7_fitting) (a := 19) (rest := []) (As := [.int p0, .int p1]) (L0 := [some (.ref 19), some (.int p0), some (.int p1), none, none]) okX7_fitting ovX7_fitting mlX7_220 clX7 so19 rfl rfl (Nat.le_of_ble_eq_true rfl) dX7_fits_14 rfl (Nat.le_of_ble_eq_true rfl) (jX7_fitting (X := X) d s p0 p1 hy3) ?_
    refine J_goto (pc := 17) 25 dX7_fits_17 (by decide) ?_
    obtain rfl := Option.some.inj hh
    obtain ⟨rfl, rfl⟩ := hk
    exact J_ret (w := some (.int y3)) ⟨dX7_fits_25, _, rfl, rfl⟩
theorem jX7_fits {X : Scr} (d : Nat) (s : Mem) (p0 : Int32) (p1 : Int32) {r : (Int32 × Mem)} (hh : fX7_fits s p0 p1 = some r) : J X MX7_fits (d + 9) 0 [some (.ref 19), some (.int p0), some (.int p1), none] [] s (some (.int r.1)) r.2 := jjX7_fits d s p0 p1 hh ⟨rfl, rfl⟩
theorem dX7_why_0 : decode cX7_why 0 = .ok (.iload_n 3, 1) := by decide +kernel
theorem dX7_why_1 : decode cX7_why 1 = .ok (.i2l, 1) := by decide +kernel
theorem dX7_why_2 : decode cX7_why 2 = .ok (.lconst 0, 1) := by decide +kernel
theorem dX7_why_3 : decode cX7_why 3 = .ok (.lconst 1, 1) := by decide +kernel
theorem dX7_why_4 : decode cX7_why 4 = .ok (.invokestatic 63, 3) := by decide +kernel
theorem dX7_why_7 : decode cX7_why 7 = .ok (.ifCond .ne 9, 3) := by decide +kernel
theorem dX7_why_10 : decode cX7_why 10 = .ok (.aload_n 0, 1) := by decide +kernel
theorem dX7_why_11 : decode cX7_why 11 = .ok (.iconst 0, 1) := by decide +kernel
theorem dX7_why_12 : decode cX7_why 12 = .ok (.invokevirtual 158, 3) := by decide +kernel
theorem dX7_why_15 : decode cX7_why 15 = .ok (.ireturn, 1) := by decide +kernel
theorem dX7_why_16 : decode cX7_why 16 = .ok (.aload_n 0, 1) := by decide +kernel
theorem dX7_why_17 : decode cX7_why 17 = .ok (.iload_n 1, 1) := by decide +kernel
theorem dX7_why_18 : decode cX7_why 18 = .ok (.iload_n 2, 1) := by decide +kernel
theorem dX7_why_19 : decode cX7_why 19 = .ok (.invokevirtual 217, 3) := by decide +kernel
theorem dX7_why_22 : decode cX7_why 22 = .ok (.istore 4, 2) := by decide +kernel
theorem dX7_why_24 : decode cX7_why 24 = .ok (.iload 4, 2) := by decide +kernel
theorem dX7_why_26 : decode cX7_why 26 = .ok (.ifCond .lt 10, 3) := by decide +kernel
theorem dX7_why_29 : decode cX7_why 29 = .ok (.aload_n 0, 1) := by decide +kernel
theorem dX7_why_30 : decode cX7_why 30 = .ok (.iload 4, 2) := by decide +kernel
theorem dX7_why_32 : decode cX7_why 32 = .ok (.invokevirtual 158, 3) := by decide +kernel
theorem dX7_why_35 : decode cX7_why 35 = .ok (.ireturn, 1) := by decide +kernel
theorem dX7_why_36 : decode cX7_why 36 = .ok (.iconst 0, 1) := by decide +kernel
theorem dX7_why_37 : decode cX7_why 37 = .ok (.istore 5, 2) := by decide +kernel
theorem dX7_why_39 : decode cX7_why 39 = .ok (.iconst 0, 1) := by decide +kernel
theorem dX7_why_40 : decode cX7_why 40 = .ok (.istore 6, 2) := by decide +kernel
theorem dX7_why_42 : decode cX7_why 42 = .ok (.iload 6, 2) := by decide +kernel
theorem dX7_why_44 : decode cX7_why 44 = .ok (.bipush 8, 2) := by decide +kernel
theorem dX7_why_46 : decode cX7_why 46 = .ok (.if_icmp .ge 79, 3) := by decide +kernel
theorem dX7_why_49 : decode cX7_why 49 = .ok (.aload_n 0, 1) := by decide +kernel
theorem dX7_why_50 : decode cX7_why 50 = .ok (.iload_n 1, 1) := by decide +kernel
theorem dX7_why_51 : decode cX7_why 51 = .ok (.iload_n 2, 1) := by decide +kernel
theorem dX7_why_52 : decode cX7_why 52 = .ok (.iload 6, 2) := by decide +kernel
theorem dX7_why_54 : decode cX7_why 54 = .ok (.invokevirtual 133, 3) := by decide +kernel
theorem dX7_why_57 : decode cX7_why 57 = .ok (.istore 7, 2) := by decide +kernel
theorem dX7_why_59 : decode cX7_why 59 = .ok (.iload_n 3, 1) := by decide +kernel
theorem dX7_why_60 : decode cX7_why 60 = .ok (.ifCond .ne 8, 3) := by decide +kernel
theorem dX7_why_63 : decode cX7_why 63 = .ok (.iload 7, 2) := by decide +kernel
theorem dX7_why_65 : decode cX7_why 65 = .ok (.goto 24, 3) := by decide +kernel
theorem dX7_why_68 : decode cX7_why 68 = .ok (.iload 7, 2) := by decide +kernel
theorem dX7_why_70 : decode cX7_why 70 = .ok (.ifCond .ne 18, 3) := by decide +kernel
theorem dX7_why_73 : decode cX7_why 73 = .ok (.aload_n 0, 1) := by decide +kernel
theorem dX7_why_74 : decode cX7_why 74 = .ok (.iload_n 2, 1) := by decide +kernel
theorem dX7_why_75 : decode cX7_why 75 = .ok (.iload 6, 2) := by decide +kernel
theorem dX7_why_77 : decode cX7_why 77 = .ok (.iload_n 1, 1) := by decide +kernel
theorem dX7_why_78 : decode cX7_why 78 = .ok (.invokevirtual 136, 3) := by decide +kernel
theorem dX7_why_81 : decode cX7_why 81 = .ok (.ifCond .ne 7, 3) := by decide +kernel
theorem dX7_why_84 : decode cX7_why 84 = .ok (.iconst 1, 1) := by decide +kernel
theorem dX7_why_85 : decode cX7_why 85 = .ok (.goto 4, 3) := by decide +kernel
theorem dX7_why_88 : decode cX7_why 88 = .ok (.iconst 0, 1) := by decide +kernel
theorem dX7_why_89 : decode cX7_why 89 = .ok (.istore 8, 2) := by decide +kernel
theorem dX7_why_91 : decode cX7_why 91 = .ok (.iload 5, 2) := by decide +kernel
theorem dX7_why_93 : decode cX7_why 93 = .ok (.iload 8, 2) := by decide +kernel
theorem dX7_why_95 : decode cX7_why 95 = .ok (.ifCond .eq 20, 3) := by decide +kernel
theorem dX7_why_98 : decode cX7_why 98 = .ok (.aload_n 0, 1) := by decide +kernel
theorem dX7_why_99 : decode cX7_why 99 = .ok (.iload_n 2, 1) := by decide +kernel
theorem dX7_why_100 : decode cX7_why 100 = .ok (.iload 6, 2) := by decide +kernel
theorem dX7_why_102 : decode cX7_why 102 = .ok (.invokevirtual 98, 3) := by decide +kernel
theorem dX7_why_105 : decode cX7_why 105 = .ok (.ifCond .eq 10, 3) := by decide +kernel
theorem dX7_why_108 : decode cX7_why 108 = .ok (.iconst 1, 1) := by decide +kernel
theorem dX7_why_109 : decode cX7_why 109 = .ok (.iload 6, 2) := by decide +kernel
theorem dX7_why_111 : decode cX7_why 111 = .ok (.ishl, 1) := by decide +kernel
theorem dX7_why_112 : decode cX7_why 112 = .ok (.goto 4, 3) := by decide +kernel
theorem dX7_why_115 : decode cX7_why 115 = .ok (.iconst 0, 1) := by decide +kernel
theorem dX7_why_116 : decode cX7_why 116 = .ok (.ior, 1) := by decide +kernel
theorem dX7_why_117 : decode cX7_why 117 = .ok (.istore 5, 2) := by decide +kernel
theorem dX7_why_119 : decode cX7_why 119 = .ok (.iinc 6 1, 3) := by decide +kernel
theorem dX7_why_122 : decode cX7_why 122 = .ok (.goto (-80), 3) := by decide +kernel
theorem dX7_why_125 : decode cX7_why 125 = .ok (.iload 5, 2) := by decide +kernel
theorem dX7_why_127 : decode cX7_why 127 = .ok (.ireturn, 1) := by decide +kernel
def gX7_why_115 (s : Mem) (v1 : Int32) (v2 : Int32) (v3 : Int32) (v6 : Int32) (k0 : Int32) : Option (Int32 ⊕ (Int32 × Int32)) :=
  lt (k0 ||| (0 : Int32)) (fun x4 => lt (v6 + (1 : Int32)) (fun x5 => some (Sum.inr (x4, x5))))
set_option maxRecDepth 4000 in
theorem jgX7_why_115 {X : Scr} (d : Nat) (s : Mem) (v1 : Int32) (v2 : Int32) (v3 : Int32) (v6 : Int32) (k0 : Int32) {r : (Int32 ⊕ (Int32 × Int32))} {w : Option Value} {s' : Mem} (hh : gX7_why_115 s v1 v2 v3 v6 k0 = some r) (hk : Sum.elim (fun t : Int32 => J X MX7_why (d + 7) 125 [none, none, none, none, none, some (.int t), none, none, none] [] s w s') (fun a : (Int32 × Int32) => J X MX7_why (d + 7) 42 [some (.ref 19), some (.int v1), some (.int v2), some (.int v3), none, some (.int a.1), some (.int a.2), none, none] [] s w s') r) : J X MX7_why (d + 7) 115 [some (.ref 19), some (.int v1), some (.int v2), some (.int v3), none, none, some (.int v6), none, none] [.int k0] s w s' := by
  unfold gX7_why_115 at hh
  refine J_iconst (pc := 115) dX7_why_115 ci_0 ?_
  refine J_ior (pc := 116) dX7_why_116 ?_
  refine J_istoreL (pc := 117) (fun x4 => [some (.ref 19), some (.int v1), some (.int v2), some (.int v3), none, some (.int x4), some (.int v6), none, none]) dX7_why_117 rfl (Nat.le_of_ble_eq_true rfl) (fun _ => rfl) hh (fun x4 hh => ?_)
  refine J_iincL (pc := 119) (v := v6 + (1 : Int32)) (fun x5 => [some (.ref 19), some (.int v1), some (.int v2), some (.int v3), none, some (.int x4), some (.int x5), none, none]) dX7_why_119 rfl rfl (Nat.le_of_ble_eq_true rfl) (congrArg _ ci_1) (fun _ => rfl) hh (fun x5 hh => ?_)
  refine J_goto (pc := 122) 42 dX7_why_122 (by decide) ?_
  obtain rfl := Option.some.inj hh
  exact hk
def gX7_why_89 (s : Mem) (v1 : Int32) (v2 : Int32) (v3 : Int32) (v5 : Int32) (v6 : Int32) (k0 : Int32) : Option (Int32 ⊕ (Int32 × Int32)) :=
  if k0 = (0 : Int32) then gX7_why_115 s v1 v2 v3 v6 v5 else (fX7_isLawful s v2 v6).bind (fun y6 => if y6 = (0 : Int32) then gX7_why_115 s v1 v2 v3 v6 v5 else lt (v5 ||| ((1 : Int32) <<< (v6 &&& 31))) (fun x7 => lt (v6 + (1 : Int32)) (fun x8 => some (Sum.inr (x7, x8)))))
set_option maxRecDepth 4000 in
theorem jgX7_why_89 {X : Scr} (d : Nat) (s : Mem) (v1 : Int32) (v2 : Int32) (v3 : Int32) (v5 : Int32) (v6 : Int32) (k0 : Int32) {r : (Int32 ⊕ (Int32 × Int32))} {w : Option Value} {s' : Mem} (hh : gX7_why_89 s v1 v2 v3 v5 v6 k0 = some r) (hk : Sum.elim (fun t : Int32 => J X MX7_why (d + 7) 125 [none, none, none, none, none, some (.int t), none, none, none] [] s w s') (fun a : (Int32 × Int32) => J X MX7_why (d + 7) 42 [some (.ref 19), some (.int v1), some (.int v2), some (.int v3), none, some (.int a.1), some (.int a.2), none, none] [] s w s') r) : J X MX7_why (d + 7) 89 [some (.ref 19), some (.int v1), some (.int v2), some (.int v3), none, some (.int v5), some (.int v6), none, none] [.int k0] s w s' := by
  unfold gX7_why_89 at hh
  refine J_istore (pc := 89) (L' := [some (.ref 19), some (.int v1), some (.int v2), some (.int v3), none, some (.int v5), some (.int v6), none, some (.int k0)]) dX7_why_89 rfl (Nat.le_of_ble_eq_true rfl) rfl ?_
  refine J_iload (pc := 91) dX7_why_91 rfl ?_
  refine J_iload (pc := 93) dX7_why_93 rfl ?_
  refine J_if_eq (pc := 95) 115 dX7_why_95 (by decide) (fun c10 => ?_) (fun c10 => ?_)
  · replace hh := (if_pos c10).symm.trans hh
    refine J_drop 5 (L' := [some (.ref 19), some (.int v1), some (.int v2), some (.int v3), none, none, some (.int v6), none, some (.int k0)]) rfl ?_
    refine J_drop 8 (L' := [some (.ref 19), some (.int v1), some (.int v2), some (.int v3), none, none, some (.int v6), none, none]) rfl ?_
    exact jgX7_why_115 d s v1 v2 v3 v6 v5 hh hk
  · replace hh := (if_neg c10).symm.trans hh
    refine J_aload_n (pc := 98) dX7_why_98 rfl ?_
    refine J_iload_n (pc := 99) dX7_why_99 rfl ?_
    refine J_iload (pc := 100) dX7_why_100 rfl ?_
    obtain ⟨y6, hy6, hh⟩ := bd_some hh
    refine J_callVi (pc := 102) (M' := MX7_isLawful) (a := 19) (rest := [.int v5]) (As := [.int v2, .int v6]) (L0 := [some (.ref 19), some (.int v2), some (.int v6), none, none, none]) okX7_isLawful ovX7_isLawful mlX7_98 clX7 so19 rfl rfl (Nat.le_of_ble_eq_true rfl) dX7_why_102 rfl (Nat.le_of_ble_eq_true rfl) (jX7_isLawful (X := X) (d + 2) s v2 v6 hy6) ?_
    refine J_if_eq (pc := 105) 115 dX7_why_105 (by decide) (fun c9 => ?_) (fun c9 => ?_)
    · replace hh := (if_pos c9).symm.trans hh
      refine J_drop 5 (L' := [some (.ref 19), some (.int v1), some (.int v2), some (.int v3), none, none, some (.int v6), none, some (.int k0)]) rfl ?_
      refine J_drop 8 (L' := [some (.ref 19), some (.int v1), some (.int v2), some (.int v3), none, none, some (.int v6), none, none]) rfl ?_
      exact jgX7_why_115 d s v1 v2 v3 v6 v5 hh hk
    · replace hh := (if_neg c9).symm.trans hh
      refine J_iconst (pc := 108) dX7_why_108 ci_1 ?_
      refine J_iload (pc := 109) dX7_why_109 rfl ?_
      refine J_ishl (pc := 111) dX7_why_111 ?_
      refine J_goto (pc := 112) 116 dX7_why_112 (by decide) ?_
      refine J_ior (pc := 116) dX7_why_116 ?_
      refine J_istoreL (pc := 117) (fun x7 => [some (.ref 19), some (.int v1), some (.int v2), some (.int v3), none, some (.int x7), some (.int v6), none, some (.int k0)]) dX7_why_117 rfl (Nat.le_of_ble_eq_true rfl) (fun _ => rfl) hh (fun x7 hh => ?_)
      refine J_iincL (pc := 119) (v := v6 + (1 : Int32)) (fun x8 => [some (.ref 19), some (.int v1), some (.int v2), some (.int v3), none, some (.int x7), some (.int x8), none, some (.int k0)]) dX7_why_119 rfl rfl (Nat.le_of_ble_eq_true rfl) (congrArg _ ci_1) (fun _ => rfl) hh (fun x8 hh => ?_)
      refine J_goto (pc := 122) 42 dX7_why_122 (by decide) ?_
      refine J_drop 8 (L' := [some (.ref 19), some (.int v1), some (.int v2), some (.int v3), none, some (.int x7), some (.int x8), none, none]) rfl ?_
      obtain rfl := Option.some.inj hh
      exact hk
def gX7_why_88 (s : Mem) (v1 : Int32) (v2 : Int32) (v3 : Int32) (v5 : Int32) (v6 : Int32) : Option (Int32 ⊕ (Int32 × Int32)) :=
  gX7_why_89 s v1 v2 v3 v5 v6 (0 : Int32)
set_option maxRecDepth 4000 in
theorem jgX7_why_88 {X : Scr} (d : Nat) (s : Mem) (v1 : Int32) (v2 : Int32) (v3 : Int32) (v5 : Int32) (v6 : Int32) {r : (Int32 ⊕ (Int32 × Int32))} {w : Option Value} {s' : Mem} (hh : gX7_why_88 s v1 v2 v3 v5 v6 = some r) (hk : Sum.elim (fun t : Int32 => J X MX7_why (d + 7) 125 [none, none, none, none, none, some (.int t), none, none, none] [] s w s') (fun a : (Int32 × Int32) => J X MX7_why (d + 7) 42 [some (.ref 19), some (.int v1), some (.int v2), some (.int v3), none, some (.int a.1), some (.int a.2), none, none] [] s w s') r) : J X MX7_why (d + 7) 88 [some (.ref 19), some (.int v1), some (.int v2), some (.int v3), none, some (.int v5), some (.int v6), none, none] [] s w s' := by
  unfold gX7_why_88 at hh
  refine J_iconst (pc := 88) dX7_why_88 ci_0 ?_
  exact jgX7_why_89 d s v1 v2 v3 v5 v6 (0 : Int32) hh hk
def bX7_why_42 (s : Mem) (v1 : Int32) (v2 : Int32) (v3 : Int32) (v5 : Int32) (v6 : Int32) : Option (Int32 ⊕ (Int32 × Int32)) :=
  if (8 : Int32) ≤ v6 then some (Sum.inl v5) else (fX7_clashes s v1 v2 v6).bind (fun y3 => if v3 = (0 : Int32) then gX7_why_89 s v1 v2 v3 v5 v6 y3 else if y3 = (0 : Int32) then (fX7_hasRoom s v2 v6 v1).bind (fun y11 => if y11 = (0 : Int32) then gX7_why_89 s v1 v2 v3 v5 v6 (1 : Int32) else gX7_why_88 s v1 v2 v3 v5 v6) else gX7_why_88 s v1 v2 v3 v5 v6)
set_option maxRecDepth 4000 in
theorem jbX7_why_42 {X : Scr} (d : Nat) (s : Mem) (v1 : Int32) (v2 : Int32) (v3 : Int32) (v5 : Int32) (v6 : Int32) {r : (Int32 ⊕ (Int32 × Int32))} {w : Option Value} {s' : Mem} (hh : bX7_why_42 s v1 v2 v3 v5 v6 = some r) (hk : Sum.elim (fun t : Int32 => J X MX7_why (d + 7) 125 [none, none, none, none, none, some (.int t), none, none, none] [] s w s') (fun a : (Int32 × Int32) => J X MX7_why (d + 7) 42 [some (.ref 19), some (.int v1), some (.int v2), some (.int v3), none, some (.int a.1), some (.int a.2), none, none] [] s w s') r) : J X MX7_why (d + 7) 42 [some (.ref 19), some (.int v1), some (.int v2), some (.int v3), none, some (.int v5), some (.int v6), none, none] [] s w s' := by
  unfold bX7_why_42 at hh
  refine J_iload (pc := 42) dX7_why_42 rfl ?_
  refine J_bipush (pc := 44) dX7_why_44 cb_8 ?_
  refine J_icmp_ge (pc := 46) 125 dX7_why_46 (by decide) (fun c15 => ?_) (fun c15 => ?_)
  · replace hh := (if_pos c15).symm.trans hh
    refine J_drop 0 (L' := [none, some (.int v1), some (.int v2), some (.int v3), none, some (.int v5), some (.int v6), none, none]) rfl ?_
    refine J_drop 1 (L' := [none, none, some (.int v2), some (.int v3), none, some (.int v5), some (.int v6), none, none]) rfl ?_
    refine J_drop 2 (L' := [none, none, none, some (.int v3), none, some (.int v5), some (.int v6), none, none]) rfl ?_
    refine J_drop 3 (L' := [none, none, none, none, none, some (.int v5), some (.int v6), none, none]) rfl ?_
    refine J_drop 6 (L' := [none, none, none, none, none, some (.int v5), none, none, none]) rfl ?_
    obtain rfl := Option.some.inj hh
    exact hk
  · replace hh := (if_neg c15).symm.trans hh
    refine J_aload_n (pc := 49) dX7_why_49 rfl ?_
    refine J_iload_n (pc := 50) dX7_why_50 rfl ?_
    refine J_iload_n (pc := 51) dX7_why_51 rfl ?_
    refine J_iload (pc := 52) dX7_why_52 rfl ?_
    obtain ⟨y3, hy3, hh⟩ := bd_some hh
    refine J_callVi (pc := 54) (M' := MX7_clashes) (a := 19) (rest := []) (As := [.int v1, .int v2, .int v6]) (L0 := [some (.ref 19), some (.int v1), some (.int v2), some (.int v6)]) okX7_clashes ovX7_clashes mlX7_133 clX7 so19 rfl rfl (Nat.le_of_ble_eq_true rfl) dX7_why_54 rfl (Nat.le_of_ble_eq_true rfl) (jX7_clashes (X := X) d s v1 v2 v6 hy3) ?_
    refine J_istore (pc := 57) (L' := [some (.ref 19), some (.int v1), some (.int v2), some (.int v3), none, some (.int v5), some (.int v6), some (.int y3), none]) dX7_why_57 rfl (Nat.le_of_ble_eq_true rfl) rfl ?_
    refine J_iload_n (pc := 59) dX7_why_59 rfl ?_
    refine J_if_ne (pc := 60) 68 dX7_why_60 (by decide) (fun c14 => ?_) (fun c14 => ?_)
    · replace hh := (if_neg c14).symm.trans hh
      refine J_iload (pc := 68) dX7_why_68 rfl ?_
      refine J_if_ne (pc := 70) 88 dX7_why_70 (by decide) (fun c13 => ?_) (fun c13 => ?_)
      · replace hh := (if_neg c13).symm.trans hh
        refine J_drop 7 (L' := [some (.ref 19), some (.int v1), some (.int v2), some (.int v3), none, some (.int v5), some (.int v6), none, none]) rfl ?_
        exact jgX7_why_88 d s v1 v2 v3 v5 v6 hh hk
      · replace hh := (if_pos c13).symm.trans hh
        refine J_aload_n (pc := 73) dX7_why_73 rfl ?_
        refine J_iload_n (pc := 74) dX7_why_74 rfl ?_
        refine J_iload (pc := 75) dX7_why_75 rfl ?_
        refine J_iload_n (pc := 77) dX7_why_77 rfl ?_
        obtain ⟨y11, hy11, hh⟩ := bd_some hh
        refine J_callVi (pc := 78) (M' := MX7_hasRoom) (a := 19) (rest := []) (As := [.int v2, .int v6, .int v1]) (L0 := [some (.ref 19), some (.int v2), some (.int v6), some (.int v1), none]) okX7_hasRoom ovX7_hasRoom mlX7_136 clX7 so19 rfl rfl (Nat.le_of_ble_eq_true rfl) dX7_why_78 rfl (Nat.le_of_ble_eq_true rfl) (jX7_hasRoom (X := X) (d + 1) s v2 v6 v1 hy11) ?_
        refine J_if_ne (pc := 81) 88 dX7_why_81 (by decide) (fun c12 => ?_) (fun c12 => ?_)
        · replace hh := (if_neg c12).symm.trans hh
          refine J_drop 7 (L' := [some (.ref 19), some (.int v1), some (.int v2), some (.int v3), none, some (.int v5), some (.int v6), none, none]) rfl ?_
          exact jgX7_why_88 d s v1 v2 v3 v5 v6 hh hk
        · replace hh := (if_pos c12).symm.trans hh
          refine J_iconst (pc := 84) dX7_why_84 ci_1 ?_
          refine J_goto (pc := 85) 89 dX7_why_85 (by decide) ?_
          refine J_drop 7 (L' := [some (.ref 19), some (.int v1), some (.int v2), some (.int v3), none, some (.int v5), some (.int v6), none, none]) rfl ?_
          exact jgX7_why_89 d s v1 v2 v3 v5 v6 (1 : Int32) hh hk
    · replace hh := (if_pos c14).symm.trans hh
      refine J_iload (pc := 63) dX7_why_63 rfl ?_
      refine J_goto (pc := 65) 89 dX7_why_65 (by decide) ?_
      refine J_drop 7 (L' := [some (.ref 19), some (.int v1), some (.int v2), some (.int v3), none, some (.int v5), some (.int v6), none, none]) rfl ?_
      exact jgX7_why_89 d s v1 v2 v3 v5 v6 y3 hh hk
def fX7_why (s : Mem) (p0 : Int32) (p1 : Int32) (p2 : Int32) : Option (Int32 × Mem) :=
  (fX7_in (p2.toInt64) (0 : Int64) (1 : Int64)).bind (fun y1 => if y1 = (0 : Int32) then (fX7_finds s (0 : Int32)).bind (fun y19 => some ((y19.1, y19.2))) else (fX7_whyNot s p0 p1).bind (fun y2 => if y2 < (0 : Int32) then (lp (fun a => bX7_why_42 s p0 p1 p2 a.1 a.2) 600 ((0 : Int32), (0 : Int32))).bind (fun y16 => some ((y16, s))) else (fX7_finds s y2).bind (fun y17 => some ((y17.1, y17.2)))))
set_option maxRecDepth 4000 in
theorem jjX7_why {X : Scr} (d : Nat) (s : Mem) (p0 : Int32) (p1 : Int32) (p2 : Int32) {r : (Int32 × Mem)} {w : Option Value} {s' : Mem} (hh : fX7_why s p0 p1 p2 = some r) (hk : w = some (.int r.1) ∧ r.2 = s') : J X MX7_why (d + 7) 0 [some (.ref 19), some (.int p0), some (.int p1), some (.int p2), none, none, none, none, none] [] s w s' := by
  unfold fX7_why at hh
  refine J_iload_n (pc := 0) dX7_why_0 rfl ?_
  refine J_i2l (pc := 1) dX7_why_1 ?_
  refine J_lconst (pc := 2) (v := 0) dX7_why_2 rfl ?_
  refine J_lconst (pc := 3) (v := 1) dX7_why_3 rfl ?_
  obtain ⟨y1, hy1, hh⟩ := bd_some hh
  refine J_callSi (pc := 4) (M' := MX7_in) (rest := []) (As := [.long (p2.toInt64), .long (0 : Int64), .long (1 : Int64)]) (L0 := [some (.long (p2.toInt64)), none, some (.long (0 : Int64)), none, some (.long (1 : Int64)), none]) okX7_in osX7_in mlX7_63 rfl rfl (Nat.le_of_ble_eq_true rfl) dX7_why_4 rfl (Nat.le_of_ble_eq_true rfl) (jX7_in (X := X) (d + 6) s (p2.toInt64) (0 : Int64) (1 : Int64) hy1) ?_
  refine J_if_ne (pc := 7) 16 dX7_why_7 (by decide) (fun c20 => ?_) (fun c20 => ?_)
  · replace hh := (if_neg c20).symm.trans hh
    refine J_aload_n (pc := 16) dX7_why_16 rfl ?_
    refine J_iload_n (pc := 17) dX7_why_17 rfl ?_
    refine J_iload_n (pc := 18) dX7_why_18 rfl ?_
    obtain ⟨y2, hy2, hh⟩ := bd_some hh
    refine J_callVi (pc := 19) (M' := MX7_whyNot) (a := 19) (rest := []) (As := [.int p0, .int p1]) (L0 := [some (.ref 19), some (.int p0), some (.int p1)]) okX7_whyNot ovX7_whyNot mlX7_217 clX7 so19 rfl rfl (Nat.le_of_ble_eq_true rfl) dX7_why_19 rfl (Nat.le_of_ble_eq_true rfl) (jX7_whyNot (X := X) (d + 4) s p0 p1 hy2) ?_
    refine J_istore (pc := 22) (L' := [some (.ref 19), some (.int p0), some (.int p1), some (.int p2), some (.int y2), none, none, none, none]) dX7_why_22 rfl (Nat.le_of_ble_eq_true rfl) rfl ?_
    refine J_iload (pc := 24) dX7_why_24 rfl ?_
    refine J_if_lt (pc := 26) 36 dX7_why_26 (by decide) (fun c18 => ?_) (fun c18 => ?_)
    · replace hh := (if_pos c18).symm.trans hh
      refine J_iconst (pc := 36) dX7_why_36 ci_0 ?_
      refine J_istore (pc := 37) (L' := [some (.ref 19), some (.int p0), some (.int p1), some (.int p2), some (.int y2), some (.int (0 : Int32)), none, none, none]) dX7_why_37 rfl (Nat.le_of_ble_eq_true rfl) rfl ?_
      refine J_iconst (pc := 39) dX7_why_39 ci_0 ?_
      refine J_istore (pc := 40) (L' := [some (.ref 19), some (.int p0), some (.int p1), some (.int p2), some (.int y2), some (.int (0 : Int32)), some (.int (0 : Int32)), none, none]) dX7_why_40 rfl (Nat.le_of_ble_eq_true rfl) rfl ?_
      refine J_drop 4 (L' := [some (.ref 19), some (.int p0), some (.int p1), some (.int p2), none, some (.int (0 : Int32)), some (.int (0 : Int32)), none, none]) rfl ?_
      obtain ⟨y16, hy16, hh⟩ := bd_some hh
      refine J_lp (a := ((0 : Int32), (0 : Int32))) (fun a : (Int32 × Int32) => J X MX7_why (d + 7) 42 [some (.ref 19), some (.int p0), some (.int p1), some (.int p2), none, some (.int a.1), some (.int a.2), none, none] [] s w s') (fun t : Int32 => J X MX7_why (d + 7) 125 [none, none, none, none, none, some (.int t), none, none, none] [] s w s') (fun a q h1 h2 => jbX7_why_42 d s p0 p1 p2 a.1 a.2 h1 h2) hy16 ?_
      refine J_iload (pc := 125) dX7_why_125 rfl ?_
      obtain rfl := Option.some.inj hh
      obtain ⟨rfl, rfl⟩ := hk
      exact J_ret (w := some (.int y16)) ⟨dX7_why_127, _, rfl, rfl⟩
    · replace hh := (if_neg c18).symm.trans hh
      refine J_aload_n (pc := 29) dX7_why_29 rfl ?_
      refine J_iload (pc := 30) dX7_why_30 rfl ?_
      obtain ⟨y17, hy17, hh⟩ := bd_some hh
      refine J_callVi (pc := 32) (M' := MX7_finds) (a := 19) (rest := []) (As := [.int y2]) (L0 := [some (.ref 19), some (.int y2)]) okX7_finds ovX7_finds mlX7_158 clX7 so19 rfl rfl (Nat.le_of_ble_eq_true rfl) dX7_why_32 rfl (Nat.le_of_ble_eq_true rfl) (jX7_finds (X := X) (d + 6) s y2 hy17) ?_
      obtain rfl := Option.some.inj hh
      obtain ⟨rfl, rfl⟩ := hk
      exact J_ret (w := some (.int y17.1)) ⟨dX7_why_35, _, rfl, rfl⟩
  · replace hh := (if_pos c20).symm.trans hh
    refine J_aload_n (pc := 10) dX7_why_10 rfl ?_
    refine J_iconst (pc := 11) dX7_why_11 ci_0 ?_
    obtain ⟨y19, hy19, hh⟩ := bd_some hh
    refine J_callVi (pc := 12) (M' := MX7_finds) (a := 19) (rest := []) (As := [.int (0 : Int32)]) (L0 := [some (.ref 19), some (.int (0 : Int32))]) okX7_finds ovX7_finds mlX7_158 clX7 so19 rfl rfl (Nat.le_of_ble_eq_true rfl) dX7_why_12 rfl (Nat.le_of_ble_eq_true rfl) (jX7_finds (X := X) (d + 6) s (0 : Int32) hy19) ?_
    obtain rfl := Option.some.inj hh
    obtain ⟨rfl, rfl⟩ := hk
    exact J_ret (w := some (.int y19.1)) ⟨dX7_why_15, _, rfl, rfl⟩
theorem jX7_why {X : Scr} (d : Nat) (s : Mem) (p0 : Int32) (p1 : Int32) (p2 : Int32) {r : (Int32 × Mem)} (hh : fX7_why s p0 p1 p2 = some r) : J X MX7_why (d + 7) 0 [some (.ref 19), some (.int p0), some (.int p1), some (.int p2), none, none, none, none, none] [] s (some (.int r.1)) r.2 := jjX7_why d s p0 p1 p2 hh ⟨rfl, rfl⟩
theorem dX7_both_0 : decode cX7_both 0 = .ok (.aload_n 0, 1) := by decide +kernel
theorem dX7_both_1 : decode cX7_both 1 = .ok (.iload_n 1, 1) := by decide +kernel
theorem dX7_both_2 : decode cX7_both 2 = .ok (.invokevirtual 196, 3) := by decide +kernel
theorem dX7_both_5 : decode cX7_both 5 = .ok (.ifCond .eq 16, 3) := by decide +kernel
theorem dX7_both_8 : decode cX7_both 8 = .ok (.aload_n 0, 1) := by decide +kernel
theorem dX7_both_9 : decode cX7_both 9 = .ok (.iload_n 2, 1) := by decide +kernel
theorem dX7_both_10 : decode cX7_both 10 = .ok (.invokevirtual 196, 3) := by decide +kernel
theorem dX7_both_13 : decode cX7_both 13 = .ok (.ifCond .eq 8, 3) := by decide +kernel
theorem dX7_both_16 : decode cX7_both 16 = .ok (.iload_n 1, 1) := by decide +kernel
theorem dX7_both_17 : decode cX7_both 17 = .ok (.iload_n 2, 1) := by decide +kernel
theorem dX7_both_18 : decode cX7_both 18 = .ok (.if_icmp .ne 9, 3) := by decide +kernel
theorem dX7_both_21 : decode cX7_both 21 = .ok (.aload_n 0, 1) := by decide +kernel
theorem dX7_both_22 : decode cX7_both 22 = .ok (.iconst 0, 1) := by decide +kernel
theorem dX7_both_23 : decode cX7_both 23 = .ok (.invokevirtual 158, 3) := by decide +kernel
theorem dX7_both_26 : decode cX7_both 26 = .ok (.ireturn, 1) := by decide +kernel
theorem dX7_both_27 : decode cX7_both 27 = .ok (.aload_n 0, 1) := by decide +kernel
theorem dX7_both_28 : decode cX7_both 28 = .ok (.iload_n 1, 1) := by decide +kernel
theorem dX7_both_29 : decode cX7_both 29 = .ok (.iconst (-1), 1) := by decide +kernel
theorem dX7_both_30 : decode cX7_both 30 = .ok (.invokevirtual 121, 3) := by decide +kernel
theorem dX7_both_33 : decode cX7_both 33 = .ok (.aload_n 0, 1) := by decide +kernel
theorem dX7_both_34 : decode cX7_both 34 = .ok (.iload_n 2, 1) := by decide +kernel
theorem dX7_both_35 : decode cX7_both 35 = .ok (.iconst (-1), 1) := by decide +kernel
theorem dX7_both_36 : decode cX7_both 36 = .ok (.invokevirtual 121, 3) := by decide +kernel
theorem dX7_both_39 : decode cX7_both 39 = .ok (.iand, 1) := by decide +kernel
theorem dX7_both_40 : decode cX7_both 40 = .ok (.ireturn, 1) := by decide +kernel
def gX7_both_21 (s : Mem)  : Option (Int32 × Mem) :=
  (fX7_finds s (0 : Int32)).bind (fun y2 => some ((y2.1, y2.2)))
set_option maxRecDepth 4000 in
theorem jgX7_both_21 {X : Scr} (d : Nat) (s : Mem)  {r : (Int32 × Mem)} {w : Option Value} {s' : Mem} (hh : gX7_both_21 s = some r) (hk : w = some (.int r.1) ∧ r.2 = s') : J X MX7_both (d + 6) 21 [some (.ref 19), none, none] [] s w s' := by
  unfold gX7_both_21 at hh
  refine J_aload_n (pc := 21) dX7_both_21 rfl ?_
  refine J_iconst (pc := 22) dX7_both_22 ci_0 ?_
  obtain ⟨y2, hy2, hh⟩ := bd_some hh
  refine J_callVi (pc := 23) (M' := MX7_finds) (a := 19) (rest := []) (As := [.int (0 : Int32)]) (L0 := [some (.ref 19), some (.int (0 : Int32))]) okX7_finds ovX7_finds mlX7_158 clX7 so19 rfl rfl (Nat.le_of_ble_eq_true rfl) dX7_both_23 rfl (Nat.le_of_ble_eq_true rfl) (jX7_finds (X := X) (d + 5) s (0 : Int32) hy2) ?_
  obtain rfl := Option.some.inj hh
  obtain ⟨rfl, rfl⟩ := hk
  exact J_ret (w := some (.int y2.1)) ⟨dX7_both_26, _, rfl, rfl⟩
def fX7_both (s : Mem) (p0 : Int32) (p1 : Int32) : Option (Int32 × Mem) :=
  (fX7_isPupil s p0).bind (fun y1 => if y1 = (0 : Int32) then gX7_both_21 s else (fX7_isPupil s p1).bind (fun y3 => if y3 = (0 : Int32) then gX7_both_21 s else if p0 = p1 then gX7_both_21 s else (fX7_busyBut s p0 (-1 : Int32)).bind (fun y4 => (fX7_busyBut s p1 (-1 : Int32)).bind (fun y5 => some ((y4 &&& y5, s))))))
set_option maxRecDepth 4000 in
theorem jjX7_both {X : Scr} (d : Nat) (s : Mem) (p0 : Int32) (p1 : Int32) {r : (Int32 × Mem)} {w : Option Value} {s' : Mem} (hh : fX7_both s p0 p1 = some r) (hk : w = some (.int r.1) ∧ r.2 = s') : J X MX7_both (d + 6) 0 [some (.ref 19), some (.int p0), some (.int p1)] [] s w s' := by
  unfold fX7_both at hh
  refine J_aload_n (pc := 0) dX7_both_0 rfl ?_
  refine J_iload_n (pc := 1) dX7_both_1 rfl ?_
  obtain ⟨y1, hy1, hh⟩ := bd_some hh
  refine J_callVi (pc := 2) (M' := MX7_isPupil) (a := 19) (rest := []) (As := [.int p0]) (L0 := [some (.ref 19), some (.int p0)]) okX7_isPupil ovX7_isPupil mlX7_196 clX7 so19 rfl rfl (Nat.le_of_ble_eq_true rfl) dX7_both_2 rfl (Nat.le_of_ble_eq_true rfl) (jX7_isPupil (X := X) (d + 4) s p0 hy1) ?_
  refine J_if_eq (pc := 5) 21 dX7_both_5 (by decide) (fun c8 => ?_) (fun c8 => ?_)
  · replace hh := (if_pos c8).symm.trans hh
    refine J_drop 1 (L' := [some (.ref 19), none, some (.int p1)]) rfl ?_
    refine J_drop 2 (L' := [some (.ref 19), none, none]) rfl ?_
    exact jgX7_both_21 d s hh hk
  · replace hh := (if_neg c8).symm.trans hh
    refine J_aload_n (pc := 8) dX7_both_8 rfl ?_
    refine J_iload_n (pc := 9) dX7_both_9 rfl ?_
    obtain ⟨y3, hy3, hh⟩ := bd_some hh
    refine J_callVi (pc := 10) (M' := MX7_isPupil) (a := 19) (rest := []) (As := [.int p1]) (L0 := [some (.ref 19), some (.int p1)]) okX7_isPupil ovX7_isPupil mlX7_196 clX7 so19 rfl rfl (Nat.le_of_ble_eq_true rfl) dX7_both_10 rfl (Nat.le_of_ble_eq_true rfl) (jX7_isPupil (X := X) (d + 4) s p1 hy3) ?_
    refine J_if_eq (pc := 13) 21 dX7_both_13 (by decide) (fun c7 => ?_) (fun c7 => ?_)
    · replace hh := (if_pos c7).symm.trans hh
      refine J_drop 1 (L' := [some (.ref 19), none, some (.int p1)]) rfl ?_
      refine J_drop 2 (L' := [some (.ref 19), none, none]) rfl ?_
      exact jgX7_both_21 d s hh hk
    · replace hh := (if_neg c7).symm.trans hh
      refine J_iload_n (pc := 16) dX7_both_16 rfl ?_
      refine J_iload_n (pc := 17) dX7_both_17 rfl ?_
      refine J_icmp_ne (pc := 18) 27 dX7_both_18 (by decide) (fun c6 => ?_) (fun c6 => ?_)
      · replace hh := (if_neg c6).symm.trans hh
        refine J_aload_n (pc := 27) dX7_both_27 rfl ?_
        refine J_iload_n (pc := 28) dX7_both_28 rfl ?_
        refine J_iconst (pc := 29) dX7_both_29 ci_m1 ?_
        obtain ⟨y4, hy4, hh⟩ := bd_some hh
        refine J_callVi (pc := 30) (M' := MX7_busyBut) (a := 19) (rest := []) (As := [.int p0, .int (-1 : Int32)]) (L0 := [some (.ref 19), some (.int p0), some (.int (-1 : Int32)), none, none]) okX7_busyBut ovX7_busyBut mlX7_121 clX7 so19 rfl rfl (Nat.le_of_ble_eq_true rfl) dX7_both_30 rfl (Nat.le_of_ble_eq_true rfl) (jX7_busyBut (X := X) d s p0 (-1 : Int32) hy4) ?_
        refine J_aload_n (pc := 33) dX7_both_33 rfl ?_
        refine J_iload_n (pc := 34) dX7_both_34 rfl ?_
        refine J_iconst (pc := 35) dX7_both_35 ci_m1 ?_
        obtain ⟨y5, hy5, hh⟩ := bd_some hh
        refine J_callVi (pc := 36) (M' := MX7_busyBut) (a := 19) (rest := [.int y4]) (As := [.int p1, .int (-1 : Int32)]) (L0 := [some (.ref 19), some (.int p1), some (.int (-1 : Int32)), none, none]) okX7_busyBut ovX7_busyBut mlX7_121 clX7 so19 rfl rfl (Nat.le_of_ble_eq_true rfl) dX7_both_36 rfl (Nat.le_of_ble_eq_true rfl) (jX7_busyBut (X := X) d s p1 (-1 : Int32) hy5) ?_
        refine J_iand (pc := 39) dX7_both_39 ?_
        obtain rfl := Option.some.inj hh
        obtain ⟨rfl, rfl⟩ := hk
        exact J_ret (w := some (.int (y4 &&& y5))) ⟨dX7_both_40, _, rfl, rfl⟩
      · replace hh := (if_pos c6).symm.trans hh
        refine J_drop 1 (L' := [some (.ref 19), none, some (.int p1)]) rfl ?_
        refine J_drop 2 (L' := [some (.ref 19), none, none]) rfl ?_
        exact jgX7_both_21 d s hh hk
theorem jX7_both {X : Scr} (d : Nat) (s : Mem) (p0 : Int32) (p1 : Int32) {r : (Int32 × Mem)} (hh : fX7_both s p0 p1 = some r) : J X MX7_both (d + 6) 0 [some (.ref 19), some (.int p0), some (.int p1)] [] s (some (.int r.1)) r.2 := jjX7_both d s p0 p1 hh ⟨rfl, rfl⟩
theorem dX7_put_0 : decode cX7_put 0 = .ok (.iload_n 3, 1) := by decide +kernel
theorem dX7_put_1 : decode cX7_put 1 = .ok (.i2l, 1) := by decide +kernel
theorem dX7_put_2 : decode cX7_put 2 = .ok (.lconst 0, 1) := by decide +kernel
theorem dX7_put_3 : decode cX7_put 3 = .ok (.ldc2_w 178, 3) := by decide +kernel
theorem dX7_put_6 : decode cX7_put 6 = .ok (.invokestatic 63, 3) := by decide +kernel
theorem dX7_put_9 : decode cX7_put 9 = .ok (.ifCond .ne 9, 3) := by decide +kernel
theorem dX7_put_12 : decode cX7_put 12 = .ok (.aload_n 0, 1) := by decide +kernel
theorem dX7_put_13 : decode cX7_put 13 = .ok (.iconst 0, 1) := by decide +kernel
theorem dX7_put_14 : decode cX7_put 14 = .ok (.invokevirtual 158, 3) := by decide +kernel
theorem dX7_put_17 : decode cX7_put 17 = .ok (.ireturn, 1) := by decide +kernel
theorem dX7_put_18 : decode cX7_put 18 = .ok (.aload_n 0, 1) := by decide +kernel
theorem dX7_put_19 : decode cX7_put 19 = .ok (.iload_n 1, 1) := by decide +kernel
theorem dX7_put_20 : decode cX7_put 20 = .ok (.iload_n 2, 1) := by decide +kernel
theorem dX7_put_21 : decode cX7_put 21 = .ok (.invokevirtual 217, 3) := by decide +kernel
theorem dX7_put_24 : decode cX7_put 24 = .ok (.istore 4, 2) := by decide +kernel
theorem dX7_put_26 : decode cX7_put 26 = .ok (.iload 4, 2) := by decide +kernel
theorem dX7_put_28 : decode cX7_put 28 = .ok (.ifCond .lt 10, 3) := by decide +kernel
theorem dX7_put_31 : decode cX7_put 31 = .ok (.aload_n 0, 1) := by decide +kernel
theorem dX7_put_32 : decode cX7_put 32 = .ok (.iload 4, 2) := by decide +kernel
theorem dX7_put_34 : decode cX7_put 34 = .ok (.invokevirtual 158, 3) := by decide +kernel
theorem dX7_put_37 : decode cX7_put 37 = .ok (.ireturn, 1) := by decide +kernel
theorem dX7_put_38 : decode cX7_put 38 = .ok (.aload_n 0, 1) := by decide +kernel
theorem dX7_put_39 : decode cX7_put 39 = .ok (.iload_n 1, 1) := by decide +kernel
theorem dX7_put_40 : decode cX7_put 40 = .ok (.iload_n 2, 1) := by decide +kernel
theorem dX7_put_41 : decode cX7_put 41 = .ok (.iload_n 3, 1) := by decide +kernel
theorem dX7_put_42 : decode cX7_put 42 = .ok (.invokevirtual 214, 3) := by decide +kernel
theorem dX7_put_45 : decode cX7_put 45 = .ok (.ifCond .ne 9, 3) := by decide +kernel
theorem dX7_put_48 : decode cX7_put 48 = .ok (.aload_n 0, 1) := by decide +kernel
theorem dX7_put_49 : decode cX7_put 49 = .ok (.iconst 4, 1) := by decide +kernel
theorem dX7_put_50 : decode cX7_put 50 = .ok (.invokevirtual 158, 3) := by decide +kernel
theorem dX7_put_53 : decode cX7_put 53 = .ok (.ireturn, 1) := by decide +kernel
theorem dX7_put_54 : decode cX7_put 54 = .ok (.aload_n 0, 1) := by decide +kernel
theorem dX7_put_55 : decode cX7_put 55 = .ok (.invokevirtual 161, 3) := by decide +kernel
theorem dX7_put_58 : decode cX7_put 58 = .ok (.aload_n 0, 1) := by decide +kernel
theorem dX7_put_59 : decode cX7_put 59 = .ok (.iload_n 1, 1) := by decide +kernel
theorem dX7_put_60 : decode cX7_put 60 = .ok (.iload_n 2, 1) := by decide +kernel
theorem dX7_put_61 : decode cX7_put 61 = .ok (.invokevirtual 105, 3) := by decide +kernel
theorem dX7_put_64 : decode cX7_put 64 = .ok (.istore 5, 2) := by decide +kernel
theorem dX7_put_66 : decode cX7_put 66 = .ok (.aload_n 0, 1) := by decide +kernel
theorem dX7_put_67 : decode cX7_put 67 = .ok (.iload_n 1, 1) := by decide +kernel
theorem dX7_put_68 : decode cX7_put 68 = .ok (.iload_n 2, 1) := by decide +kernel
theorem dX7_put_69 : decode cX7_put 69 = .ok (.iload_n 3, 1) := by decide +kernel
theorem dX7_put_70 : decode cX7_put 70 = .ok (.invokevirtual 174, 3) := by decide +kernel
theorem dX7_put_73 : decode cX7_put 73 = .ok (.aload_n 0, 1) := by decide +kernel
theorem dX7_put_74 : decode cX7_put 74 = .ok (.invokevirtual 168, 3) := by decide +kernel
theorem dX7_put_77 : decode cX7_put 77 = .ok (.iload 5, 2) := by decide +kernel
theorem dX7_put_79 : decode cX7_put 79 = .ok (.ireturn, 1) := by decide +kernel
def fX7_put (s : Mem) (p0 : Int32) (p1 : Int32) (p2 : Int32) : Option (Int32 × Mem) :=
  (fX7_in (p2.toInt64) (0 : Int64) (7 : Int64)).bind (fun y1 => if y1 = (0 : Int32) then (fX7_finds s (0 : Int32)).bind (fun y12 => some ((y12.1, y12.2))) else (fX7_whyNot s p0 p1).bind (fun y2 => if y2 < (0 : Int32) then (fX7_isFit s p0 p1 p2).bind (fun y3 => if y3 = (0 : Int32) then (fX7_finds s (4 : Int32)).bind (fun y8 => some ((y8.1, y8.2))) else (fX7_laysAside s).bind (fun y4 => (fX7_triple y4 p0 p1).bind (fun y5 => (fX7_puts y4 p0 p1 p2).bind (fun y6 => (fX7_changes y6).bind (fun y7 => some ((y5, y7))))))) else (fX7_finds s y2).bind (fun y10 => some ((y10.1, y10.2)))))
set_option maxRecDepth 4000 in
theorem jjX7_put {X : Scr} (d : Nat) (s : Mem) (p0 : Int32) (p1 : Int32) (p2 : Int32) {r : (Int32 × Mem)} {w : Option Value} {s' : Mem} (hh : fX7_put s p0 p1 p2 = some r) (hk : w = some (.int r.1) ∧ r.2 = s') : J X MX7_put (d + 8) 0 [some (.ref 19), some (.int p0), some (.int p1), some (.int p2), none, none] [] s w s' := by
  unfold fX7_put at hh
  refine J_iload_n (pc := 0) dX7_put_0 rfl ?_
  refine J_i2l (pc := 1) dX7_put_1 ?_
  refine J_lconst (pc := 2) (v := 0) dX7_put_2 rfl ?_
  refine J_ldc2 (pc := 3) klX7_178 dX7_put_3 ?_
  obtain ⟨y1, hy1, hh⟩ := bd_some hh
  refine J_callSi (pc := 6) (M' := MX7_in) (rest := []) (As := [.long (p2.toInt64), .long (0 : Int64), .long (7 : Int64)]) (L0 := [some (.long (p2.toInt64)), none, some (.long (0 : Int64)), none, some (.long (7 : Int64)), none]) okX7_in osX7_in mlX7_63 rfl rfl (Nat.le_of_ble_eq_true rfl) dX7_put_6 rfl (Nat.le_of_ble_eq_true rfl) (jX7_in (X := X) (d + 7) s (p2.toInt64) (0 : Int64) (7 : Int64) hy1) ?_
  refine J_if_ne (pc := 9) 18 dX7_put_9 (by decide) (fun c13 => ?_) (fun c13 => ?_)
  · replace hh := (if_neg c13).symm.trans hh
    refine J_aload_n (pc := 18) dX7_put_18 rfl ?_
    refine J_iload_n (pc := 19) dX7_put_19 rfl ?_
    refine J_iload_n (pc := 20) dX7_put_20 rfl ?_
    obtain ⟨y2, hy2, hh⟩ := bd_some hh
    refine J_callVi (pc := 21) (M' := MX7_whyNot) (a := 19) (rest := []) (As := [.int p0, .int p1]) (L0 := [some (.ref 19), some (.int p0), some (.int p1)]) okX7_whyNot ovX7_whyNot mlX7_217 clX7 so19 rfl rfl (Nat.le_of_ble_eq_true rfl) dX7_put_21 rfl (Nat.le_of_ble_eq_true rfl) (jX7_whyNot (X := X) (d + 5) s p0 p1 hy2) ?_
    refine J_istore (pc := 24) (L' := [some (.ref 19), some (.int p0), some (.int p1), some (.int p2), some (.int y2), none]) dX7_put_24 rfl (Nat.le_of_ble_eq_true rfl) rfl ?_
    refine J_iload (pc := 26) dX7_put_26 rfl ?_
    refine J_if_lt (pc := 28) 38 dX7_put_28 (by decide) (fun c11 => ?_) (fun c11 => ?_)
    · replace hh := (if_pos c11).symm.trans hh
      refine J_aload_n (pc := 38) dX7_put_38 rfl ?_
      refine J_iload_n (pc := 39) dX7_put_39 rfl ?_
      refine J_iload_n (pc := 40) dX7_put_40 rfl ?_
      refine J_iload_n (pc := 41) dX7_put_41 rfl ?_
      obtain ⟨y3, hy3, hh⟩ := bd_some hh
      refine J_callVi (pc := 42) (M' := MX7_isFit) (a := 19) (rest := []) (As := [.int p0, .int p1, .int p2]) (L0 := [some (.ref 19), some (.int p0), some (.int p1), some (.int p2)]) okX7_isFit ovX7_isFit mlX7_214 clX7 so19 rfl rfl (Nat.le_of_ble_eq_true rfl) dX7_put_42 rfl (Nat.le_of_ble_eq_true rfl) (jX7_isFit (X := X) d s p0 p1 p2 hy3) ?_
      refine J_if_ne (pc := 45) 54 dX7_put_45 (by decide) (fun c9 => ?_) (fun c9 => ?_)
      · replace hh := (if_neg c9).symm.trans hh
        refine J_aload_n (pc := 54) dX7_put_54 rfl ?_
        obtain ⟨y4, hy4, hh⟩ := bd_some hh
        refine J_callV0 (pc := 55) (M' := MX7_laysAside) (a := 19) (rest := []) (As := []) (L0 := [some (.ref 19), none]) okX7_laysAside ovX7_laysAside mlX7_161 clX7 so19 rfl rfl (Nat.le_of_ble_eq_true rfl) dX7_put_55 rfl (Nat.le_of_ble_eq_true rfl) (jX7_laysAside (X := X) (d + 7) s hy4) ?_
        refine J_aload_n (pc := 58) dX7_put_58 rfl ?_
        refine J_iload_n (pc := 59) dX7_put_59 rfl ?_
        refine J_iload_n (pc := 60) dX7_put_60 rfl ?_
        obtain ⟨y5, hy5, hh⟩ := bd_some hh
        refine J_callVi (pc := 61) (M' := MX7_triple) (a := 19) (rest := []) (As := [.int p0, .int p1]) (L0 := [some (.ref 19), some (.int p0), some (.int p1)]) okX7_triple ovX7_triple mlX7_105 clX7 so19 rfl rfl (Nat.le_of_ble_eq_true rfl) dX7_put_61 rfl (Nat.le_of_ble_eq_true rfl) (jX7_triple (X := X) (d + 7) y4 p0 p1 hy5) ?_
        refine J_istore (pc := 64) (L' := [some (.ref 19), some (.int p0), some (.int p1), some (.int p2), some (.int y2), some (.int y5)]) dX7_put_64 rfl (Nat.le_of_ble_eq_true rfl) rfl ?_
        refine J_aload_n (pc := 66) dX7_put_66 rfl ?_
        refine J_iload_n (pc := 67) dX7_put_67 rfl ?_
        refine J_iload_n (pc := 68) dX7_put_68 rfl ?_
        refine J_iload_n (pc := 69) dX7_put_69 rfl ?_
        obtain ⟨y6, hy6, hh⟩ := bd_some hh
        refine J_callV0 (pc := 70) (M' := MX7_puts) (a := 19) (rest := []) (As := [.int p0, .int p1, .int p2]) (L0 := [some (.ref 19), some (.int p0), some (.int p1), some (.int p2)]) okX7_puts ovX7_puts mlX7_174 clX7 so19 rfl rfl (Nat.le_of_ble_eq_true rfl) dX7_put_70 rfl (Nat.le_of_ble_eq_true rfl) (jX7_puts (X := X) (d + 7) y4 p0 p1 p2 hy6) ?_
        refine J_aload_n (pc := 73) dX7_put_73 rfl ?_
        obtain ⟨y7, hy7, hh⟩ := bd_some hh
        refine J_callV0 (pc := 74) (M' := MX7_changes) (a := 19) (rest := []) (As := []) (L0 := [some (.ref 19), none, none]) okX7_changes ovX7_changes mlX7_168 clX7 so19 rfl rfl (Nat.le_of_ble_eq_true rfl) dX7_put_74 rfl (Nat.le_of_ble_eq_true rfl) (jX7_changes (X := X) (d + 7) y6 hy7) ?_
        refine J_iload (pc := 77) dX7_put_77 rfl ?_
        obtain rfl := Option.some.inj hh
        obtain ⟨rfl, rfl⟩ := hk
        exact J_ret (w := some (.int y5)) ⟨dX7_put_79, _, rfl, rfl⟩
      · replace hh := (if_pos c9).symm.trans hh
        refine J_aload_n (pc := 48) dX7_put_48 rfl ?_
        refine J_iconst (pc := 49) dX7_put_49 ci_4 ?_
        obtain ⟨y8, hy8, hh⟩ := bd_some hh
        refine J_callVi (pc := 50) (M' := MX7_finds) (a := 19) (rest := []) (As := [.int (4 : Int32)]) (L0 := [some (.ref 19), some (.int (4 : Int32))]) okX7_finds ovX7_finds mlX7_158 clX7 so19 rfl rfl (Nat.le_of_ble_eq_true rfl) dX7_put_50 rfl (Nat.le_of_ble_eq_true rfl) (jX7_finds (X := X) (d + 7) s (4 : Int32) hy8) ?_
        obtain rfl := Option.some.inj hh
        obtain ⟨rfl, rfl⟩ := hk
        exact J_ret (w := some (.int y8.1)) ⟨dX7_put_53, _, rfl, rfl⟩
    · replace hh := (if_neg c11).symm.trans hh
      refine J_aload_n (pc := 31) dX7_put_31 rfl ?_
      refine J_iload (pc := 32) dX7_put_32 rfl ?_
      obtain ⟨y10, hy10, hh⟩ := bd_some hh
      refine J_callVi (pc := 34) (M' := MX7_finds) (a := 19) (rest := []) (As := [.int y2]) (L0 := [some (.ref 19), some (.int y2)]) okX7_finds ovX7_finds mlX7_158 clX7 so19 rfl rfl (Nat.le_of_ble_eq_true rfl) dX7_put_34 rfl (Nat.le_of_ble_eq_true rfl) (jX7_finds (X := X) (d + 7) s y2 hy10) ?_
      obtain rfl := Option.some.inj hh
      obtain ⟨rfl, rfl⟩ := hk
      exact J_ret (w := some (.int y10.1)) ⟨dX7_put_37, _, rfl, rfl⟩
  · replace hh := (if_pos c13).symm.trans hh
    refine J_aload_n (pc := 12) dX7_put_12 rfl ?_
    refine J_iconst (pc := 13) dX7_put_13 ci_0 ?_
    obtain ⟨y12, hy12, hh⟩ := bd_some hh
    refine J_callVi (pc := 14) (M' := MX7_finds) (a := 19) (rest := []) (As := [.int (0 : Int32)]) (L0 := [some (.ref 19), some (.int (0 : Int32))]) okX7_finds ovX7_finds mlX7_158 clX7 so19 rfl rfl (Nat.le_of_ble_eq_true rfl) dX7_put_14 rfl (Nat.le_of_ble_eq_true rfl) (jX7_finds (X := X) (d + 7) s (0 : Int32) hy12) ?_
    obtain rfl := Option.some.inj hh
    obtain ⟨rfl, rfl⟩ := hk
    exact J_ret (w := some (.int y12.1)) ⟨dX7_put_17, _, rfl, rfl⟩
theorem jX7_put {X : Scr} (d : Nat) (s : Mem) (p0 : Int32) (p1 : Int32) (p2 : Int32) {r : (Int32 × Mem)} (hh : fX7_put s p0 p1 p2 = some r) : J X MX7_put (d + 8) 0 [some (.ref 19), some (.int p0), some (.int p1), some (.int p2), none, none] [] s (some (.int r.1)) r.2 := jjX7_put d s p0 p1 p2 hh ⟨rfl, rfl⟩
theorem dX7_out_0 : decode cX7_out 0 = .ok (.aload_n 0, 1) := by decide +kernel
theorem dX7_out_1 : decode cX7_out 1 = .ok (.iload_n 1, 1) := by decide +kernel
theorem dX7_out_2 : decode cX7_out 2 = .ok (.invokevirtual 196, 3) := by decide +kernel
theorem dX7_out_5 : decode cX7_out 5 = .ok (.ifCond .eq 10, 3) := by decide +kernel
theorem dX7_out_8 : decode cX7_out 8 = .ok (.iload_n 2, 1) := by decide +kernel
theorem dX7_out_9 : decode cX7_out 9 = .ok (.invokestatic 139, 3) := by decide +kernel
theorem dX7_out_12 : decode cX7_out 12 = .ok (.ifCond .ne 9, 3) := by decide +kernel
theorem dX7_out_15 : decode cX7_out 15 = .ok (.aload_n 0, 1) := by decide +kernel
theorem dX7_out_16 : decode cX7_out 16 = .ok (.iconst 0, 1) := by decide +kernel
theorem dX7_out_17 : decode cX7_out 17 = .ok (.invokevirtual 158, 3) := by decide +kernel
theorem dX7_out_20 : decode cX7_out 20 = .ok (.ireturn, 1) := by decide +kernel
theorem dX7_out_21 : decode cX7_out 21 = .ok (.aload_n 0, 1) := by decide +kernel
theorem dX7_out_22 : decode cX7_out 22 = .ok (.iload_n 1, 1) := by decide +kernel
theorem dX7_out_23 : decode cX7_out 23 = .ok (.iload_n 2, 1) := by decide +kernel
theorem dX7_out_24 : decode cX7_out 24 = .ok (.invokevirtual 105, 3) := by decide +kernel
theorem dX7_out_27 : decode cX7_out 27 = .ok (.istore_n 3, 1) := by decide +kernel
theorem dX7_out_28 : decode cX7_out 28 = .ok (.iload_n 3, 1) := by decide +kernel
theorem dX7_out_29 : decode cX7_out 29 = .ok (.ifCond .ge 9, 3) := by decide +kernel
theorem dX7_out_32 : decode cX7_out 32 = .ok (.aload_n 0, 1) := by decide +kernel
theorem dX7_out_33 : decode cX7_out 33 = .ok (.iconst 3, 1) := by decide +kernel
theorem dX7_out_34 : decode cX7_out 34 = .ok (.invokevirtual 158, 3) := by decide +kernel
theorem dX7_out_37 : decode cX7_out 37 = .ok (.ireturn, 1) := by decide +kernel
theorem dX7_out_38 : decode cX7_out 38 = .ok (.aload_n 0, 1) := by decide +kernel
theorem dX7_out_39 : decode cX7_out 39 = .ok (.invokevirtual 161, 3) := by decide +kernel
theorem dX7_out_42 : decode cX7_out 42 = .ok (.aload_n 0, 1) := by decide +kernel
theorem dX7_out_43 : decode cX7_out 43 = .ok (.iload_n 1, 1) := by decide +kernel
theorem dX7_out_44 : decode cX7_out 44 = .ok (.iload_n 2, 1) := by decide +kernel
theorem dX7_out_45 : decode cX7_out 45 = .ok (.iconst (-1), 1) := by decide +kernel
theorem dX7_out_46 : decode cX7_out 46 = .ok (.invokevirtual 174, 3) := by decide +kernel
theorem dX7_out_49 : decode cX7_out 49 = .ok (.aload_n 0, 1) := by decide +kernel
theorem dX7_out_50 : decode cX7_out 50 = .ok (.invokevirtual 168, 3) := by decide +kernel
theorem dX7_out_53 : decode cX7_out 53 = .ok (.iload_n 3, 1) := by decide +kernel
theorem dX7_out_54 : decode cX7_out 54 = .ok (.ireturn, 1) := by decide +kernel
def gX7_out_15 (s : Mem)  : Option (Int32 × Mem) :=
  (fX7_finds s (0 : Int32)).bind (fun y2 => some ((y2.1, y2.2)))
set_option maxRecDepth 4000 in
theorem jgX7_out_15 {X : Scr} (d : Nat) (s : Mem)  {r : (Int32 × Mem)} {w : Option Value} {s' : Mem} (hh : gX7_out_15 s = some r) (hk : w = some (.int r.1) ∧ r.2 = s') : J X MX7_out (d + 2) 15 [some (.ref 19), none, none, none] [] s w s' := by
  unfold gX7_out_15 at hh
  refine J_aload_n (pc := 15) dX7_out_15 rfl ?_
  refine J_iconst (pc := 16) dX7_out_16 ci_0 ?_
  obtain ⟨y2, hy2, hh⟩ := bd_some hh
  refine J_callVi (pc := 17) (M' := MX7_finds) (a := 19) (rest := []) (As := [.int (0 : Int32)]) (L0 := [some (.ref 19), some (.int (0 : Int32))]) okX7_finds ovX7_finds mlX7_158 clX7 so19 rfl rfl (Nat.le_of_ble_eq_true rfl) dX7_out_17 rfl (Nat.le_of_ble_eq_true rfl) (jX7_finds (X := X) (d + 1) s (0 : Int32) hy2) ?_
  obtain rfl := Option.some.inj hh
  obtain ⟨rfl, rfl⟩ := hk
  exact J_ret (w := some (.int y2.1)) ⟨dX7_out_20, _, rfl, rfl⟩
def fX7_out (s : Mem) (p0 : Int32) (p1 : Int32) : Option (Int32 × Mem) :=
  (fX7_isPupil s p0).bind (fun y1 => if y1 = (0 : Int32) then gX7_out_15 s else (fX7_isCourse p1).bind (fun y3 => if y3 = (0 : Int32) then gX7_out_15 s else (fX7_triple s p0 p1).bind (fun y4 => if (0 : Int32) ≤ y4 then (fX7_laysAside s).bind (fun y5 => (fX7_puts y5 p0 p1 (-1 : Int32)).bind (fun y6 => (fX7_changes y6).bind (fun y7 => some ((y4, y7))))) else (fX7_finds s (3 : Int32)).bind (fun y8 => some ((y8.1, y8.2))))))
set_option maxRecDepth 4000 in
theorem jjX7_out {X : Scr} (d : Nat) (s : Mem) (p0 : Int32) (p1 : Int32) {r : (Int32 × Mem)} {w : Option Value} {s' : Mem} (hh : fX7_out s p0 p1 = some r) (hk : w = some (.int r.1) ∧ r.2 = s') : J X MX7_out (d + 2) 0 [some (.ref 19), some (.int p0), some (.int p1), none] [] s w s' := by
  unfold fX7_out at hh
  refine J_aload_n (pc := 0) dX7_out_0 rfl ?_
  refine J_iload_n (pc := 1) dX7_out_1 rfl ?_
  obtain ⟨y1, hy1, hh⟩ := bd_some hh
  refine J_callVi (pc := 2) (M' := MX7_isPupil) (a := 19) (rest := []) (As := [.int p0]) (L0 := [some (.ref 19), some (.int p0)]) okX7_isPupil ovX7_isPupil mlX7_196 clX7 so19 rfl rfl (Nat.le_of_ble_eq_true rfl) dX7_out_2 rfl (Nat.le_of_ble_eq_true rfl) (jX7_isPupil (X := X) d s p0 hy1) ?_
  refine J_if_eq (pc := 5) 15 dX7_out_5 (by decide) (fun c11 => ?_) (fun c11 => ?_)
  · replace hh := (if_pos c11).symm.trans hh
    refine J_drop 1 (L' := [some (.ref 19), none, some (.int p1), none]) rfl ?_
    refine J_drop 2 (L' := [some (.ref 19), none, none, none]) rfl ?_
    exact jgX7_out_15 d s hh hk
  · replace hh := (if_neg c11).symm.trans hh
    refine J_iload_n (pc := 8) dX7_out_8 rfl ?_
    obtain ⟨y3, hy3, hh⟩ := bd_some hh
    refine J_callSi (pc := 9) (M' := MX7_isCourse) (rest := []) (As := [.int p1]) (L0 := [some (.int p1)]) okX7_isCourse osX7_isCourse mlX7_139 rfl rfl (Nat.le_of_ble_eq_true rfl) dX7_out_9 rfl (Nat.le_of_ble_eq_true rfl) (jX7_isCourse (X := X) d s p1 hy3) ?_
    refine J_if_ne (pc := 12) 21 dX7_out_12 (by decide) (fun c10 => ?_) (fun c10 => ?_)
    · replace hh := (if_neg c10).symm.trans hh
      refine J_aload_n (pc := 21) dX7_out_21 rfl ?_
      refine J_iload_n (pc := 22) dX7_out_22 rfl ?_
      refine J_iload_n (pc := 23) dX7_out_23 rfl ?_
      obtain ⟨y4, hy4, hh⟩ := bd_some hh
      refine J_callVi (pc := 24) (M' := MX7_triple) (a := 19) (rest := []) (As := [.int p0, .int p1]) (L0 := [some (.ref 19), some (.int p0), some (.int p1)]) okX7_triple ovX7_triple mlX7_105 clX7 so19 rfl rfl (Nat.le_of_ble_eq_true rfl) dX7_out_24 rfl (Nat.le_of_ble_eq_true rfl) (jX7_triple (X := X) (d + 1) s p0 p1 hy4) ?_
      refine J_istore_n (pc := 27) (L' := [some (.ref 19), some (.int p0), some (.int p1), some (.int y4)]) dX7_out_27 rfl (Nat.le_of_ble_eq_true rfl) rfl ?_
      refine J_iload_n (pc := 28) dX7_out_28 rfl ?_
      refine J_if_ge (pc := 29) 38 dX7_out_29 (by decide) (fun c9 => ?_) (fun c9 => ?_)
      · replace hh := (if_pos c9).symm.trans hh
        refine J_aload_n (pc := 38) dX7_out_38 rfl ?_
        obtain ⟨y5, hy5, hh⟩ := bd_some hh
        refine J_callV0 (pc := 39) (M' := MX7_laysAside) (a := 19) (rest := []) (As := []) (L0 := [some (.ref 19), none]) okX7_laysAside ovX7_laysAside mlX7_161 clX7 so19 rfl rfl (Nat.le_of_ble_eq_true rfl) dX7_out_39 rfl (Nat.le_of_ble_eq_true rfl) (jX7_laysAside (X := X) (d + 1) s hy5) ?_
        refine J_aload_n (pc := 42) dX7_out_42 rfl ?_
        refine J_iload_n (pc := 43) dX7_out_43 rfl ?_
        refine J_iload_n (pc := 44) dX7_out_44 rfl ?_
        refine J_iconst (pc := 45) dX7_out_45 ci_m1 ?_
        obtain ⟨y6, hy6, hh⟩ := bd_some hh
        refine J_callV0 (pc := 46) (M' := MX7_puts) (a := 19) (rest := []) (As := [.int p0, .int p1, .int (-1 : Int32)]) (L0 := [some (.ref 19), some (.int p0), some (.int p1), some (.int (-1 : Int32))]) okX7_puts ovX7_puts mlX7_174 clX7 so19 rfl rfl (Nat.le_of_ble_eq_true rfl) dX7_out_46 rfl (Nat.le_of_ble_eq_true rfl) (jX7_puts (X := X) (d + 1) y5 p0 p1 (-1 : Int32) hy6) ?_
        refine J_aload_n (pc := 49) dX7_out_49 rfl ?_
        obtain ⟨y7, hy7, hh⟩ := bd_some hh
        refine J_callV0 (pc := 50) (M' := MX7_changes) (a := 19) (rest := []) (As := []) (L0 := [some (.ref 19), none, none]) okX7_changes ovX7_changes mlX7_168 clX7 so19 rfl rfl (Nat.le_of_ble_eq_true rfl) dX7_out_50 rfl (Nat.le_of_ble_eq_true rfl) (jX7_changes (X := X) (d + 1) y6 hy7) ?_
        refine J_iload_n (pc := 53) dX7_out_53 rfl ?_
        obtain rfl := Option.some.inj hh
        obtain ⟨rfl, rfl⟩ := hk
        exact J_ret (w := some (.int y4)) ⟨dX7_out_54, _, rfl, rfl⟩
      · replace hh := (if_neg c9).symm.trans hh
        refine J_aload_n (pc := 32) dX7_out_32 rfl ?_
        refine J_iconst (pc := 33) dX7_out_33 ci_3 ?_
        obtain ⟨y8, hy8, hh⟩ := bd_some hh
        refine J_callVi (pc := 34) (M' := MX7_finds) (a := 19) (rest := []) (As := [.int (3 : Int32)]) (L0 := [some (.ref 19), some (.int (3 : Int32))]) okX7_finds ovX7_finds mlX7_158 clX7 so19 rfl rfl (Nat.le_of_ble_eq_true rfl) dX7_out_34 rfl (Nat.le_of_ble_eq_true rfl) (jX7_finds (X := X) (d + 1) s (3 : Int32) hy8) ?_
        obtain rfl := Option.some.inj hh
        obtain ⟨rfl, rfl⟩ := hk
        exact J_ret (w := some (.int y8.1)) ⟨dX7_out_37, _, rfl, rfl⟩
    · replace hh := (if_pos c10).symm.trans hh
      refine J_drop 1 (L' := [some (.ref 19), none, some (.int p1), none]) rfl ?_
      refine J_drop 2 (L' := [some (.ref 19), none, none, none]) rfl ?_
      exact jgX7_out_15 d s hh hk
theorem jX7_out {X : Scr} (d : Nat) (s : Mem) (p0 : Int32) (p1 : Int32) {r : (Int32 × Mem)} (hh : fX7_out s p0 p1 = some r) : J X MX7_out (d + 2) 0 [some (.ref 19), some (.int p0), some (.int p1), none] [] s (some (.int r.1)) r.2 := jjX7_out d s p0 p1 hh ⟨rfl, rfl⟩
theorem dX7_markOf_0 : decode cX7_markOf 0 = .ok (.iload 4, 2) := by decide +kernel
theorem dX7_markOf_2 : decode cX7_markOf 2 = .ok (.iconst 2, 1) := by decide +kernel
theorem dX7_markOf_3 : decode cX7_markOf 3 = .ok (.if_icmp .ne 7, 3) := by decide +kernel
theorem dX7_markOf_6 : decode cX7_markOf 6 = .ok (.iconst 0, 1) := by decide +kernel
theorem dX7_markOf_7 : decode cX7_markOf 7 = .ok (.goto 5, 3) := by decide +kernel
theorem dX7_markOf_10 : decode cX7_markOf 10 = .ok (.bipush 99, 2) := by decide +kernel
theorem dX7_markOf_12 : decode cX7_markOf 12 = .ok (.istore 5, 2) := by decide +kernel
theorem dX7_markOf_14 : decode cX7_markOf 14 = .ok (.iconst 0, 1) := by decide +kernel
theorem dX7_markOf_15 : decode cX7_markOf 15 = .ok (.istore 6, 2) := by decide +kernel
theorem dX7_markOf_17 : decode cX7_markOf 17 = .ok (.iload 6, 2) := by decide +kernel
theorem dX7_markOf_19 : decode cX7_markOf 19 = .ok (.iconst 3, 1) := by decide +kernel
theorem dX7_markOf_20 : decode cX7_markOf 20 = .ok (.if_icmp .ge 77, 3) := by decide +kernel
theorem dX7_markOf_23 : decode cX7_markOf 23 = .ok (.aload_n 0, 1) := by decide +kernel
theorem dX7_markOf_24 : decode cX7_markOf 24 = .ok (.iload_n 2, 1) := by decide +kernel
theorem dX7_markOf_25 : decode cX7_markOf 25 = .ok (.iload_n 3, 1) := by decide +kernel
theorem dX7_markOf_26 : decode cX7_markOf 26 = .ok (.iload 6, 2) := by decide +kernel
theorem dX7_markOf_28 : decode cX7_markOf 28 = .ok (.invokevirtual 89, 3) := by decide +kernel
theorem dX7_markOf_31 : decode cX7_markOf 31 = .ok (.ifCond .ne 6, 3) := by decide +kernel
theorem dX7_markOf_34 : decode cX7_markOf 34 = .ok (.goto 57, 3) := by decide +kernel
theorem dX7_markOf_37 : decode cX7_markOf 37 = .ok (.iload 4, 2) := by decide +kernel
theorem dX7_markOf_39 : decode cX7_markOf 39 = .ok (.iconst 2, 1) := by decide +kernel
theorem dX7_markOf_40 : decode cX7_markOf 40 = .ok (.if_icmp .ne 24, 3) := by decide +kernel
theorem dX7_markOf_43 : decode cX7_markOf 43 = .ok (.iload 5, 2) := by decide +kernel
theorem dX7_markOf_45 : decode cX7_markOf 45 = .ok (.aload_n 0, 1) := by decide +kernel
theorem dX7_markOf_46 : decode cX7_markOf 46 = .ok (.iload_n 2, 1) := by decide +kernel
theorem dX7_markOf_47 : decode cX7_markOf 47 = .ok (.iload 6, 2) := by decide +kernel
theorem dX7_markOf_49 : decode cX7_markOf 49 = .ok (.iload_n 3, 1) := by decide +kernel
theorem dX7_markOf_50 : decode cX7_markOf 50 = .ok (.iload 6, 2) := by decide +kernel
theorem dX7_markOf_52 : decode cX7_markOf 52 = .ok (.invokestatic 81, 3) := by decide +kernel
theorem dX7_markOf_55 : decode cX7_markOf 55 = .ok (.iload_n 1, 1) := by decide +kernel
theorem dX7_markOf_56 : decode cX7_markOf 56 = .ok (.invokevirtual 110, 3) := by decide +kernel
theorem dX7_markOf_59 : decode cX7_markOf 59 = .ok (.invokestatic 223, 3) := by decide +kernel
theorem dX7_markOf_62 : decode cX7_markOf 62 = .ok (.istore 5, 2) := by decide +kernel
theorem dX7_markOf_64 : decode cX7_markOf 64 = .ok (.iload 4, 2) := by decide +kernel
theorem dX7_markOf_66 : decode cX7_markOf 66 = .ok (.iconst 3, 1) := by decide +kernel
theorem dX7_markOf_67 : decode cX7_markOf 67 = .ok (.if_icmp .ne 24, 3) := by decide +kernel
theorem dX7_markOf_70 : decode cX7_markOf 70 = .ok (.iload 5, 2) := by decide +kernel
theorem dX7_markOf_72 : decode cX7_markOf 72 = .ok (.aload_n 0, 1) := by decide +kernel
theorem dX7_markOf_73 : decode cX7_markOf 73 = .ok (.iload_n 2, 1) := by decide +kernel
theorem dX7_markOf_74 : decode cX7_markOf 74 = .ok (.iload 6, 2) := by decide +kernel
theorem dX7_markOf_76 : decode cX7_markOf 76 = .ok (.iload_n 3, 1) := by decide +kernel
theorem dX7_markOf_77 : decode cX7_markOf 77 = .ok (.iload 6, 2) := by decide +kernel
theorem dX7_markOf_79 : decode cX7_markOf 79 = .ok (.invokestatic 81, 3) := by decide +kernel
theorem dX7_markOf_82 : decode cX7_markOf 82 = .ok (.iload_n 1, 1) := by decide +kernel
theorem dX7_markOf_83 : decode cX7_markOf 83 = .ok (.invokevirtual 127, 3) := by decide +kernel
theorem dX7_markOf_86 : decode cX7_markOf 86 = .ok (.invokestatic 226, 3) := by decide +kernel
theorem dX7_markOf_89 : decode cX7_markOf 89 = .ok (.istore 5, 2) := by decide +kernel
theorem dX7_markOf_91 : decode cX7_markOf 91 = .ok (.iinc 6 1, 3) := by decide +kernel
theorem dX7_markOf_94 : decode cX7_markOf 94 = .ok (.goto (-77), 3) := by decide +kernel
theorem dX7_markOf_97 : decode cX7_markOf 97 = .ok (.iload 4, 2) := by decide +kernel
theorem dX7_markOf_99 : decode cX7_markOf 99 = .ok (.tableswitch 60 0 3 #[29, 31, 53, 56], 29) := by decide +kernel
theorem dX7_markOf_128 : decode cX7_markOf 128 = .ok (.iconst 0, 1) := by decide +kernel
theorem dX7_markOf_129 : decode cX7_markOf 129 = .ok (.ireturn, 1) := by decide +kernel
theorem dX7_markOf_130 : decode cX7_markOf 130 = .ok (.aload_n 0, 1) := by decide +kernel
theorem dX7_markOf_131 : decode cX7_markOf 131 = .ok (.iload_n 1, 1) := by decide +kernel
theorem dX7_markOf_132 : decode cX7_markOf 132 = .ok (.invokevirtual 118, 3) := by decide +kernel
theorem dX7_markOf_135 : decode cX7_markOf 135 = .ok (.aload_n 0, 1) := by decide +kernel
theorem dX7_markOf_136 : decode cX7_markOf 136 = .ok (.iload_n 1, 1) := by decide +kernel
theorem dX7_markOf_137 : decode cX7_markOf 137 = .ok (.iload_n 2, 1) := by decide +kernel
theorem dX7_markOf_138 : decode cX7_markOf 138 = .ok (.invokevirtual 121, 3) := by decide +kernel
theorem dX7_markOf_141 : decode cX7_markOf 141 = .ok (.aload_n 0, 1) := by decide +kernel
theorem dX7_markOf_142 : decode cX7_markOf 142 = .ok (.iload_n 2, 1) := by decide +kernel
theorem dX7_markOf_143 : decode cX7_markOf 143 = .ok (.iload_n 3, 1) := by decide +kernel
theorem dX7_markOf_144 : decode cX7_markOf 144 = .ok (.invokevirtual 108, 3) := by decide +kernel
theorem dX7_markOf_147 : decode cX7_markOf 147 = .ok (.ior, 1) := by decide +kernel
theorem dX7_markOf_148 : decode cX7_markOf 148 = .ok (.invokestatic 124, 3) := by decide +kernel
theorem dX7_markOf_151 : decode cX7_markOf 151 = .ok (.ireturn, 1) := by decide +kernel
theorem dX7_markOf_152 : decode cX7_markOf 152 = .ok (.iload 5, 2) := by decide +kernel
theorem dX7_markOf_154 : decode cX7_markOf 154 = .ok (.ireturn, 1) := by decide +kernel
theorem dX7_markOf_155 : decode cX7_markOf 155 = .ok (.iload 5, 2) := by decide +kernel
theorem dX7_markOf_157 : decode cX7_markOf 157 = .ok (.ineg, 1) := by decide +kernel
theorem dX7_markOf_158 : decode cX7_markOf 158 = .ok (.ireturn, 1) := by decide +kernel
theorem dX7_markOf_159 : decode cX7_markOf 159 = .ok (.aload_n 0, 1) := by decide +kernel
theorem dX7_markOf_160 : decode cX7_markOf 160 = .ok (.iload_n 2, 1) := by decide +kernel
theorem dX7_markOf_161 : decode cX7_markOf 161 = .ok (.iload_n 3, 1) := by decide +kernel
theorem dX7_markOf_162 : decode cX7_markOf 162 = .ok (.invokevirtual 108, 3) := by decide +kernel
theorem dX7_markOf_165 : decode cX7_markOf 165 = .ok (.invokestatic 114, 3) := by decide +kernel
theorem dX7_markOf_168 : decode cX7_markOf 168 = .ok (.ireturn, 1) := by decide +kernel
def gX7_markOf_64 (s : Mem) (v1 : Int32) (v2 : Int32) (v3 : Int32) (v4 : Int32) (v5 : Int32) (v6 : Int32) : Option (Int32 ⊕ (Int32 × Int32)) :=
  if v4 = (3 : Int32) then (fX7_part v3 v6).bind (fun y3 => (fX7_leftBut s v2 v6 y3 v1).bind (fun y4 => lt (mnI v5 y4) (fun x5 => lt (v6 + (1 : Int32)) (fun x6 => some (Sum.inr (x5, x6)))))) else lt (v6 + (1 : Int32)) (fun x2 => some (Sum.inr (v5, x2)))
set_option maxRecDepth 4000 in
theorem jgX7_markOf_64 {X : Scr} (d : Nat) (s : Mem) (v1 : Int32) (v2 : Int32) (v3 : Int32) (v4 : Int32) (v5 : Int32) (v6 : Int32) {r : (Int32 ⊕ (Int32 × Int32))} {w : Option Value} {s' : Mem} (hh : gX7_markOf_64 s v1 v2 v3 v4 v5 v6 = some r) (hk : Sum.elim (fun t : Int32 => J X MX7_markOf (d + 6) 97 [some (.ref 19), some (.int v1), some (.int v2), some (.int v3), some (.int v4), some (.int t), none] [] s w s') (fun a : (Int32 × Int32) => J X MX7_markOf (d + 6) 17 [some (.ref 19), some (.int v1), some (.int v2), some (.int v3), some (.int v4), some (.int a.1), some (.int a.2)] [] s w s') r) : J X MX7_markOf (d + 6) 64 [some (.ref 19), some (.int v1), some (.int v2), some (.int v3), some (.int v4), some (.int v5), some (.int v6)] [] s w s' := by
  unfold gX7_markOf_64 at hh
  refine J_iload (pc := 64) dX7_markOf_64 rfl ?_
  refine J_iconst (pc := 66) dX7_markOf_66 ci_3 ?_
  refine J_icmp_ne (pc := 67) 91 dX7_markOf_67 (by decide) (fun c7 => ?_) (fun c7 => ?_)
  · replace hh := (if_neg c7).symm.trans hh
    refine J_iincL (pc := 91) (v := v6 + (1 : Int32)) (fun x2 => [some (.ref 19), some (.int v1), some (.int v2), some (.int v3), some (.int v4), some (.int v5), some (.int x2)]) dX7_markOf_91 rfl rfl (Nat.le_of_ble_eq_true rfl) (congrArg _ ci_1) (fun _ => rfl) hh (fun x2 hh => ?_)
    refine J_goto (pc := 94) 17 dX7_markOf_94 (by decide) ?_
    obtain rfl := Option.some.inj hh
    exact hk
  · replace hh := (if_pos c7).symm.trans hh
    refine J_iload (pc := 70) dX7_markOf_70 rfl ?_
    refine J_aload_n (pc := 72) dX7_markOf_72 rfl ?_
    refine J_iload_n (pc := 73) dX7_markOf_73 rfl ?_
    refine J_iload (pc := 74) dX7_markOf_74 rfl ?_
    refine J_iload_n (pc := 76) dX7_markOf_76 rfl ?_
    refine J_iload (pc := 77) dX7_markOf_77 rfl ?_
    obtain ⟨y3, hy3, hh⟩ := bd_some hh
    refine J_callSi (pc := 79) (M' := MX7_part) (rest := [.int v6, .int v2, .ref 19, .int v5]) (As := [.int v3, .int v6]) (L0 := [some (.int v3), some (.int v6)]) okX7_part osX7_part mlX7_81 rfl rfl (Nat.le_of_ble_eq_true rfl) dX7_markOf_79 rfl (Nat.le_of_ble_eq_true rfl) (jX7_part (X := X) (d + 5) s v3 v6 hy3) ?_
    refine J_iload_n (pc := 82) dX7_markOf_82 rfl ?_
    obtain ⟨y4, hy4, hh⟩ := bd_some hh
    refine J_callVi (pc := 83) (M' := MX7_leftBut) (a := 19) (rest := [.int v5]) (As := [.int v2, .int v6, .int y3, .int v1]) (L0 := [some (.ref 19), some (.int v2), some (.int v6), some (.int y3), some (.int v1)]) okX7_leftBut ovX7_leftBut mlX7_127 clX7 so19 rfl rfl (Nat.le_of_ble_eq_true rfl) dX7_markOf_83 rfl (Nat.le_of_ble_eq_true rfl) (jX7_leftBut (X := X) (d + 1) s v2 v6 y3 v1 hy4) ?_
    refine J_mmin (pc := 86) mtX7_226 (Nat.le_of_ble_eq_true rfl) dX7_markOf_86 ?_
    refine J_istoreL (pc := 89) (fun x5 => [some (.ref 19), some (.int v1), some (.int v2), some (.int v3), some (.int v4), some (.int x5), some (.int v6)]) dX7_markOf_89 rfl (Nat.le_of_ble_eq_true rfl) (fun _ => rfl) hh (fun x5 hh => ?_)
    refine J_iincL (pc := 91) (v := v6 + (1 : Int32)) (fun x6 => [some (.ref 19), some (.int v1), some (.int v2), some (.int v3), some (.int v4), some (.int x5), some (.int x6)]) dX7_markOf_91 rfl rfl (Nat.le_of_ble_eq_true rfl) (congrArg _ ci_1) (fun _ => rfl) hh (fun x6 hh => ?_)
    refine J_goto (pc := 94) 17 dX7_markOf_94 (by decide) ?_
    obtain rfl := Option.some.inj hh
    exact hk
def bX7_markOf_17 (s : Mem) (v1 : Int32) (v2 : Int32) (v3 : Int32) (v4 : Int32) (v5 : Int32) (v6 : Int32) : Option (Int32 ⊕ (Int32 × Int32)) :=
  if (3 : Int32) ≤ v6 then some (Sum.inl v5) else (fX7_counts s v2 v3 v6).bind (fun y1 => if y1 = (0 : Int32) then lt (v6 + (1 : Int32)) (fun x12 => some (Sum.inr (v5, x12))) else if v4 = (2 : Int32) then (fX7_part v3 v6).bind (fun y8 => (fX7_takenBut s v2 v6 y8 v1).bind (fun y9 => lt (mxI v5 y9) (fun x10 => gX7_markOf_64 s v1 v2 v3 v4 x10 v6))) else gX7_markOf_64 s v1 v2 v3 v4 v5 v6)
set_option maxRecDepth 4000 in
theorem jbX7_markOf_17 {X : Scr} (d : Nat) (s : Mem) (v1 : Int32) (v2 : Int32) (v3 : Int32) (v4 : Int32) (v5 : Int32) (v6 : Int32) {r : (Int32 ⊕ (Int32 × Int32))} {w : Option Value} {s' : Mem} (hh : bX7_markOf_17 s v1 v2 v3 v4 v5 v6 = some r) (hk : Sum.elim (fun t : Int32 => J X MX7_markOf (d + 6) 97 [some (.ref 19), some (.int v1), some (.int v2), some (.int v3), some (.int v4), some (.int t), none] [] s w s') (fun a : (Int32 × Int32) => J X MX7_markOf (d + 6) 17 [some (.ref 19), some (.int v1), some (.int v2), some (.int v3), some (.int v4), some (.int a.1), some (.int a.2)] [] s w s') r) : J X MX7_markOf (d + 6) 17 [some (.ref 19), some (.int v1), some (.int v2), some (.int v3), some (.int v4), some (.int v5), some (.int v6)] [] s w s' := by
  unfold bX7_markOf_17 at hh
  refine J_iload (pc := 17) dX7_markOf_17 rfl ?_
  refine J_iconst (pc := 19) dX7_markOf_19 ci_3 ?_
  refine J_icmp_ge (pc := 20) 97 dX7_markOf_20 (by decide) (fun c14 => ?_) (fun c14 => ?_)
  · replace hh := (if_pos c14).symm.trans hh
    refine J_drop 6 (L' := [some (.ref 19), some (.int v1), some (.int v2), some (.int v3), some (.int v4), some (.int v5), none]) rfl ?_
    obtain rfl := Option.some.inj hh
    exact hk
  · replace hh := (if_neg c14).symm.trans hh
    refine J_aload_n (pc := 23) dX7_markOf_23 rfl ?_
    refine J_iload_n (pc := 24) dX7_markOf_24 rfl ?_
    refine J_iload_n (pc := 25) dX7_markOf_25 rfl ?_
    refine J_iload (pc := 26) dX7_markOf_26 rfl ?_
    obtain ⟨y1, hy1, hh⟩ := bd_some hh
    refine J_callVi (pc := 28) (M' := MX7_counts) (a := 19) (rest := []) (As := [.int v2, .int v3, .int v6]) (L0 := [some (.ref 19), some (.int v2), some (.int v3), some (.int v6)]) okX7_counts ovX7_counts mlX7_89 clX7 so19 rfl rfl (Nat.le_of_ble_eq_true rfl) dX7_markOf_28 rfl (Nat.le_of_ble_eq_true rfl) (jX7_counts (X := X) (d + 3) s v2 v3 v6 hy1) ?_
    refine J_if_ne (pc := 31) 37 dX7_markOf_31 (by decide) (fun c13 => ?_) (fun c13 => ?_)
    · replace hh := (if_neg c13).symm.trans hh
      refine J_iload (pc := 37) dX7_markOf_37 rfl ?_
      refine J_iconst (pc := 39) dX7_markOf_39 ci_2 ?_
      refine J_icmp_ne (pc := 40) 64 dX7_markOf_40 (by decide) (fun c11 => ?_) (fun c11 => ?_)
      · replace hh := (if_neg c11).symm.trans hh
        exact jgX7_markOf_64 d s v1 v2 v3 v4 v5 v6 hh hk
      · replace hh := (if_pos c11).symm.trans hh
        refine J_iload (pc := 43) dX7_markOf_43 rfl ?_
        refine J_aload_n (pc := 45) dX7_markOf_45 rfl ?_
        refine J_iload_n (pc := 46) dX7_markOf_46 rfl ?_
        refine J_iload (pc := 47) dX7_markOf_47 rfl ?_
        refine J_iload_n (pc := 49) dX7_markOf_49 rfl ?_
        refine J_iload (pc := 50) dX7_markOf_50 rfl ?_
        obtain ⟨y8, hy8, hh⟩ := bd_some hh
        refine J_callSi (pc := 52) (M' := MX7_part) (rest := [.int v6, .int v2, .ref 19, .int v5]) (As := [.int v3, .int v6]) (L0 := [some (.int v3), some (.int v6)]) okX7_part osX7_part mlX7_81 rfl rfl (Nat.le_of_ble_eq_true rfl) dX7_markOf_52 rfl (Nat.le_of_ble_eq_true rfl) (jX7_part (X := X) (d + 5) s v3 v6 hy8) ?_
        refine J_iload_n (pc := 55) dX7_markOf_55 rfl ?_
        obtain ⟨y9, hy9, hh⟩ := bd_some hh
        refine J_callVi (pc := 56) (M' := MX7_takenBut) (a := 19) (rest := [.int v5]) (As := [.int v2, .int v6, .int y8, .int v1]) (L0 := [some (.ref 19), some (.int v2), some (.int v6), some (.int y8), some (.int v1), none, none, none]) okX7_takenBut ovX7_takenBut mlX7_110 clX7 so19 rfl rfl (Nat.le_of_ble_eq_true rfl) dX7_markOf_56 rfl (Nat.le_of_ble_eq_true rfl) (jX7_takenBut (X := X) (d + 2) s v2 v6 y8 v1 hy9) ?_
        refine J_mmax (pc := 59) mtX7_223 (Nat.le_of_ble_eq_true rfl) dX7_markOf_59 ?_
        refine J_istoreL (pc := 62) (fun x10 => [some (.ref 19), some (.int v1), some (.int v2), some (.int v3), some (.int v4), some (.int x10), some (.int v6)]) dX7_markOf_62 rfl (Nat.le_of_ble_eq_true rfl) (fun _ => rfl) hh (fun x10 hh => ?_)
        exact jgX7_markOf_64 d s v1 v2 v3 v4 x10 v6 hh hk
    · replace hh := (if_pos c13).symm.trans hh
      refine J_goto (pc := 34) 91 dX7_markOf_34 (by decide) ?_
      refine J_iincL (pc := 91) (v := v6 + (1 : Int32)) (fun x12 => [some (.ref 19), some (.int v1), some (.int v2), some (.int v3), some (.int v4), some (.int v5), some (.int x12)]) dX7_markOf_91 rfl rfl (Nat.le_of_ble_eq_true rfl) (congrArg _ ci_1) (fun _ => rfl) hh (fun x12 hh => ?_)
      refine J_goto (pc := 94) 17 dX7_markOf_94 (by decide) ?_
      obtain rfl := Option.some.inj hh
      exact hk
def gX7_markOf_12 (s : Mem) (v1 : Int32) (v2 : Int32) (v3 : Int32) (v4 : Int32) (k0 : Int32) : Option Int32 :=
  (lp (fun a => bX7_markOf_17 s v1 v2 v3 v4 a.1 a.2) 600 (k0, (0 : Int32))).bind (fun y15 => if v4 = (0 : Int32) then some (0 : Int32) else if v4 = (1 : Int32) then (fX7_kindOf s v1).bind (fun y18 => (fX7_busyBut s v1 v2).bind (fun y19 => (fX7_timeOf_ s v2 v3).bind (fun y20 => (fX7_costOf y18 (y19 ||| y20)).bind (fun y21 => some y21)))) else if v4 = (2 : Int32) then some y15 else if v4 = (3 : Int32) then some ((-y15)) else (fX7_timeOf_ s v2 v3).bind (fun y24 => (fX7_bits y24).bind (fun y25 => some y25)))
set_option maxRecDepth 4000 in
theorem jgX7_markOf_12 {X : Scr} (d : Nat) (s : Mem) (v1 : Int32) (v2 : Int32) (v3 : Int32) (v4 : Int32) (k0 : Int32) {r : Int32} {w : Option Value} {s' : Mem} (hh : gX7_markOf_12 s v1 v2 v3 v4 k0 = some r) (hk : w = some (.int r) ∧ s = s') : J X MX7_markOf (d + 6) 12 [some (.ref 19), some (.int v1), some (.int v2), some (.int v3), some (.int v4), none, none] [.int k0] s w s' := by
  unfold gX7_markOf_12 at hh
  refine J_istore (pc := 12) (L' := [some (.ref 19), some (.int v1), some (.int v2), some (.int v3), some (.int v4), some (.int k0), none]) dX7_markOf_12 rfl (Nat.le_of_ble_eq_true rfl) rfl ?_
  refine J_iconst (pc := 14) dX7_markOf_14 ci_0 ?_
  refine J_istore (pc := 15) (L' := [some (.ref 19), some (.int v1), some (.int v2), some (.int v3), some (.int v4), some (.int k0), some (.int (0 : Int32))]) dX7_markOf_15 rfl (Nat.le_of_ble_eq_true rfl) rfl ?_
  obtain ⟨y15, hy15, hh⟩ := bd_some hh
  refine J_lp (a := (k0, (0 : Int32))) (fun a : (Int32 × Int32) => J X MX7_markOf (d + 6) 17 [some (.ref 19), some (.int v1), some (.int v2), some (.int v3), some (.int v4), some (.int a.1), some (.int a.2)] [] s w s') (fun t : Int32 => J X MX7_markOf (d + 6) 97 [some (.ref 19), some (.int v1), some (.int v2), some (.int v3), some (.int v4), some (.int t), none] [] s w s') (fun a q h1 h2 => jbX7_markOf_17 d s v1 v2 v3 v4 a.1 a.2 h1 h2) hy15 ?_
  refine J_iload (pc := 97) dX7_markOf_97 rfl ?_
  by_cases c16 : v4 = (0 : Int32)
  · replace hh := (if_pos c16).symm.trans hh
    refine J_swIn (pc := 99) 128 dX7_markOf_99 (by rw [c16]; decide) (by rw [c16]; decide) (by rw [c16]; rfl) (by decide) ?_
    refine J_iconst (pc := 128) dX7_markOf_128 ci_0 ?_
    obtain rfl := Option.some.inj hh
    obtain ⟨rfl, rfl⟩ := hk
    exact J_ret (w := some (.int (0 : Int32))) ⟨dX7_markOf_129, _, rfl, rfl⟩
  replace hh := (if_neg c16).symm.trans hh
  by_cases c17 : v4 = (1 : Int32)
  · replace hh := (if_pos c17).symm.trans hh
    refine J_swIn (pc := 99) 130 dX7_markOf_99 (by rw [c17]; decide) (by rw [c17]; decide) (by rw [c17]; rfl) (by decide) ?_
    refine J_aload_n (pc := 130) dX7_markOf_130 rfl ?_
    refine J_iload_n (pc := 131) dX7_markOf_131 rfl ?_
    obtain ⟨y18, hy18, hh⟩ := bd_some hh
    refine J_callVi (pc := 132) (M' := MX7_kindOf) (a := 19) (rest := []) (As := [.int v1]) (L0 := [some (.ref 19), some (.int v1)]) okX7_kindOf ovX7_kindOf mlX7_118 clX7 so19 rfl rfl (Nat.le_of_ble_eq_true rfl) dX7_markOf_132 rfl (Nat.le_of_ble_eq_true rfl) (jX7_kindOf (X := X) (d + 5) s v1 hy18) ?_
    refine J_aload_n (pc := 135) dX7_markOf_135 rfl ?_
    refine J_iload_n (pc := 136) dX7_markOf_136 rfl ?_
    refine J_iload_n (pc := 137) dX7_markOf_137 rfl ?_
    obtain ⟨y19, hy19, hh⟩ := bd_some hh
    refine J_callVi (pc := 138) (M' := MX7_busyBut) (a := 19) (rest := [.int y18]) (As := [.int v1, .int v2]) (L0 := [some (.ref 19), some (.int v1), some (.int v2), none, none]) okX7_busyBut ovX7_busyBut mlX7_121 clX7 so19 rfl rfl (Nat.le_of_ble_eq_true rfl) dX7_markOf_138 rfl (Nat.le_of_ble_eq_true rfl) (jX7_busyBut (X := X) d s v1 v2 hy19) ?_
    refine J_aload_n (pc := 141) dX7_markOf_141 rfl ?_
    refine J_iload_n (pc := 142) dX7_markOf_142 rfl ?_
    refine J_iload_n (pc := 143) dX7_markOf_143 rfl ?_
    obtain ⟨y20, hy20, hh⟩ := bd_some hh
    refine J_callVi (pc := 144) (M' := MX7_timeOf_) (a := 19) (rest := [.int y19, .int y18]) (As := [.int v2, .int v3]) (L0 := [some (.ref 19), some (.int v2), some (.int v3)]) okX7_timeOf_ ovX7_timeOf_ mlX7_108 clX7 so19 rfl rfl (Nat.le_of_ble_eq_true rfl) dX7_markOf_144 rfl (Nat.le_of_ble_eq_true rfl) (jX7_timeOf_ (X := X) (d + 1) s v2 v3 hy20) ?_
    refine J_ior (pc := 147) dX7_markOf_147 ?_
    obtain ⟨y21, hy21, hh⟩ := bd_some hh
    refine J_callSi (pc := 148) (M' := MX7_costOf) (rest := []) (As := [.int y18, .int (y19 ||| y20)]) (L0 := [some (.int y18), some (.int (y19 ||| y20)), none, none, none, none]) okX7_costOf osX7_costOf mlX7_124 rfl rfl (Nat.le_of_ble_eq_true rfl) dX7_markOf_148 rfl (Nat.le_of_ble_eq_true rfl) (jX7_costOf (X := X) (d + 4) s y18 (y19 ||| y20) hy21) ?_
    obtain rfl := Option.some.inj hh
    obtain ⟨rfl, rfl⟩ := hk
    exact J_ret (w := some (.int y21)) ⟨dX7_markOf_151, _, rfl, rfl⟩
  replace hh := (if_neg c17).symm.trans hh
  by_cases c22 : v4 = (2 : Int32)
  · replace hh := (if_pos c22).symm.trans hh
    refine J_swIn (pc := 99) 152 dX7_markOf_99 (by rw [c22]; decide) (by rw [c22]; decide) (by rw [c22]; rfl) (by decide) ?_
    refine J_iload (pc := 152) dX7_markOf_152 rfl ?_
    obtain rfl := Option.some.inj hh
    obtain ⟨rfl, rfl⟩ := hk
    exact J_ret (w := some (.int y15)) ⟨dX7_markOf_154, _, rfl, rfl⟩
  replace hh := (if_neg c22).symm.trans hh
  by_cases c23 : v4 = (3 : Int32)
  · replace hh := (if_pos c23).symm.trans hh
    refine J_swIn (pc := 99) 155 dX7_markOf_99 (by rw [c23]; decide) (by rw [c23]; decide) (by rw [c23]; rfl) (by decide) ?_
    refine J_iload (pc := 155) dX7_markOf_155 rfl ?_
    refine J_ineg (pc := 157) dX7_markOf_157 ?_
    obtain rfl := Option.some.inj hh
    obtain ⟨rfl, rfl⟩ := hk
    exact J_ret (w := some (.int (-y15))) ⟨dX7_markOf_158, _, rfl, rfl⟩
  replace hh := (if_neg c23).symm.trans hh
  refine J_swOut (pc := 99) 159 dX7_markOf_99 (by have := lv_neT c16 (a := 0) (by decide); have := lv_neT c17 (a := 1) (by decide); have := lv_neT c22 (a := 2) (by decide); have := lv_neT c23 (a := 3) (by decide); omega) (by decide) ?_
  refine J_aload_n (pc := 159) dX7_markOf_159 rfl ?_
  refine J_iload_n (pc := 160) dX7_markOf_160 rfl ?_
  refine J_iload_n (pc := 161) dX7_markOf_161 rfl ?_
  obtain ⟨y24, hy24, hh⟩ := bd_some hh
  refine J_callVi (pc := 162) (M' := MX7_timeOf_) (a := 19) (rest := []) (As := [.int v2, .int v3]) (L0 := [some (.ref 19), some (.int v2), some (.int v3)]) okX7_timeOf_ ovX7_timeOf_ mlX7_108 clX7 so19 rfl rfl (Nat.le_of_ble_eq_true rfl) dX7_markOf_162 rfl (Nat.le_of_ble_eq_true rfl) (jX7_timeOf_ (X := X) (d + 1) s v2 v3 hy24) ?_
  obtain ⟨y25, hy25, hh⟩ := bd_some hh
  refine J_callSi (pc := 165) (M' := MX7_bits) (rest := []) (As := [.int y24]) (L0 := [some (.int y24), none, none]) okX7_bits osX7_bits mlX7_114 rfl rfl (Nat.le_of_ble_eq_true rfl) dX7_markOf_165 rfl (Nat.le_of_ble_eq_true rfl) (jX7_bits (X := X) (d + 5) s y24 hy25) ?_
  obtain rfl := Option.some.inj hh
  obtain ⟨rfl, rfl⟩ := hk
  exact J_ret (w := some (.int y25)) ⟨dX7_markOf_168, _, rfl, rfl⟩
def fX7_markOf (s : Mem) (p0 : Int32) (p1 : Int32) (p2 : Int32) (p3 : Int32) : Option Int32 :=
  if p3 = (2 : Int32) then gX7_markOf_12 s p0 p1 p2 p3 (0 : Int32) else gX7_markOf_12 s p0 p1 p2 p3 (99 : Int32)
set_option maxRecDepth 4000 in
theorem jjX7_markOf {X : Scr} (d : Nat) (s : Mem) (p0 : Int32) (p1 : Int32) (p2 : Int32) (p3 : Int32) {r : Int32} {w : Option Value} {s' : Mem} (hh : fX7_markOf s p0 p1 p2 p3 = some r) (hk : w = some (.int r) ∧ s = s') : J X MX7_markOf (d + 6) 0 [some (.ref 19), some (.int p0), some (.int p1), some (.int p2), some (.int p3), none, none] [] s w s' := by
  unfold fX7_markOf at hh
  refine J_iload (pc := 0) dX7_markOf_0 rfl ?_
  refine J_iconst (pc := 2) dX7_markOf_2 ci_2 ?_
  refine J_icmp_ne (pc := 3) 10 dX7_markOf_3 (by decide) (fun c26 => ?_) (fun c26 => ?_)
  · replace hh := (if_neg c26).symm.trans hh
    refine J_bipush (pc := 10) dX7_markOf_10 cb_99 ?_
    exact jgX7_markOf_12 d s p0 p1 p2 p3 (99 : Int32) hh hk
  · replace hh := (if_pos c26).symm.trans hh
    refine J_iconst (pc := 6) dX7_markOf_6 ci_0 ?_
    refine J_goto (pc := 7) 12 dX7_markOf_7 (by decide) ?_
    exact jgX7_markOf_12 d s p0 p1 p2 p3 (0 : Int32) hh hk
theorem jX7_markOf {X : Scr} (d : Nat) (s : Mem) (p0 : Int32) (p1 : Int32) (p2 : Int32) (p3 : Int32) {r : Int32} (hh : fX7_markOf s p0 p1 p2 p3 = some r) : J X MX7_markOf (d + 6) 0 [some (.ref 19), some (.int p0), some (.int p1), some (.int p2), some (.int p3), none, none] [] s (some (.int r)) s := jjX7_markOf d s p0 p1 p2 p3 hh ⟨rfl, rfl⟩
theorem dX7_picked_0 : decode cX7_picked 0 = .ok (.iconst (-1), 1) := by decide +kernel
theorem dX7_picked_1 : decode cX7_picked 1 = .ok (.istore 4, 2) := by decide +kernel
theorem dX7_picked_3 : decode cX7_picked 3 = .ok (.iconst 0, 1) := by decide +kernel
theorem dX7_picked_4 : decode cX7_picked 4 = .ok (.istore 5, 2) := by decide +kernel
theorem dX7_picked_6 : decode cX7_picked 6 = .ok (.iload 5, 2) := by decide +kernel
theorem dX7_picked_8 : decode cX7_picked 8 = .ok (.bipush 8, 2) := by decide +kernel
theorem dX7_picked_10 : decode cX7_picked 10 = .ok (.if_icmp .ge 50, 3) := by decide +kernel
theorem dX7_picked_13 : decode cX7_picked 13 = .ok (.aload_n 0, 1) := by decide +kernel
theorem dX7_picked_14 : decode cX7_picked 14 = .ok (.iload_n 1, 1) := by decide +kernel
theorem dX7_picked_15 : decode cX7_picked 15 = .ok (.iload_n 2, 1) := by decide +kernel
theorem dX7_picked_16 : decode cX7_picked 16 = .ok (.iload 5, 2) := by decide +kernel
theorem dX7_picked_18 : decode cX7_picked 18 = .ok (.invokevirtual 214, 3) := by decide +kernel
theorem dX7_picked_21 : decode cX7_picked 21 = .ok (.ifCond .eq 33, 3) := by decide +kernel
theorem dX7_picked_24 : decode cX7_picked 24 = .ok (.iload 4, 2) := by decide +kernel
theorem dX7_picked_26 : decode cX7_picked 26 = .ok (.ifCond .lt 24, 3) := by decide +kernel
theorem dX7_picked_29 : decode cX7_picked 29 = .ok (.aload_n 0, 1) := by decide +kernel
theorem dX7_picked_30 : decode cX7_picked 30 = .ok (.iload_n 1, 1) := by decide +kernel
theorem dX7_picked_31 : decode cX7_picked 31 = .ok (.iload_n 2, 1) := by decide +kernel
theorem dX7_picked_32 : decode cX7_picked 32 = .ok (.iload 5, 2) := by decide +kernel
theorem dX7_picked_34 : decode cX7_picked 34 = .ok (.iload_n 3, 1) := by decide +kernel
theorem dX7_picked_35 : decode cX7_picked 35 = .ok (.invokevirtual 229, 3) := by decide +kernel
theorem dX7_picked_38 : decode cX7_picked 38 = .ok (.aload_n 0, 1) := by decide +kernel
theorem dX7_picked_39 : decode cX7_picked 39 = .ok (.iload_n 1, 1) := by decide +kernel
theorem dX7_picked_40 : decode cX7_picked 40 = .ok (.iload_n 2, 1) := by decide +kernel
theorem dX7_picked_41 : decode cX7_picked 41 = .ok (.iload 4, 2) := by decide +kernel
theorem dX7_picked_43 : decode cX7_picked 43 = .ok (.iload_n 3, 1) := by decide +kernel
theorem dX7_picked_44 : decode cX7_picked 44 = .ok (.invokevirtual 229, 3) := by decide +kernel
theorem dX7_picked_47 : decode cX7_picked 47 = .ok (.if_icmp .ge 7, 3) := by decide +kernel
theorem dX7_picked_50 : decode cX7_picked 50 = .ok (.iload 5, 2) := by decide +kernel
theorem dX7_picked_52 : decode cX7_picked 52 = .ok (.istore 4, 2) := by decide +kernel
theorem dX7_picked_54 : decode cX7_picked 54 = .ok (.iinc 5 1, 3) := by decide +kernel
theorem dX7_picked_57 : decode cX7_picked 57 = .ok (.goto (-51), 3) := by decide +kernel
theorem dX7_picked_60 : decode cX7_picked 60 = .ok (.iload 4, 2) := by decide +kernel
theorem dX7_picked_62 : decode cX7_picked 62 = .ok (.ireturn, 1) := by decide +kernel
def bX7_picked_6 (s : Mem) (v1 : Int32) (v2 : Int32) (v3 : Int32) (v4 : Int32) (v5 : Int32) : Option (Int32 ⊕ (Int32 × Int32)) :=
  if (8 : Int32) ≤ v5 then some (Sum.inl v4) else (fX7_isFit s v1 v2 v5).bind (fun y1 => if y1 = (0 : Int32) then lt (v5 + (1 : Int32)) (fun x2 => some (Sum.inr (v4, x2))) else if v4 < (0 : Int32) then lt (v5 + (1 : Int32)) (fun x3 => some (Sum.inr (v5, x3))) else (fX7_markOf s v1 v2 v5 v3).bind (fun y4 => (fX7_markOf s v1 v2 v4 v3).bind (fun y5 => if y5 ≤ y4 then lt (v5 + (1 : Int32)) (fun x6 => some (Sum.inr (v4, x6))) else lt (v5 + (1 : Int32)) (fun x7 => some (Sum.inr (v5, x7))))))
set_option maxRecDepth 4000 in
theorem jbX7_picked_6 {X : Scr} (d : Nat) (s : Mem) (v1 : Int32) (v2 : Int32) (v3 : Int32) (v4 : Int32) (v5 : Int32) {r : (Int32 ⊕ (Int32 × Int32))} {w : Option Value} {s' : Mem} (hh : bX7_picked_6 s v1 v2 v3 v4 v5 = some r) (hk : Sum.elim (fun t : Int32 => J X MX7_picked (d + 8) 60 [none, none, none, none, some (.int t), none] [] s w s') (fun a : (Int32 × Int32) => J X MX7_picked (d + 8) 6 [some (.ref 19), some (.int v1), some (.int v2), some (.int v3), some (.int a.1), some (.int a.2)] [] s w s') r) : J X MX7_picked (d + 8) 6 [some (.ref 19), some (.int v1), some (.int v2), some (.int v3), some (.int v4), some (.int v5)] [] s w s' := by
  unfold bX7_picked_6 at hh
  refine J_iload (pc := 6) dX7_picked_6 rfl ?_
  refine J_bipush (pc := 8) dX7_picked_8 cb_8 ?_
  refine J_icmp_ge (pc := 10) 60 dX7_picked_10 (by decide) (fun c11 => ?_) (fun c11 => ?_)
  · replace hh := (if_pos c11).symm.trans hh
    refine J_drop 0 (L' := [none, some (.int v1), some (.int v2), some (.int v3), some (.int v4), some (.int v5)]) rfl ?_
    refine J_drop 1 (L' := [none, none, some (.int v2), some (.int v3), some (.int v4), some (.int v5)]) rfl ?_
    refine J_drop 2 (L' := [none, none, none, some (.int v3), some (.int v4), some (.int v5)]) rfl ?_
    refine J_drop 3 (L' := [none, none, none, none, some (.int v4), some (.int v5)]) rfl ?_
    refine J_drop 5 (L' := [none, none, none, none, some (.int v4), none]) rfl ?_
    obtain rfl := Option.some.inj hh
    exact hk
  · replace hh := (if_neg c11).symm.trans hh
    refine J_aload_n (pc := 13) dX7_picked_13 rfl ?_
    refine J_iload_n (pc := 14) dX7_picked_14 rfl ?_
    refine J_iload_n (pc := 15) dX7_picked_15 rfl ?_
    refine J_iload (pc := 16) dX7_picked_16 rfl ?_
    obtain ⟨y1, hy1, hh⟩ := bd_some hh
    refine J_callVi (pc := 18) (M' := MX7_isFit) (a := 19) (rest := []) (As := [.int v1, .int v2, .int v5]) (L0 := [some (.ref 19), some (.int v1), some (.int v2), some (.int v5)]) okX7_isFit ovX7_isFit mlX7_214 clX7 so19 rfl rfl (Nat.le_of_ble_eq_true rfl) dX7_picked_18 rfl (Nat.le_of_ble_eq_true rfl) (jX7_isFit (X := X) d s v1 v2 v5 hy1) ?_
    refine J_if_eq (pc := 21) 54 dX7_picked_21 (by decide) (fun c10 => ?_) (fun c10 => ?_)
    · replace hh := (if_pos c10).symm.trans hh
      refine J_iincL (pc := 54) (v := v5 + (1 : Int32)) (fun x2 => [some (.ref 19), some (.int v1), some (.int v2), some (.int v3), some (.int v4), some (.int x2)]) dX7_picked_54 rfl rfl (Nat.le_of_ble_eq_true rfl) (congrArg _ ci_1) (fun _ => rfl) hh (fun x2 hh => ?_)
      refine J_goto (pc := 57) 6 dX7_picked_57 (by decide) ?_
      obtain rfl := Option.some.inj hh
      exact hk
    · replace hh := (if_neg c10).symm.trans hh
      refine J_iload (pc := 24) dX7_picked_24 rfl ?_
      refine J_if_lt (pc := 26) 50 dX7_picked_26 (by decide) (fun c9 => ?_) (fun c9 => ?_)
      · replace hh := (if_pos c9).symm.trans hh
        refine J_iload (pc := 50) dX7_picked_50 rfl ?_
        refine J_istore (pc := 52) (L' := [some (.ref 19), some (.int v1), some (.int v2), some (.int v3), some (.int v5), some (.int v5)]) dX7_picked_52 rfl (Nat.le_of_ble_eq_true rfl) rfl ?_
        refine J_iincL (pc := 54) (v := v5 + (1 : Int32)) (fun x3 => [some (.ref 19), some (.int v1), some (.int v2), some (.int v3), some (.int v5), some (.int x3)]) dX7_picked_54 rfl rfl (Nat.le_of_ble_eq_true rfl) (congrArg _ ci_1) (fun _ => rfl) hh (fun x3 hh => ?_)
        refine J_goto (pc := 57) 6 dX7_picked_57 (by decide) ?_
        obtain rfl := Option.some.inj hh
        exact hk
      · replace hh := (if_neg c9).symm.trans hh
        refine J_aload_n (pc := 29) dX7_picked_29 rfl ?_
        refine J_iload_n (pc := 30) dX7_picked_30 rfl ?_
        refine J_iload_n (pc := 31) dX7_picked_31 rfl ?_
        refine J_iload (pc := 32) dX7_picked_32 rfl ?_
        refine J_iload_n (pc := 34) dX7_picked_34 rfl ?_
        obtain ⟨y4, hy4, hh⟩ := bd_some hh
        refine J_callVi (pc := 35) (M' := MX7_markOf) (a := 19) (rest := []) (As := [.int v1, .int v2, .int v5, .int v3]) (L0 := [some (.ref 19), some (.int v1), some (.int v2), some (.int v5), some (.int v3), none, none]) okX7_markOf ovX7_markOf mlX7_229 clX7 so19 rfl rfl (Nat.le_of_ble_eq_true rfl) dX7_picked_35 rfl (Nat.le_of_ble_eq_true rfl) (jX7_markOf (X := X) (d + 1) s v1 v2 v5 v3 hy4) ?_
        refine J_aload_n (pc := 38) dX7_picked_38 rfl ?_
        refine J_iload_n (pc := 39) dX7_picked_39 rfl ?_
        refine J_iload_n (pc := 40) dX7_picked_40 rfl ?_
        refine J_iload (pc := 41) dX7_picked_41 rfl ?_
        refine J_iload_n (pc := 43) dX7_picked_43 rfl ?_
        obtain ⟨y5, hy5, hh⟩ := bd_some hh
        refine J_callVi (pc := 44) (M' := MX7_markOf) (a := 19) (rest := [.int y4]) (As := [.int v1, .int v2, .int v4, .int v3]) (L0 := [some (.ref 19), some (.int v1), some (.int v2), some (.int v4), some (.int v3), none, none]) okX7_markOf ovX7_markOf mlX7_229 clX7 so19 rfl rfl (Nat.le_of_ble_eq_true rfl) dX7_picked_44 rfl (Nat.le_of_ble_eq_true rfl) (jX7_markOf (X := X) (d + 1) s v1 v2 v4 v3 hy5) ?_
        refine J_icmp_ge (pc := 47) 54 dX7_picked_47 (by decide) (fun c8 => ?_) (fun c8 => ?_)
        · replace hh := (if_pos c8).symm.trans hh
          refine J_iincL (pc := 54) (v := v5 + (1 : Int32)) (fun x6 => [some (.ref 19), some (.int v1), some (.int v2), some (.int v3), some (.int v4), some (.int x6)]) dX7_picked_54 rfl rfl (Nat.le_of_ble_eq_true rfl) (congrArg _ ci_1) (fun _ => rfl) hh (fun x6 hh => ?_)
          refine J_goto (pc := 57) 6 dX7_picked_57 (by decide) ?_
          obtain rfl := Option.some.inj hh
          exact hk
        · replace hh := (if_neg c8).symm.trans hh
          refine J_iload (pc := 50) dX7_picked_50 rfl ?_
          refine J_istore (pc := 52) (L' := [some (.ref 19), some (.int v1), some (.int v2), some (.int v3), some (.int v5), some (.int v5)]) dX7_picked_52 rfl (Nat.le_of_ble_eq_true rfl) rfl ?_
          refine J_iincL (pc := 54) (v := v5 + (1 : Int32)) (fun x7 => [some (.ref 19), some (.int v1), some (.int v2), some (.int v3), some (.int v5), some (.int x7)]) dX7_picked_54 rfl rfl (Nat.le_of_ble_eq_true rfl) (congrArg _ ci_1) (fun _ => rfl) hh (fun x7 hh => ?_)
          refine J_goto (pc := 57) 6 dX7_picked_57 (by decide) ?_
          obtain rfl := Option.some.inj hh
          exact hk
def fX7_picked (s : Mem) (p0 : Int32) (p1 : Int32) (p2 : Int32) : Option Int32 :=
  (lp (fun a => bX7_picked_6 s p0 p1 p2 a.1 a.2) 600 ((-1 : Int32), (0 : Int32))).bind (fun y12 => some y12)
set_option maxRecDepth 4000 in
theorem jjX7_picked {X : Scr} (d : Nat) (s : Mem) (p0 : Int32) (p1 : Int32) (p2 : Int32) {r : Int32} {w : Option Value} {s' : Mem} (hh : fX7_picked s p0 p1 p2 = some r) (hk : w = some (.int r) ∧ s = s') : J X MX7_picked (d + 8) 0 [some (.ref 19), some (.int p0), some (.int p1), some (.int p2), none, none] [] s w s' := by
  unfold fX7_picked at hh
  refine J_iconst (pc := 0) dX7_picked_0 ci_m1 ?_
  refine J_istore (pc := 1) (L' := [some (.ref 19), some (.int p0), some (.int p1), some (.int p2), some (.int (-1 : Int32)), none]) dX7_picked_1 rfl (Nat.le_of_ble_eq_true rfl) rfl ?_
  refine J_iconst (pc := 3) dX7_picked_3 ci_0 ?_
  refine J_istore (pc := 4) (L' := [some (.ref 19), some (.int p0), some (.int p1), some (.int p2), some (.int (-1 : Int32)), some (.int (0 : Int32))]) dX7_picked_4 rfl (Nat.le_of_ble_eq_true rfl) rfl ?_
  obtain ⟨y12, hy12, hh⟩ := bd_some hh
  refine J_lp (a := ((-1 : Int32), (0 : Int32))) (fun a : (Int32 × Int32) => J X MX7_picked (d + 8) 6 [some (.ref 19), some (.int p0), some (.int p1), some (.int p2), some (.int a.1), some (.int a.2)] [] s w s') (fun t : Int32 => J X MX7_picked (d + 8) 60 [none, none, none, none, some (.int t), none] [] s w s') (fun a q h1 h2 => jbX7_picked_6 d s p0 p1 p2 a.1 a.2 h1 h2) hy12 ?_
  refine J_iload (pc := 60) dX7_picked_60 rfl ?_
  obtain rfl := Option.some.inj hh
  obtain ⟨rfl, rfl⟩ := hk
  exact J_ret (w := some (.int y12)) ⟨dX7_picked_62, _, rfl, rfl⟩
theorem jX7_picked {X : Scr} (d : Nat) (s : Mem) (p0 : Int32) (p1 : Int32) (p2 : Int32) {r : Int32} (hh : fX7_picked s p0 p1 p2 = some r) : J X MX7_picked (d + 8) 0 [some (.ref 19), some (.int p0), some (.int p1), some (.int p2), none, none] [] s (some (.int r)) s := jjX7_picked d s p0 p1 p2 hh ⟨rfl, rfl⟩
theorem dX7_whyNoPick_0 : decode cX7_whyNoPick 0 = .ok (.iload_n 3, 1) := by decide +kernel
theorem dX7_whyNoPick_1 : decode cX7_whyNoPick 1 = .ok (.i2l, 1) := by decide +kernel
theorem dX7_whyNoPick_2 : decode cX7_whyNoPick 2 = .ok (.lconst 0, 1) := by decide +kernel
theorem dX7_whyNoPick_3 : decode cX7_whyNoPick 3 = .ok (.ldc2_w 232, 3) := by decide +kernel
theorem dX7_whyNoPick_6 : decode cX7_whyNoPick 6 = .ok (.invokestatic 63, 3) := by decide +kernel
theorem dX7_whyNoPick_9 : decode cX7_whyNoPick 9 = .ok (.ifCond .ne 5, 3) := by decide +kernel
theorem dX7_whyNoPick_12 : decode cX7_whyNoPick 12 = .ok (.iconst 0, 1) := by decide +kernel
theorem dX7_whyNoPick_13 : decode cX7_whyNoPick 13 = .ok (.ireturn, 1) := by decide +kernel
theorem dX7_whyNoPick_14 : decode cX7_whyNoPick 14 = .ok (.aload_n 0, 1) := by decide +kernel
theorem dX7_whyNoPick_15 : decode cX7_whyNoPick 15 = .ok (.iload_n 1, 1) := by decide +kernel
theorem dX7_whyNoPick_16 : decode cX7_whyNoPick 16 = .ok (.iload_n 2, 1) := by decide +kernel
theorem dX7_whyNoPick_17 : decode cX7_whyNoPick 17 = .ok (.invokevirtual 217, 3) := by decide +kernel
theorem dX7_whyNoPick_20 : decode cX7_whyNoPick 20 = .ok (.istore 4, 2) := by decide +kernel
theorem dX7_whyNoPick_22 : decode cX7_whyNoPick 22 = .ok (.iload 4, 2) := by decide +kernel
theorem dX7_whyNoPick_24 : decode cX7_whyNoPick 24 = .ok (.ifCond .lt 8, 3) := by decide +kernel
theorem dX7_whyNoPick_27 : decode cX7_whyNoPick 27 = .ok (.iload 4, 2) := by decide +kernel
theorem dX7_whyNoPick_29 : decode cX7_whyNoPick 29 = .ok (.goto 18, 3) := by decide +kernel
theorem dX7_whyNoPick_32 : decode cX7_whyNoPick 32 = .ok (.aload_n 0, 1) := by decide +kernel
theorem dX7_whyNoPick_33 : decode cX7_whyNoPick 33 = .ok (.iload_n 1, 1) := by decide +kernel
theorem dX7_whyNoPick_34 : decode cX7_whyNoPick 34 = .ok (.iload_n 2, 1) := by decide +kernel
theorem dX7_whyNoPick_35 : decode cX7_whyNoPick 35 = .ok (.iload_n 3, 1) := by decide +kernel
theorem dX7_whyNoPick_36 : decode cX7_whyNoPick 36 = .ok (.invokevirtual 234, 3) := by decide +kernel
theorem dX7_whyNoPick_39 : decode cX7_whyNoPick 39 = .ok (.ifCond .ge 7, 3) := by decide +kernel
theorem dX7_whyNoPick_42 : decode cX7_whyNoPick 42 = .ok (.iconst 4, 1) := by decide +kernel
theorem dX7_whyNoPick_43 : decode cX7_whyNoPick 43 = .ok (.goto 4, 3) := by decide +kernel
theorem dX7_whyNoPick_46 : decode cX7_whyNoPick 46 = .ok (.iconst (-1), 1) := by decide +kernel
theorem dX7_whyNoPick_47 : decode cX7_whyNoPick 47 = .ok (.ireturn, 1) := by decide +kernel
def fX7_whyNoPick (s : Mem) (p0 : Int32) (p1 : Int32) (p2 : Int32) : Option Int32 :=
  (fX7_in (p2.toInt64) (0 : Int64) (4 : Int64)).bind (fun y1 => if y1 = (0 : Int32) then some (0 : Int32) else (fX7_whyNot s p0 p1).bind (fun y2 => if y2 < (0 : Int32) then (fX7_picked s p0 p1 p2).bind (fun y3 => if (0 : Int32) ≤ y3 then some (-1 : Int32) else some (4 : Int32)) else some y2))
set_option maxRecDepth 4000 in
theorem jjX7_whyNoPick {X : Scr} (d : Nat) (s : Mem) (p0 : Int32) (p1 : Int32) (p2 : Int32) {r : Int32} {w : Option Value} {s' : Mem} (hh : fX7_whyNoPick s p0 p1 p2 = some r) (hk : w = some (.int r) ∧ s = s') : J X MX7_whyNoPick (d + 9) 0 [some (.ref 19), some (.int p0), some (.int p1), some (.int p2), none] [] s w s' := by
  unfold fX7_whyNoPick at hh
  refine J_iload_n (pc := 0) dX7_whyNoPick_0 rfl ?_
  refine J_i2l (pc := 1) dX7_whyNoPick_1 ?_
  refine J_lconst (pc := 2) (v := 0) dX7_whyNoPick_2 rfl ?_
  refine J_ldc2 (pc := 3) klX7_232 dX7_whyNoPick_3 ?_
  obtain ⟨y1, hy1, hh⟩ := bd_some hh
  refine J_callSi (pc := 6) (M' := MX7_in) (rest := []) (As := [.long (p2.toInt64), .long (0 : Int64), .long (4 : Int64)]) (L0 := [some (.long (p2.toInt64)), none, some (.long (0 : Int64)), none, some (.long (4 : Int64)), none]) okX7_in osX7_in mlX7_63 rfl rfl (Nat.le_of_ble_eq_true rfl) dX7_whyNoPick_6 rfl (Nat.le_of_ble_eq_true rfl) (jX7_in (X := X) (d + 8) s (p2.toInt64) (0 : Int64) (4 : Int64) hy1) ?_
  refine J_if_ne (pc := 9) 14 dX7_whyNoPick_9 (by decide) (fun c6 => ?_) (fun c6 => ?_)
  · replace hh := (if_neg c6).symm.trans hh
    refine J_aload_n (pc := 14) dX7_whyNoPick_14 rfl ?_
    refine J_iload_n (pc := 15) dX7_whyNoPick_15 rfl ?_
    refine J_iload_n (pc := 16) dX7_whyNoPick_16 rfl ?_
    obtain ⟨y2, hy2, hh⟩ := bd_some hh
    refine J_callVi (pc := 17) (M' := MX7_whyNot) (a := 19) (rest := []) (As := [.int p0, .int p1]) (L0 := [some (.ref 19), some (.int p0), some (.int p1)]) okX7_whyNot ovX7_whyNot mlX7_217 clX7 so19 rfl rfl (Nat.le_of_ble_eq_true rfl) dX7_whyNoPick_17 rfl (Nat.le_of_ble_eq_true rfl) (jX7_whyNot (X := X) (d + 6) s p0 p1 hy2) ?_
    refine J_istore (pc := 20) (L' := [some (.ref 19), some (.int p0), some (.int p1), some (.int p2), some (.int y2)]) dX7_whyNoPick_20 rfl (Nat.le_of_ble_eq_true rfl) rfl ?_
    refine J_iload (pc := 22) dX7_whyNoPick_22 rfl ?_
    refine J_if_lt (pc := 24) 32 dX7_whyNoPick_24 (by decide) (fun c5 => ?_) (fun c5 => ?_)
    · replace hh := (if_pos c5).symm.trans hh
      refine J_aload_n (pc := 32) dX7_whyNoPick_32 rfl ?_
      refine J_iload_n (pc := 33) dX7_whyNoPick_33 rfl ?_
      refine J_iload_n (pc := 34) dX7_whyNoPick_34 rfl ?_
      refine J_iload_n (pc := 35) dX7_whyNoPick_35 rfl ?_
      obtain ⟨y3, hy3, hh⟩ := bd_some hh
      refine J_callVi (pc := 36) (M' := MX7_picked) (a := 19) (rest := []) (As := [.int p0, .int p1, .int p2]) (L0 := [some (.ref 19), some (.int p0), some (.int p1), some (.int p2), none, none]) okX7_picked ovX7_picked mlX7_234 clX7 so19 rfl rfl (Nat.le_of_ble_eq_true rfl) dX7_whyNoPick_36 rfl (Nat.le_of_ble_eq_true rfl) (jX7_picked (X := X) d s p0 p1 p2 hy3) ?_
      refine J_if_ge (pc := 39) 46 dX7_whyNoPick_39 (by decide) (fun c4 => ?_) (fun c4 => ?_)
      · replace hh := (if_pos c4).symm.trans hh
        refine J_iconst (pc := 46) dX7_whyNoPick_46 ci_m1 ?_
        obtain rfl := Option.some.inj hh
        obtain ⟨rfl, rfl⟩ := hk
        exact J_ret (w := some (.int (-1 : Int32))) ⟨dX7_whyNoPick_47, _, rfl, rfl⟩
      · replace hh := (if_neg c4).symm.trans hh
        refine J_iconst (pc := 42) dX7_whyNoPick_42 ci_4 ?_
        refine J_goto (pc := 43) 47 dX7_whyNoPick_43 (by decide) ?_
        obtain rfl := Option.some.inj hh
        obtain ⟨rfl, rfl⟩ := hk
        exact J_ret (w := some (.int (4 : Int32))) ⟨dX7_whyNoPick_47, _, rfl, rfl⟩
    · replace hh := (if_neg c5).symm.trans hh
      refine J_iload (pc := 27) dX7_whyNoPick_27 rfl ?_
      refine J_goto (pc := 29) 47 dX7_whyNoPick_29 (by decide) ?_
      obtain rfl := Option.some.inj hh
      obtain ⟨rfl, rfl⟩ := hk
      exact J_ret (w := some (.int y2)) ⟨dX7_whyNoPick_47, _, rfl, rfl⟩
  · replace hh := (if_pos c6).symm.trans hh
    refine J_iconst (pc := 12) dX7_whyNoPick_12 ci_0 ?_
    obtain rfl := Option.some.inj hh
    obtain ⟨rfl, rfl⟩ := hk
    exact J_ret (w := some (.int (0 : Int32))) ⟨dX7_whyNoPick_13, _, rfl, rfl⟩
theorem jX7_whyNoPick {X : Scr} (d : Nat) (s : Mem) (p0 : Int32) (p1 : Int32) (p2 : Int32) {r : Int32} (hh : fX7_whyNoPick s p0 p1 p2 = some r) : J X MX7_whyNoPick (d + 9) 0 [some (.ref 19), some (.int p0), some (.int p1), some (.int p2), none] [] s (some (.int r)) s := jjX7_whyNoPick d s p0 p1 p2 hh ⟨rfl, rfl⟩
theorem dX7_pick_0 : decode cX7_pick 0 = .ok (.aload_n 0, 1) := by decide +kernel
theorem dX7_pick_1 : decode cX7_pick 1 = .ok (.iload_n 1, 1) := by decide +kernel
theorem dX7_pick_2 : decode cX7_pick 2 = .ok (.iload_n 2, 1) := by decide +kernel
theorem dX7_pick_3 : decode cX7_pick 3 = .ok (.iload_n 3, 1) := by decide +kernel
theorem dX7_pick_4 : decode cX7_pick 4 = .ok (.invokevirtual 237, 3) := by decide +kernel
theorem dX7_pick_7 : decode cX7_pick 7 = .ok (.istore 4, 2) := by decide +kernel
theorem dX7_pick_9 : decode cX7_pick 9 = .ok (.iload 4, 2) := by decide +kernel
theorem dX7_pick_11 : decode cX7_pick 11 = .ok (.ifCond .lt 10, 3) := by decide +kernel
theorem dX7_pick_14 : decode cX7_pick 14 = .ok (.aload_n 0, 1) := by decide +kernel
theorem dX7_pick_15 : decode cX7_pick 15 = .ok (.iload 4, 2) := by decide +kernel
theorem dX7_pick_17 : decode cX7_pick 17 = .ok (.invokevirtual 158, 3) := by decide +kernel
theorem dX7_pick_20 : decode cX7_pick 20 = .ok (.ireturn, 1) := by decide +kernel
theorem dX7_pick_21 : decode cX7_pick 21 = .ok (.aload_n 0, 1) := by decide +kernel
theorem dX7_pick_22 : decode cX7_pick 22 = .ok (.invokevirtual 161, 3) := by decide +kernel
theorem dX7_pick_25 : decode cX7_pick 25 = .ok (.aload_n 0, 1) := by decide +kernel
theorem dX7_pick_26 : decode cX7_pick 26 = .ok (.iload_n 1, 1) := by decide +kernel
theorem dX7_pick_27 : decode cX7_pick 27 = .ok (.iload_n 2, 1) := by decide +kernel
theorem dX7_pick_28 : decode cX7_pick 28 = .ok (.aload_n 0, 1) := by decide +kernel
theorem dX7_pick_29 : decode cX7_pick 29 = .ok (.iload_n 1, 1) := by decide +kernel
theorem dX7_pick_30 : decode cX7_pick 30 = .ok (.iload_n 2, 1) := by decide +kernel
theorem dX7_pick_31 : decode cX7_pick 31 = .ok (.iload_n 3, 1) := by decide +kernel
theorem dX7_pick_32 : decode cX7_pick 32 = .ok (.invokevirtual 234, 3) := by decide +kernel
theorem dX7_pick_35 : decode cX7_pick 35 = .ok (.invokevirtual 174, 3) := by decide +kernel
theorem dX7_pick_38 : decode cX7_pick 38 = .ok (.aload_n 0, 1) := by decide +kernel
theorem dX7_pick_39 : decode cX7_pick 39 = .ok (.invokevirtual 168, 3) := by decide +kernel
theorem dX7_pick_42 : decode cX7_pick 42 = .ok (.aload_n 0, 1) := by decide +kernel
theorem dX7_pick_43 : decode cX7_pick 43 = .ok (.iload_n 1, 1) := by decide +kernel
theorem dX7_pick_44 : decode cX7_pick 44 = .ok (.iload_n 2, 1) := by decide +kernel
theorem dX7_pick_45 : decode cX7_pick 45 = .ok (.invokevirtual 105, 3) := by decide +kernel
theorem dX7_pick_48 : decode cX7_pick 48 = .ok (.ireturn, 1) := by decide +kernel
def fX7_pick (s : Mem) (p0 : Int32) (p1 : Int32) (p2 : Int32) : Option (Int32 × Mem) :=
  (fX7_whyNoPick s p0 p1 p2).bind (fun y1 => if y1 < (0 : Int32) then (fX7_laysAside s).bind (fun y2 => (fX7_picked y2 p0 p1 p2).bind (fun y3 => (fX7_puts y2 p0 p1 y3).bind (fun y4 => (fX7_changes y4).bind (fun y5 => (fX7_triple y5 p0 p1).bind (fun y6 => some ((y6, y5))))))) else (fX7_finds s y1).bind (fun y7 => some ((y7.1, y7.2))))
set_option maxRecDepth 4000 in
theorem jjX7_pick {X : Scr} (d : Nat) (s : Mem) (p0 : Int32) (p1 : Int32) (p2 : Int32) {r : (Int32 × Mem)} {w : Option Value} {s' : Mem} (hh : fX7_pick s p0 p1 p2 = some r) (hk : w = some (.int r.1) ∧ r.2 = s') : J X MX7_pick (d + 10) 0 [some (.ref 19), some (.int p0), some (.int p1), some (.int p2), none] [] s w s' := by
  unfold fX7_pick at hh
  refine J_aload_n (pc := 0) dX7_pick_0 rfl ?_
  refine J_iload_n (pc := 1) dX7_pick_1 rfl ?_
  refine J_iload_n (pc := 2) dX7_pick_2 rfl ?_
  refine J_iload_n (pc := 3) dX7_pick_3 rfl ?_
  obtain ⟨y1, hy1, hh⟩ := bd_some hh
  refine J_callVi (pc := 4) (M' := MX7_whyNoPick) (a := 19) (rest := []) (As := [.int p0, .int p1, .int p2]) (L0 := [some (.ref 19), some (.int p0), some (.int p1), some (.int p2), none]) okX7_whyNoPick ovX7_whyNoPick mlX7_237 clX7 so19 rfl rfl (Nat.le_of_ble_eq_true rfl) dX7_pick_4 rfl (Nat.le_of_ble_eq_true rfl) (jX7_whyNoPick (X := X) d s p0 p1 p2 hy1) ?_
  refine J_istore (pc := 7) (L' := [some (.ref 19), some (.int p0), some (.int p1), some (.int p2), some (.int y1)]) dX7_pick_7 rfl (Nat.le_of_ble_eq_true rfl) rfl ?_
  refine J_iload (pc := 9) dX7_pick_9 rfl ?_
  refine J_if_lt (pc := 11) 21 dX7_pick_11 (by decide) (fun c8 => ?_) (fun c8 => ?_)
  · replace hh := (if_pos c8).symm.trans hh
    refine J_aload_n (pc := 21) dX7_pick_21 rfl ?_
    obtain ⟨y2, hy2, hh⟩ := bd_some hh
    refine J_callV0 (pc := 22) (M' := MX7_laysAside) (a := 19) (rest := []) (As := []) (L0 := [some (.ref 19), none]) okX7_laysAside ovX7_laysAside mlX7_161 clX7 so19 rfl rfl (Nat.le_of_ble_eq_true rfl) dX7_pick_22 rfl (Nat.le_of_ble_eq_true rfl) (jX7_laysAside (X := X) (d + 9) s hy2) ?_
    refine J_aload_n (pc := 25) dX7_pick_25 rfl ?_
    refine J_iload_n (pc := 26) dX7_pick_26 rfl ?_
    refine J_iload_n (pc := 27) dX7_pick_27 rfl ?_
    refine J_aload_n (pc := 28) dX7_pick_28 rfl ?_
    refine J_iload_n (pc := 29) dX7_pick_29 rfl ?_
    refine J_iload_n (pc := 30) dX7_pick_30 rfl ?_
    refine J_iload_n (pc := 31) dX7_pick_31 rfl ?_
    obtain ⟨y3, hy3, hh⟩ := bd_some hh
    refine J_callVi (pc := 32) (M' := MX7_picked) (a := 19) (rest := [.int p1, .int p0, .ref 19]) (As := [.int p0, .int p1, .int p2]) (L0 := [some (.ref 19), some (.int p0), some (.int p1), some (.int p2), none, none]) okX7_picked ovX7_picked mlX7_234 clX7 so19 rfl rfl (Nat.le_of_ble_eq_true rfl) dX7_pick_32 rfl (Nat.le_of_ble_eq_true rfl) (jX7_picked (X := X) (d + 1) y2 p0 p1 p2 hy3) ?_
    obtain ⟨y4, hy4, hh⟩ := bd_some hh
    refine J_callV0 (pc := 35) (M' := MX7_puts) (a := 19) (rest := []) (As := [.int p0, .int p1, .int y3]) (L0 := [some (.ref 19), some (.int p0), some (.int p1), some (.int y3)]) okX7_puts ovX7_puts mlX7_174 clX7 so19 rfl rfl (Nat.le_of_ble_eq_true rfl) dX7_pick_35 rfl (Nat.le_of_ble_eq_true rfl) (jX7_puts (X := X) (d + 9) y2 p0 p1 y3 hy4) ?_
    refine J_aload_n (pc := 38) dX7_pick_38 rfl ?_
    obtain ⟨y5, hy5, hh⟩ := bd_some hh
    refine J_callV0 (pc := 39) (M' := MX7_changes) (a := 19) (rest := []) (As := []) (L0 := [some (.ref 19), none, none]) okX7_changes ovX7_changes mlX7_168 clX7 so19 rfl rfl (Nat.le_of_ble_eq_true rfl) dX7_pick_39 rfl (Nat.le_of_ble_eq_true rfl) (jX7_changes (X := X) (d + 9) y4 hy5) ?_
    refine J_aload_n (pc := 42) dX7_pick_42 rfl ?_
    refine J_iload_n (pc := 43) dX7_pick_43 rfl ?_
    refine J_iload_n (pc := 44) dX7_pick_44 rfl ?_
    obtain ⟨y6, hy6, hh⟩ := bd_some hh
    refine J_callVi (pc := 45) (M' := MX7_triple) (a := 19) (rest := []) (As := [.int p0, .int p1]) (L0 := [some (.ref 19), some (.int p0), some (.int p1)]) okX7_triple ovX7_triple mlX7_105 clX7 so19 rfl rfl (Nat.le_of_ble_eq_true rfl) dX7_pick_45 rfl (Nat.le_of_ble_eq_true rfl) (jX7_triple (X := X) (d + 9) y5 p0 p1 hy6) ?_
    obtain rfl := Option.some.inj hh
    obtain ⟨rfl, rfl⟩ := hk
    exact J_ret (w := some (.int y6)) ⟨dX7_pick_48, _, rfl, rfl⟩
  · replace hh := (if_neg c8).symm.trans hh
    refine J_aload_n (pc := 14) dX7_pick_14 rfl ?_
    refine J_iload (pc := 15) dX7_pick_15 rfl ?_
    obtain ⟨y7, hy7, hh⟩ := bd_some hh
    refine J_callVi (pc := 17) (M' := MX7_finds) (a := 19) (rest := []) (As := [.int y1]) (L0 := [some (.ref 19), some (.int y1)]) okX7_finds ovX7_finds mlX7_158 clX7 so19 rfl rfl (Nat.le_of_ble_eq_true rfl) dX7_pick_17 rfl (Nat.le_of_ble_eq_true rfl) (jX7_finds (X := X) (d + 9) s y1 hy7) ?_
    obtain rfl := Option.some.inj hh
    obtain ⟨rfl, rfl⟩ := hk
    exact J_ret (w := some (.int y7.1)) ⟨dX7_pick_20, _, rfl, rfl⟩
theorem jX7_pick {X : Scr} (d : Nat) (s : Mem) (p0 : Int32) (p1 : Int32) (p2 : Int32) {r : (Int32 × Mem)} (hh : fX7_pick s p0 p1 p2 = some r) : J X MX7_pick (d + 10) 0 [some (.ref 19), some (.int p0), some (.int p1), some (.int p2), none] [] s (some (.int r.1)) r.2 := jjX7_pick d s p0 p1 p2 hh ⟨rfl, rfl⟩
