theorem dX3_prepare_0 : decode cX3_prepare 0 = .ok (.aload_n 0, 1) := by decide +kernel
theorem dX3_prepare_1 : decode cX3_prepare 1 = .ok (.bipush 6, 2) := by decide +kernel
theorem dX3_prepare_3 : decode cX3_prepare 3 = .ok (.aload_n 1, 1) := by decide +kernel
theorem dX3_prepare_4 : decode cX3_prepare 4 = .ok (.invokevirtual 31, 3) := by decide +kernel
theorem dX3_prepare_7 : decode cX3_prepare 7 = .ok (.invokestatic 37, 3) := by decide +kernel
theorem dX3_prepare_10 : decode cX3_prepare 10 = .ok (.putfield 43, 3) := by decide +kernel
theorem dX3_prepare_13 : decode cX3_prepare 13 = .ok (.aload_n 0, 1) := by decide +kernel
theorem dX3_prepare_14 : decode cX3_prepare 14 = .ok (.iconst 0, 1) := by decide +kernel
theorem dX3_prepare_15 : decode cX3_prepare 15 = .ok (.putfield 46, 3) := by decide +kernel
theorem dX3_prepare_18 : decode cX3_prepare 18 = .ok (.iconst 0, 1) := by decide +kernel
theorem dX3_prepare_19 : decode cX3_prepare 19 = .ok (.istore_n 3, 1) := by decide +kernel
theorem dX3_prepare_20 : decode cX3_prepare 20 = .ok (.iload_n 3, 1) := by decide +kernel
theorem dX3_prepare_21 : decode cX3_prepare 21 = .ok (.aload_n 0, 1) := by decide +kernel
theorem dX3_prepare_22 : decode cX3_prepare 22 = .ok (.getfield 43, 3) := by decide +kernel
theorem dX3_prepare_25 : decode cX3_prepare 25 = .ok (.if_icmp .ge 105, 3) := by decide +kernel
theorem dX3_prepare_28 : decode cX3_prepare 28 = .ok (.aload_n 1, 1) := by decide +kernel
theorem dX3_prepare_29 : decode cX3_prepare 29 = .ok (.iload_n 3, 1) := by decide +kernel
theorem dX3_prepare_30 : decode cX3_prepare 30 = .ok (.iload_n 2, 1) := by decide +kernel
theorem dX3_prepare_31 : decode cX3_prepare 31 = .ok (.invokevirtual 49, 3) := by decide +kernel
theorem dX3_prepare_34 : decode cX3_prepare 34 = .ok (.ifCond .eq 12, 3) := by decide +kernel
theorem dX3_prepare_37 : decode cX3_prepare 37 = .ok (.aload_n 1, 1) := by decide +kernel
theorem dX3_prepare_38 : decode cX3_prepare 38 = .ok (.iload_n 3, 1) := by decide +kernel
theorem dX3_prepare_39 : decode cX3_prepare 39 = .ok (.iload_n 2, 1) := by decide +kernel
theorem dX3_prepare_40 : decode cX3_prepare 40 = .ok (.invokevirtual 53, 3) := by decide +kernel
theorem dX3_prepare_43 : decode cX3_prepare 43 = .ok (.goto 4, 3) := by decide +kernel
theorem dX3_prepare_46 : decode cX3_prepare 46 = .ok (.iconst 0, 1) := by decide +kernel
theorem dX3_prepare_47 : decode cX3_prepare 47 = .ok (.istore 4, 2) := by decide +kernel
theorem dX3_prepare_49 : decode cX3_prepare 49 = .ok (.aload_n 0, 1) := by decide +kernel
theorem dX3_prepare_50 : decode cX3_prepare 50 = .ok (.getfield 15, 3) := by decide +kernel
theorem dX3_prepare_53 : decode cX3_prepare 53 = .ok (.iload_n 3, 1) := by decide +kernel
theorem dX3_prepare_54 : decode cX3_prepare 54 = .ok (.iconst 1, 1) := by decide +kernel
theorem dX3_prepare_55 : decode cX3_prepare 55 = .ok (.iload 4, 2) := by decide +kernel
theorem dX3_prepare_57 : decode cX3_prepare 57 = .ok (.iconst 1, 1) := by decide +kernel
theorem dX3_prepare_58 : decode cX3_prepare 58 = .ok (.ishl, 1) := by decide +kernel
theorem dX3_prepare_59 : decode cX3_prepare 59 = .ok (.ior, 1) := by decide +kernel
theorem dX3_prepare_60 : decode cX3_prepare 60 = .ok (.iastore, 1) := by decide +kernel
theorem dX3_prepare_61 : decode cX3_prepare 61 = .ok (.aload_n 0, 1) := by decide +kernel
theorem dX3_prepare_62 : decode cX3_prepare 62 = .ok (.getfield 18, 3) := by decide +kernel
theorem dX3_prepare_65 : decode cX3_prepare 65 = .ok (.iload_n 3, 1) := by decide +kernel
theorem dX3_prepare_66 : decode cX3_prepare 66 = .ok (.aload_n 1, 1) := by decide +kernel
theorem dX3_prepare_67 : decode cX3_prepare 67 = .ok (.iload_n 3, 1) := by decide +kernel
theorem dX3_prepare_68 : decode cX3_prepare 68 = .ok (.iload_n 2, 1) := by decide +kernel
theorem dX3_prepare_69 : decode cX3_prepare 69 = .ok (.invokevirtual 56, 3) := by decide +kernel
theorem dX3_prepare_72 : decode cX3_prepare 72 = .ok (.iconst 1, 1) := by decide +kernel
theorem dX3_prepare_73 : decode cX3_prepare 73 = .ok (.iadd, 1) := by decide +kernel
theorem dX3_prepare_74 : decode cX3_prepare 74 = .ok (.iastore, 1) := by decide +kernel
theorem dX3_prepare_75 : decode cX3_prepare 75 = .ok (.aload_n 0, 1) := by decide +kernel
theorem dX3_prepare_76 : decode cX3_prepare 76 = .ok (.getfield 21, 3) := by decide +kernel
theorem dX3_prepare_79 : decode cX3_prepare 79 = .ok (.iload_n 3, 1) := by decide +kernel
theorem dX3_prepare_80 : decode cX3_prepare 80 = .ok (.aload_n 0, 1) := by decide +kernel
theorem dX3_prepare_81 : decode cX3_prepare 81 = .ok (.getfield 18, 3) := by decide +kernel
theorem dX3_prepare_84 : decode cX3_prepare 84 = .ok (.iload_n 3, 1) := by decide +kernel
theorem dX3_prepare_85 : decode cX3_prepare 85 = .ok (.iaload, 1) := by decide +kernel
theorem dX3_prepare_86 : decode cX3_prepare 86 = .ok (.iastore, 1) := by decide +kernel
theorem dX3_prepare_87 : decode cX3_prepare 87 = .ok (.iconst 0, 1) := by decide +kernel
theorem dX3_prepare_88 : decode cX3_prepare 88 = .ok (.istore 5, 2) := by decide +kernel
theorem dX3_prepare_90 : decode cX3_prepare 90 = .ok (.iload 5, 2) := by decide +kernel
theorem dX3_prepare_92 : decode cX3_prepare 92 = .ok (.bipush 8, 2) := by decide +kernel
theorem dX3_prepare_94 : decode cX3_prepare 94 = .ok (.if_icmp .ge 30, 3) := by decide +kernel
theorem dX3_prepare_97 : decode cX3_prepare 97 = .ok (.iload 4, 2) := by decide +kernel
theorem dX3_prepare_99 : decode cX3_prepare 99 = .ok (.iload 5, 2) := by decide +kernel
theorem dX3_prepare_101 : decode cX3_prepare 101 = .ok (.ishr, 1) := by decide +kernel
theorem dX3_prepare_102 : decode cX3_prepare 102 = .ok (.iconst 1, 1) := by decide +kernel
theorem dX3_prepare_103 : decode cX3_prepare 103 = .ok (.iand, 1) := by decide +kernel
theorem dX3_prepare_104 : decode cX3_prepare 104 = .ok (.ifCond .eq 14, 3) := by decide +kernel
theorem dX3_prepare_107 : decode cX3_prepare 107 = .ok (.aload_n 0, 1) := by decide +kernel
theorem dX3_prepare_108 : decode cX3_prepare 108 = .ok (.dup, 1) := by decide +kernel
theorem dX3_prepare_109 : decode cX3_prepare 109 = .ok (.getfield 46, 3) := by decide +kernel
theorem dX3_prepare_112 : decode cX3_prepare 112 = .ok (.iload 5, 2) := by decide +kernel
theorem dX3_prepare_114 : decode cX3_prepare 114 = .ok (.ior, 1) := by decide +kernel
theorem dX3_prepare_115 : decode cX3_prepare 115 = .ok (.putfield 46, 3) := by decide +kernel
theorem dX3_prepare_118 : decode cX3_prepare 118 = .ok (.iinc 5 1, 3) := by decide +kernel
theorem dX3_prepare_121 : decode cX3_prepare 121 = .ok (.goto (-31), 3) := by decide +kernel
theorem dX3_prepare_124 : decode cX3_prepare 124 = .ok (.iinc 3 1, 3) := by decide +kernel
theorem dX3_prepare_127 : decode cX3_prepare 127 = .ok (.goto (-107), 3) := by decide +kernel
theorem dX3_prepare_130 : decode cX3_prepare 130 = .ok (.iconst 0, 1) := by decide +kernel
theorem dX3_prepare_131 : decode cX3_prepare 131 = .ok (.istore_n 3, 1) := by decide +kernel
theorem dX3_prepare_132 : decode cX3_prepare 132 = .ok (.iload_n 3, 1) := by decide +kernel
theorem dX3_prepare_133 : decode cX3_prepare 133 = .ok (.iconst 3, 1) := by decide +kernel
theorem dX3_prepare_134 : decode cX3_prepare 134 = .ok (.if_icmp .ge 83, 3) := by decide +kernel
theorem dX3_prepare_137 : decode cX3_prepare 137 = .ok (.aload_n 0, 1) := by decide +kernel
theorem dX3_prepare_138 : decode cX3_prepare 138 = .ok (.getfield 27, 3) := by decide +kernel
theorem dX3_prepare_141 : decode cX3_prepare 141 = .ok (.iload_n 3, 1) := by decide +kernel
theorem dX3_prepare_142 : decode cX3_prepare 142 = .ok (.aload_n 1, 1) := by decide +kernel
theorem dX3_prepare_143 : decode cX3_prepare 143 = .ok (.iload_n 2, 1) := by decide +kernel
theorem dX3_prepare_144 : decode cX3_prepare 144 = .ok (.iload_n 3, 1) := by decide +kernel
theorem dX3_prepare_145 : decode cX3_prepare 145 = .ok (.invokevirtual 59, 3) := by decide +kernel
theorem dX3_prepare_148 : decode cX3_prepare 148 = .ok (.bastore, 1) := by decide +kernel
theorem dX3_prepare_149 : decode cX3_prepare 149 = .ok (.aload_n 1, 1) := by decide +kernel
theorem dX3_prepare_150 : decode cX3_prepare 150 = .ok (.iload_n 2, 1) := by decide +kernel
theorem dX3_prepare_151 : decode cX3_prepare 151 = .ok (.iload_n 3, 1) := by decide +kernel
theorem dX3_prepare_152 : decode cX3_prepare 152 = .ok (.invokevirtual 62, 3) := by decide +kernel
theorem dX3_prepare_155 : decode cX3_prepare 155 = .ok (.istore 4, 2) := by decide +kernel
theorem dX3_prepare_157 : decode cX3_prepare 157 = .ok (.aload_n 0, 1) := by decide +kernel
theorem dX3_prepare_158 : decode cX3_prepare 158 = .ok (.getfield 24, 3) := by decide +kernel
theorem dX3_prepare_161 : decode cX3_prepare 161 = .ok (.iconst 2, 1) := by decide +kernel
theorem dX3_prepare_162 : decode cX3_prepare 162 = .ok (.iload_n 3, 1) := by decide +kernel
theorem dX3_prepare_163 : decode cX3_prepare 163 = .ok (.imul, 1) := by decide +kernel
theorem dX3_prepare_164 : decode cX3_prepare 164 = .ok (.iload 4, 2) := by decide +kernel
theorem dX3_prepare_166 : decode cX3_prepare 166 = .ok (.ifCond .eq 14, 3) := by decide +kernel
theorem dX3_prepare_169 : decode cX3_prepare 169 = .ok (.aload_n 1, 1) := by decide +kernel
theorem dX3_prepare_170 : decode cX3_prepare 170 = .ok (.iload_n 2, 1) := by decide +kernel
theorem dX3_prepare_171 : decode cX3_prepare 171 = .ok (.iload_n 3, 1) := by decide +kernel
theorem dX3_prepare_172 : decode cX3_prepare 172 = .ok (.iconst 0, 1) := by decide +kernel
theorem dX3_prepare_173 : decode cX3_prepare 173 = .ok (.iconst 2, 1) := by decide +kernel
theorem dX3_prepare_174 : decode cX3_prepare 174 = .ok (.invokevirtual 65, 3) := by decide +kernel
theorem dX3_prepare_177 : decode cX3_prepare 177 = .ok (.goto 5, 3) := by decide +kernel
theorem dX3_prepare_180 : decode cX3_prepare 180 = .ok (.bipush 9, 2) := by decide +kernel
theorem dX3_prepare_182 : decode cX3_prepare 182 = .ok (.iastore, 1) := by decide +kernel
theorem dX3_prepare_183 : decode cX3_prepare 183 = .ok (.aload_n 0, 1) := by decide +kernel
theorem dX3_prepare_184 : decode cX3_prepare 184 = .ok (.getfield 24, 3) := by decide +kernel
theorem dX3_prepare_187 : decode cX3_prepare 187 = .ok (.iconst 2, 1) := by decide +kernel
theorem dX3_prepare_188 : decode cX3_prepare 188 = .ok (.iload_n 3, 1) := by decide +kernel
theorem dX3_prepare_189 : decode cX3_prepare 189 = .ok (.imul, 1) := by decide +kernel
theorem dX3_prepare_190 : decode cX3_prepare 190 = .ok (.iconst 1, 1) := by decide +kernel
theorem dX3_prepare_191 : decode cX3_prepare 191 = .ok (.iadd, 1) := by decide +kernel
theorem dX3_prepare_192 : decode cX3_prepare 192 = .ok (.iload 4, 2) := by decide +kernel
theorem dX3_prepare_194 : decode cX3_prepare 194 = .ok (.ifCond .eq 14, 3) := by decide +kernel
theorem dX3_prepare_197 : decode cX3_prepare 197 = .ok (.aload_n 1, 1) := by decide +kernel
theorem dX3_prepare_198 : decode cX3_prepare 198 = .ok (.iload_n 2, 1) := by decide +kernel
theorem dX3_prepare_199 : decode cX3_prepare 199 = .ok (.iload_n 3, 1) := by decide +kernel
theorem dX3_prepare_200 : decode cX3_prepare 200 = .ok (.iconst 1, 1) := by decide +kernel
theorem dX3_prepare_201 : decode cX3_prepare 201 = .ok (.iconst 2, 1) := by decide +kernel
theorem dX3_prepare_202 : decode cX3_prepare 202 = .ok (.invokevirtual 65, 3) := by decide +kernel
theorem dX3_prepare_205 : decode cX3_prepare 205 = .ok (.goto 5, 3) := by decide +kernel
theorem dX3_prepare_208 : decode cX3_prepare 208 = .ok (.bipush 9, 2) := by decide +kernel
theorem dX3_prepare_210 : decode cX3_prepare 210 = .ok (.iastore, 1) := by decide +kernel
theorem dX3_prepare_211 : decode cX3_prepare 211 = .ok (.iinc 3 1, 3) := by decide +kernel
theorem dX3_prepare_214 : decode cX3_prepare 214 = .ok (.goto (-82), 3) := by decide +kernel
theorem dX3_prepare_217 : decode cX3_prepare 217 = .ok (.return_, 1) := by decide +kernel
def bX3_prepare_90 (s : Mem) (v2 : Int32) (v3 : Int32) (v4 : Int32) (v5 : Int32) : Option (Mem ⊕ (Int32 × Mem)) :=
  if (8 : Int32) ≤ v5 then some (Sum.inl s) else if ((v4 >>> (v5 &&& 31)) &&& (1 : Int32)) = (0 : Int32) then lt (v5 + (1 : Int32)) (fun x13 => some (Sum.inr (x13, s))) else lt (up2 s 5 7 ((s.1 5 7) ||| v5)) (fun s14 => lt (v5 + (1 : Int32)) (fun x15 => some (Sum.inr (x15, s14))))
set_option maxRecDepth 4000 in
theorem jbX3_prepare_90 {X : Scr} (d : Nat) (s : Mem) (v2 : Int32) (v3 : Int32) (v4 : Int32) (v5 : Int32) {r : (Mem ⊕ (Int32 × Mem))} {w : Option Value} {s' : Mem} (hh : bX3_prepare_90 s v2 v3 v4 v5 = some r) (hk : Sum.elim (fun t : Mem => J X MX3_prepare (d + 3) 124 [some (.ref 5), some (.ref 1), some (.int v2), some (.int v3), none, none] [] t w s') (fun a : (Int32 × Mem) => J X MX3_prepare (d + 3) 90 [some (.ref 5), some (.ref 1), some (.int v2), some (.int v3), some (.int v4), some (.int a.1)] [] a.2 w s') r) : J X MX3_prepare (d + 3) 90 [some (.ref 5), some (.ref 1), some (.int v2), some (.int v3), some (.int v4), some (.int v5)] [] s w s' := by
  unfold bX3_prepare_90 at hh
  refine J_iload (pc := 90) dX3_prepare_90 rfl ?_
  refine J_bipush (pc := 92) dX3_prepare_92 cb_8 ?_
  refine J_icmp_ge (pc := 94) 124 dX3_prepare_94 (by decide) (fun c17 => ?_) (fun c17 => ?_)
  · replace hh := (if_pos c17).symm.trans hh
    refine J_drop 4 (L' := [some (.ref 5), some (.ref 1), some (.int v2), some (.int v3), none, some (.int v5)]) rfl ?_
    refine J_drop 5 (L' := [some (.ref 5), some (.ref 1), some (.int v2), some (.int v3), none, none]) rfl ?_
    obtain rfl := Option.some.inj hh
    exact hk
  · replace hh := (if_neg c17).symm.trans hh
    refine J_iload (pc := 97) dX3_prepare_97 rfl ?_
    refine J_iload (pc := 99) dX3_prepare_99 rfl ?_
    refine J_ishr (pc := 101) dX3_prepare_101 ?_
    refine J_iconst (pc := 102) dX3_prepare_102 ci_1 ?_
    refine J_iand (pc := 103) dX3_prepare_103 ?_
    refine J_if_eq (pc := 104) 118 dX3_prepare_104 (by decide) (fun c16 => ?_) (fun c16 => ?_)
    · replace hh := (if_pos c16).symm.trans hh
      refine J_iincL (pc := 118) (v := v5 + (1 : Int32)) (fun x13 => [some (.ref 5), some (.ref 1), some (.int v2), some (.int v3), some (.int v4), some (.int x13)]) dX3_prepare_118 rfl rfl (Nat.le_of_ble_eq_true rfl) (congrArg _ ci_1) (fun _ => rfl) hh (fun x13 hh => ?_)
      refine J_goto (pc := 121) 90 dX3_prepare_121 (by decide) ?_
      obtain rfl := Option.some.inj hh
      exact hk
    · replace hh := (if_neg c16).symm.trans hh
      refine J_aload_n (pc := 107) dX3_prepare_107 rfl ?_
      refine J_dup (pc := 108) dX3_prepare_108 rfl ?_
      refine J_getI (pc := 109) (k := 7) flX3_46 so5 fk5_7 dX3_prepare_109 ?_
      refine J_iload (pc := 112) dX3_prepare_112 rfl ?_
      refine J_ior (pc := 114) dX3_prepare_114 ?_
      refine J_putIL (pc := 115) (k := 7) fpX3_46 so5 fk5_7 rfl rfl dX3_prepare_115 hh (fun s14 hh => ?_)
      refine J_iincL (pc := 118) (v := v5 + (1 : Int32)) (fun x15 => [some (.ref 5), some (.ref 1), some (.int v2), some (.int v3), some (.int v4), some (.int x15)]) dX3_prepare_118 rfl rfl (Nat.le_of_ble_eq_true rfl) (congrArg _ ci_1) (fun _ => rfl) hh (fun x15 hh => ?_)
      refine J_goto (pc := 121) 90 dX3_prepare_121 (by decide) ?_
      obtain rfl := Option.some.inj hh
      exact hk
def gX3_prepare_47 (s : Mem) (v2 : Int32) (v3 : Int32) (k0 : Int32) : Option (Mem ⊕ (Int32 × Mem)) :=
  gd v3 6 (lt (up2 s 7 v3.toNatClampNeg ((1 : Int32) ||| (k0 <<< ((1 : Int32) &&& 31)))) (fun s6 => (fX0_sits s6 v3 v2).bind (fun y7 => gd v3 6 (lt (up2 s6 8 v3.toNatClampNeg (y7 + (1 : Int32))) (fun s9 => gd v3 6 (gd v3 6 (lt (up2 s9 9 v3.toNatClampNeg (s9.1 8 v3.toNatClampNeg)) (fun s12 => (lp (fun a => bX3_prepare_90 a.2 v2 v3 k0 a.1) 600 ((0 : Int32), s12)).bind (fun y18 => lt (v3 + (1 : Int32)) (fun x19 => some (Sum.inr (x19, y18))))))))))))
set_option maxRecDepth 4000 in
theorem jgX3_prepare_47 {X : Scr} (d : Nat) (s : Mem) (v2 : Int32) (v3 : Int32) (k0 : Int32) {r : (Mem ⊕ (Int32 × Mem))} {w : Option Value} {s' : Mem} (hh : gX3_prepare_47 s v2 v3 k0 = some r) (hk : Sum.elim (fun t : Mem => J X MX3_prepare (d + 3) 130 [some (.ref 5), some (.ref 1), some (.int v2), none, none, none] [] t w s') (fun a : (Int32 × Mem) => J X MX3_prepare (d + 3) 20 [some (.ref 5), some (.ref 1), some (.int v2), some (.int a.1), none, none] [] a.2 w s') r) : J X MX3_prepare (d + 3) 47 [some (.ref 5), some (.ref 1), some (.int v2), some (.int v3), none, none] [.int k0] s w s' := by
  unfold gX3_prepare_47 at hh
  refine J_istore (pc := 47) (L' := [some (.ref 5), some (.ref 1), some (.int v2), some (.int v3), some (.int k0), none]) dX3_prepare_47 rfl (Nat.le_of_ble_eq_true rfl) rfl ?_
  refine J_aload_n (pc := 49) dX3_prepare_49 rfl ?_
  refine J_getR (pc := 50) (k := 1) flX3_15 so5 fk5_1 dX3_prepare_50 ?_
  refine J_iload_n (pc := 53) dX3_prepare_53 rfl ?_
  refine J_iconst (pc := 54) dX3_prepare_54 ci_1 ?_
  refine J_iload (pc := 55) dX3_prepare_55 rfl ?_
  refine J_iconst (pc := 57) dX3_prepare_57 ci_1 ?_
  refine J_ishl (pc := 58) dX3_prepare_58 ?_
  refine J_ior (pc := 59) dX3_prepare_59 ?_
  obtain ⟨h5, hh⟩ := gd_some hh
  refine J_iastL (pc := 60) dX3_prepare_60 sa7 h5 hh (fun s6 hh => ?_)
  refine J_aload_n (pc := 61) dX3_prepare_61 rfl ?_
  refine J_getR (pc := 62) (k := 2) flX3_18 so5 fk5_2 dX3_prepare_62 ?_
  refine J_iload_n (pc := 65) dX3_prepare_65 rfl ?_
  refine J_aload_n (pc := 66) dX3_prepare_66 rfl ?_
  refine J_iload_n (pc := 67) dX3_prepare_67 rfl ?_
  refine J_iload_n (pc := 68) dX3_prepare_68 rfl ?_
  obtain ⟨y7, hy7, hh⟩ := bd_some hh
  refine J_callVi (pc := 69) (M' := MX0_sits) (a := 1) (rest := [.int v3, .ref 8]) (As := [.int v3, .int v2]) (L0 := [some (.ref 1), some (.int v3), some (.int v2)]) okX0_sits ovX0_sits mlX3_56 clX0 so1 rfl rfl (Nat.le_of_ble_eq_true rfl) dX3_prepare_69 rfl (Nat.le_of_ble_eq_true rfl) (jX0_sits (X := X) (d + 2) s6 v3 v2 hy7) ?_
  refine J_iconst (pc := 72) dX3_prepare_72 ci_1 ?_
  refine J_iadd (pc := 73) dX3_prepare_73 ?_
  obtain ⟨h8, hh⟩ := gd_some hh
  refine J_iastL (pc := 74) dX3_prepare_74 sa8 h8 hh (fun s9 hh => ?_)
  refine J_aload_n (pc := 75) dX3_prepare_75 rfl ?_
  refine J_getR (pc := 76) (k := 3) flX3_21 so5 fk5_3 dX3_prepare_76 ?_
  refine J_iload_n (pc := 79) dX3_prepare_79 rfl ?_
  refine J_aload_n (pc := 80) dX3_prepare_80 rfl ?_
  refine J_getR (pc := 81) (k := 2) flX3_18 so5 fk5_2 dX3_prepare_81 ?_
  refine J_iload_n (pc := 84) dX3_prepare_84 rfl ?_
  obtain ⟨h10, hh⟩ := gd_some hh
  refine J_iald (pc := 85) dX3_prepare_85 sa8 h10 ?_
  obtain ⟨h11, hh⟩ := gd_some hh
  refine J_iastL (pc := 86) dX3_prepare_86 sa9 h11 hh (fun s12 hh => ?_)
  refine J_iconst (pc := 87) dX3_prepare_87 ci_0 ?_
  refine J_istore (pc := 88) (L' := [some (.ref 5), some (.ref 1), some (.int v2), some (.int v3), some (.int k0), some (.int (0 : Int32))]) dX3_prepare_88 rfl (Nat.le_of_ble_eq_true rfl) rfl ?_
  obtain ⟨y18, hy18, hh⟩ := bd_some hh
  refine J_lp (a := ((0 : Int32), s12)) (fun a : (Int32 × Mem) => J X MX3_prepare (d + 3) 90 [some (.ref 5), some (.ref 1), some (.int v2), some (.int v3), some (.int k0), some (.int a.1)] [] a.2 w s') (fun t : Mem => J X MX3_prepare (d + 3) 124 [some (.ref 5), some (.ref 1), some (.int v2), some (.int v3), none, none] [] t w s') (fun a q h1 h2 => jbX3_prepare_90 d a.2 v2 v3 k0 a.1 h1 h2) hy18 ?_
  refine J_iincL (pc := 124) (v := v3 + (1 : Int32)) (fun x19 => [some (.ref 5), some (.ref 1), some (.int v2), some (.int x19), none, none]) dX3_prepare_124 rfl rfl (Nat.le_of_ble_eq_true rfl) (congrArg _ ci_1) (fun _ => rfl) hh (fun x19 hh => ?_)
  refine J_goto (pc := 127) 20 dX3_prepare_127 (by decide) ?_
  obtain rfl := Option.some.inj hh
  exact hk
def bX3_prepare_20 (s : Mem) (v2 : Int32) (v3 : Int32) : Option (Mem ⊕ (Int32 × Mem)) :=
  if (s.1 5 6) ≤ v3 then some (Sum.inl s) else (fX0_wishes s v3 v2).bind (fun y4 => if y4 = (0 : Int32) then gX3_prepare_47 s v2 v3 (0 : Int32) else (fX0_freeSet s v3 v2).bind (fun y20 => gX3_prepare_47 s v2 v3 y20))
set_option maxRecDepth 4000 in
theorem jbX3_prepare_20 {X : Scr} (d : Nat) (s : Mem) (v2 : Int32) (v3 : Int32) {r : (Mem ⊕ (Int32 × Mem))} {w : Option Value} {s' : Mem} (hh : bX3_prepare_20 s v2 v3 = some r) (hk : Sum.elim (fun t : Mem => J X MX3_prepare (d + 3) 130 [some (.ref 5), some (.ref 1), some (.int v2), none, none, none] [] t w s') (fun a : (Int32 × Mem) => J X MX3_prepare (d + 3) 20 [some (.ref 5), some (.ref 1), some (.int v2), some (.int a.1), none, none] [] a.2 w s') r) : J X MX3_prepare (d + 3) 20 [some (.ref 5), some (.ref 1), some (.int v2), some (.int v3), none, none] [] s w s' := by
  unfold bX3_prepare_20 at hh
  refine J_iload_n (pc := 20) dX3_prepare_20 rfl ?_
  refine J_aload_n (pc := 21) dX3_prepare_21 rfl ?_
  refine J_getI (pc := 22) (k := 6) flX3_43 so5 fk5_6 dX3_prepare_22 ?_
  refine J_icmp_ge (pc := 25) 130 dX3_prepare_25 (by decide) (fun c22 => ?_) (fun c22 => ?_)
  · replace hh := (if_pos c22).symm.trans hh
    refine J_drop 3 (L' := [some (.ref 5), some (.ref 1), some (.int v2), none, none, none]) rfl ?_
    obtain rfl := Option.some.inj hh
    exact hk
  · replace hh := (if_neg c22).symm.trans hh
    refine J_aload_n (pc := 28) dX3_prepare_28 rfl ?_
    refine J_iload_n (pc := 29) dX3_prepare_29 rfl ?_
    refine J_iload_n (pc := 30) dX3_prepare_30 rfl ?_
    obtain ⟨y4, hy4, hh⟩ := bd_some hh
    refine J_callVi (pc := 31) (M' := MX0_wishes) (a := 1) (rest := []) (As := [.int v3, .int v2]) (L0 := [some (.ref 1), some (.int v3), some (.int v2)]) okX0_wishes ovX0_wishes mlX3_49 clX0 so1 rfl rfl (Nat.le_of_ble_eq_true rfl) dX3_prepare_31 rfl (Nat.le_of_ble_eq_true rfl) (jX0_wishes (X := X) (d + 2) s v3 v2 hy4) ?_
    refine J_if_eq (pc := 34) 46 dX3_prepare_34 (by decide) (fun c21 => ?_) (fun c21 => ?_)
    · replace hh := (if_pos c21).symm.trans hh
      refine J_iconst (pc := 46) dX3_prepare_46 ci_0 ?_
      exact jgX3_prepare_47 d s v2 v3 (0 : Int32) hh hk
    · replace hh := (if_neg c21).symm.trans hh
      refine J_aload_n (pc := 37) dX3_prepare_37 rfl ?_
      refine J_iload_n (pc := 38) dX3_prepare_38 rfl ?_
      refine J_iload_n (pc := 39) dX3_prepare_39 rfl ?_
      obtain ⟨y20, hy20, hh⟩ := bd_some hh
      refine J_callVi (pc := 40) (M' := MX0_freeSet) (a := 1) (rest := []) (As := [.int v3, .int v2]) (L0 := [some (.ref 1), some (.int v3), some (.int v2), none, none, none, none]) okX0_freeSet ovX0_freeSet mlX3_53 clX0 so1 rfl rfl (Nat.le_of_ble_eq_true rfl) dX3_prepare_40 rfl (Nat.le_of_ble_eq_true rfl) (jX0_freeSet (X := X) d s v3 v2 hy20) ?_
      refine J_goto (pc := 43) 47 dX3_prepare_43 (by decide) ?_
      exact jgX3_prepare_47 d s v2 v3 y20 hh hk
def gX3_prepare_210 (s : Mem) (v2 : Int32) (v3 : Int32) (k0 : Int32) (k1 : Int32) : Option (Mem ⊕ (Int32 × Mem)) :=
  gd k1 6 (lt (up2 s 10 k1.toNatClampNeg k0) (fun s31 => lt (v3 + (1 : Int32)) (fun x32 => some (Sum.inr (x32, s31)))))
set_option maxRecDepth 4000 in
theorem jgX3_prepare_210 {X : Scr} (d : Nat) (s : Mem) (v2 : Int32) (v3 : Int32) (k0 : Int32) (k1 : Int32) {r : (Mem ⊕ (Int32 × Mem))} {w : Option Value} {s' : Mem} (hh : gX3_prepare_210 s v2 v3 k0 k1 = some r) (hk : Sum.elim (fun t : Mem => J X MX3_prepare (d + 3) 217 [none, none, none, none, none, none] [] t w s') (fun a : (Int32 × Mem) => J X MX3_prepare (d + 3) 132 [some (.ref 5), some (.ref 1), some (.int v2), some (.int a.1), none, none] [] a.2 w s') r) : J X MX3_prepare (d + 3) 210 [some (.ref 5), some (.ref 1), some (.int v2), some (.int v3), none, none] [.int k0, .int k1, .ref 10] s w s' := by
  unfold gX3_prepare_210 at hh
  obtain ⟨h30, hh⟩ := gd_some hh
  refine J_iastL (pc := 210) dX3_prepare_210 sa10 h30 hh (fun s31 hh => ?_)
  refine J_iincL (pc := 211) (v := v3 + (1 : Int32)) (fun x32 => [some (.ref 5), some (.ref 1), some (.int v2), some (.int x32), none, none]) dX3_prepare_211 rfl rfl (Nat.le_of_ble_eq_true rfl) (congrArg _ ci_1) (fun _ => rfl) hh (fun x32 hh => ?_)
  refine J_goto (pc := 214) 132 dX3_prepare_214 (by decide) ?_
  obtain rfl := Option.some.inj hh
  exact hk
def gX3_prepare_182 (s : Mem) (v2 : Int32) (v3 : Int32) (v4 : Int32) (k0 : Int32) (k1 : Int32) : Option (Mem ⊕ (Int32 × Mem)) :=
  gd k1 6 (lt (up2 s 10 k1.toNatClampNeg k0) (fun s29 => if v4 = (0 : Int32) then gX3_prepare_210 s29 v2 v3 (9 : Int32) (((2 : Int32) * v3) + (1 : Int32)) else (fX0_ofSection s29 v2 v3 (1 : Int32) (2 : Int32)).bind (fun y33 => gX3_prepare_210 s29 v2 v3 y33 (((2 : Int32) * v3) + (1 : Int32)))))
set_option maxRecDepth 4000 in
theorem jgX3_prepare_182 {X : Scr} (d : Nat) (s : Mem) (v2 : Int32) (v3 : Int32) (v4 : Int32) (k0 : Int32) (k1 : Int32) {r : (Mem ⊕ (Int32 × Mem))} {w : Option Value} {s' : Mem} (hh : gX3_prepare_182 s v2 v3 v4 k0 k1 = some r) (hk : Sum.elim (fun t : Mem => J X MX3_prepare (d + 3) 217 [none, none, none, none, none, none] [] t w s') (fun a : (Int32 × Mem) => J X MX3_prepare (d + 3) 132 [some (.ref 5), some (.ref 1), some (.int v2), some (.int a.1), none, none] [] a.2 w s') r) : J X MX3_prepare (d + 3) 182 [some (.ref 5), some (.ref 1), some (.int v2), some (.int v3), some (.int v4), none] [.int k0, .int k1, .ref 10] s w s' := by
  unfold gX3_prepare_182 at hh
  obtain ⟨h28, hh⟩ := gd_some hh
  refine J_iastL (pc := 182) dX3_prepare_182 sa10 h28 hh (fun s29 hh => ?_)
  refine J_aload_n (pc := 183) dX3_prepare_183 rfl ?_
  refine J_getR (pc := 184) (k := 4) flX3_24 so5 fk5_4 dX3_prepare_184 ?_
  refine J_iconst (pc := 187) dX3_prepare_187 ci_2 ?_
  refine J_iload_n (pc := 188) dX3_prepare_188 rfl ?_
  refine J_imul (pc := 189) dX3_prepare_189 ?_
  refine J_iconst (pc := 190) dX3_prepare_190 ci_1 ?_
  refine J_iadd (pc := 191) dX3_prepare_191 ?_
  refine J_iload (pc := 192) dX3_prepare_192 rfl ?_
  refine J_if_eq (pc := 194) 208 dX3_prepare_194 (by decide) (fun c34 => ?_) (fun c34 => ?_)
  · replace hh := (if_pos c34).symm.trans hh
    refine J_bipush (pc := 208) dX3_prepare_208 cb_9 ?_
    refine J_drop 4 (L' := [some (.ref 5), some (.ref 1), some (.int v2), some (.int v3), none, none]) rfl ?_
    exact jgX3_prepare_210 d s29 v2 v3 (9 : Int32) (((2 : Int32) * v3) + (1 : Int32)) hh hk
  · replace hh := (if_neg c34).symm.trans hh
    refine J_aload_n (pc := 197) dX3_prepare_197 rfl ?_
    refine J_iload_n (pc := 198) dX3_prepare_198 rfl ?_
    refine J_iload_n (pc := 199) dX3_prepare_199 rfl ?_
    refine J_iconst (pc := 200) dX3_prepare_200 ci_1 ?_
    refine J_iconst (pc := 201) dX3_prepare_201 ci_2 ?_
    obtain ⟨y33, hy33, hh⟩ := bd_some hh
    refine J_callVi (pc := 202) (M' := MX0_ofSection) (a := 1) (rest := [.int (((2 : Int32) * v3) + (1 : Int32)), .ref 10]) (As := [.int v2, .int v3, .int (1 : Int32), .int (2 : Int32)]) (L0 := [some (.ref 1), some (.int v2), some (.int v3), some (.int (1 : Int32)), some (.int (2 : Int32))]) okX0_ofSection ovX0_ofSection mlX3_65 clX0 so1 rfl rfl (Nat.le_of_ble_eq_true rfl) dX3_prepare_202 rfl (Nat.le_of_ble_eq_true rfl) (jX0_ofSection (X := X) (d + 2) s29 v2 v3 (1 : Int32) (2 : Int32) hy33) ?_
    refine J_goto (pc := 205) 210 dX3_prepare_205 (by decide) ?_
    refine J_drop 4 (L' := [some (.ref 5), some (.ref 1), some (.int v2), some (.int v3), none, none]) rfl ?_
    exact jgX3_prepare_210 d s29 v2 v3 y33 (((2 : Int32) * v3) + (1 : Int32)) hh hk
def bX3_prepare_132 (s : Mem) (v2 : Int32) (v3 : Int32) : Option (Mem ⊕ (Int32 × Mem)) :=
  if (3 : Int32) ≤ v3 then some (Sum.inl s) else (fX0_isPaired s v2 v3).bind (fun y24 => gd v3 3 (lt (up2 s 11 v3.toNatClampNeg (vp_nar .boolean y24)) (fun s26 => (fX0_counts s26 v2 v3).bind (fun y27 => if y27 = (0 : Int32) then gX3_prepare_182 s26 v2 v3 y27 (9 : Int32) ((2 : Int32) * v3) else (fX0_ofSection s26 v2 v3 (0 : Int32) (2 : Int32)).bind (fun y35 => gX3_prepare_182 s26 v2 v3 y27 y35 ((2 : Int32) * v3))))))
set_option maxRecDepth 4000 in
theorem jbX3_prepare_132 {X : Scr} (d : Nat) (s : Mem) (v2 : Int32) (v3 : Int32) {r : (Mem ⊕ (Int32 × Mem))} {w : Option Value} {s' : Mem} (hh : bX3_prepare_132 s v2 v3 = some r) (hk : Sum.elim (fun t : Mem => J X MX3_prepare (d + 3) 217 [none, none, none, none, none, none] [] t w s') (fun a : (Int32 × Mem) => J X MX3_prepare (d + 3) 132 [some (.ref 5), some (.ref 1), some (.int v2), some (.int a.1), none, none] [] a.2 w s') r) : J X MX3_prepare (d + 3) 132 [some (.ref 5), some (.ref 1), some (.int v2), some (.int v3), none, none] [] s w s' := by
  unfold bX3_prepare_132 at hh
  refine J_iload_n (pc := 132) dX3_prepare_132 rfl ?_
  refine J_iconst (pc := 133) dX3_prepare_133 ci_3 ?_
  refine J_icmp_ge (pc := 134) 217 dX3_prepare_134 (by decide) (fun c37 => ?_) (fun c37 => ?_)
  · replace hh := (if_pos c37).symm.trans hh
    refine J_drop 0 (L' := [none, some (.ref 1), some (.int v2), some (.int v3), none, none]) rfl ?_
    refine J_drop 1 (L' := [none, none, some (.int v2), some (.int v3), none, none]) rfl ?_
    refine J_drop 2 (L' := [none, none, none, some (.int v3), none, none]) rfl ?_
    refine J_drop 3 (L' := [none, none, none, none, none, none]) rfl ?_
    obtain rfl := Option.some.inj hh
    exact hk
  · replace hh := (if_neg c37).symm.trans hh
    refine J_aload_n (pc := 137) dX3_prepare_137 rfl ?_
    refine J_getR (pc := 138) (k := 5) flX3_27 so5 fk5_5 dX3_prepare_138 ?_
    refine J_iload_n (pc := 141) dX3_prepare_141 rfl ?_
    refine J_aload_n (pc := 142) dX3_prepare_142 rfl ?_
    refine J_iload_n (pc := 143) dX3_prepare_143 rfl ?_
    refine J_iload_n (pc := 144) dX3_prepare_144 rfl ?_
    obtain ⟨y24, hy24, hh⟩ := bd_some hh
    refine J_callVi (pc := 145) (M' := MX0_isPaired) (a := 1) (rest := [.int v3, .ref 11]) (As := [.int v2, .int v3]) (L0 := [some (.ref 1), some (.int v2), some (.int v3)]) okX0_isPaired ovX0_isPaired mlX3_59 clX0 so1 rfl rfl (Nat.le_of_ble_eq_true rfl) dX3_prepare_145 rfl (Nat.le_of_ble_eq_true rfl) (jX0_isPaired (X := X) (d + 1) s v2 v3 hy24) ?_
    obtain ⟨h25, hh⟩ := gd_some hh
    refine J_zastL (pc := 148) dX3_prepare_148 sa11 h25 hh (fun s26 hh => ?_)
    refine J_aload_n (pc := 149) dX3_prepare_149 rfl ?_
    refine J_iload_n (pc := 150) dX3_prepare_150 rfl ?_
    refine J_iload_n (pc := 151) dX3_prepare_151 rfl ?_
    obtain ⟨y27, hy27, hh⟩ := bd_some hh
    refine J_callVi (pc := 152) (M' := MX0_counts) (a := 1) (rest := []) (As := [.int v2, .int v3]) (L0 := [some (.ref 1), some (.int v2), some (.int v3), none]) okX0_counts ovX0_counts mlX3_62 clX0 so1 rfl rfl (Nat.le_of_ble_eq_true rfl) dX3_prepare_152 rfl (Nat.le_of_ble_eq_true rfl) (jX0_counts (X := X) (d + 2) s26 v2 v3 hy27) ?_
    refine J_istore (pc := 155) (L' := [some (.ref 5), some (.ref 1), some (.int v2), some (.int v3), some (.int y27), none]) dX3_prepare_155 rfl (Nat.le_of_ble_eq_true rfl) rfl ?_
    refine J_aload_n (pc := 157) dX3_prepare_157 rfl ?_
    refine J_getR (pc := 158) (k := 4) flX3_24 so5 fk5_4 dX3_prepare_158 ?_
    refine J_iconst (pc := 161) dX3_prepare_161 ci_2 ?_
    refine J_iload_n (pc := 162) dX3_prepare_162 rfl ?_
    refine J_imul (pc := 163) dX3_prepare_163 ?_
    refine J_iload (pc := 164) dX3_prepare_164 rfl ?_
    refine J_if_eq (pc := 166) 180 dX3_prepare_166 (by decide) (fun c36 => ?_) (fun c36 => ?_)
    · replace hh := (if_pos c36).symm.trans hh
      refine J_bipush (pc := 180) dX3_prepare_180 cb_9 ?_
      exact jgX3_prepare_182 d s26 v2 v3 y27 (9 : Int32) ((2 : Int32) * v3) hh hk
    · replace hh := (if_neg c36).symm.trans hh
      refine J_aload_n (pc := 169) dX3_prepare_169 rfl ?_
      refine J_iload_n (pc := 170) dX3_prepare_170 rfl ?_
      refine J_iload_n (pc := 171) dX3_prepare_171 rfl ?_
      refine J_iconst (pc := 172) dX3_prepare_172 ci_0 ?_
      refine J_iconst (pc := 173) dX3_prepare_173 ci_2 ?_
      obtain ⟨y35, hy35, hh⟩ := bd_some hh
      refine J_callVi (pc := 174) (M' := MX0_ofSection) (a := 1) (rest := [.int ((2 : Int32) * v3), .ref 10]) (As := [.int v2, .int v3, .int (0 : Int32), .int (2 : Int32)]) (L0 := [some (.ref 1), some (.int v2), some (.int v3), some (.int (0 : Int32)), some (.int (2 : Int32))]) okX0_ofSection ovX0_ofSection mlX3_65 clX0 so1 rfl rfl (Nat.le_of_ble_eq_true rfl) dX3_prepare_174 rfl (Nat.le_of_ble_eq_true rfl) (jX0_ofSection (X := X) (d + 2) s26 v2 v3 (0 : Int32) (2 : Int32) hy35) ?_
      refine J_goto (pc := 177) 182 dX3_prepare_177 (by decide) ?_
      exact jgX3_prepare_182 d s26 v2 v3 y27 y35 ((2 : Int32) * v3) hh hk
def fX3_prepare (s : Mem) (p1 : Int32) : Option Mem :=
  (fX0_pupils s).bind (fun y1 => lt (up2 s 5 6 (mnI (6 : Int32) y1)) (fun s2 => lt (up2 s2 5 7 (0 : Int32)) (fun s3 => (lp (fun a => bX3_prepare_20 a.2 p1 a.1) 600 ((0 : Int32), s3)).bind (fun y23 => (lp (fun a => bX3_prepare_132 a.2 p1 a.1) 600 ((0 : Int32), y23)).bind (fun y38 => some y38)))))
set_option maxRecDepth 4000 in
theorem jjX3_prepare {X : Scr} (d : Nat) (s : Mem) (p1 : Int32) {r : Mem} {w : Option Value} {s' : Mem} (hh : fX3_prepare s p1 = some r) (hk : w = none ∧ r = s') : J X MX3_prepare (d + 3) 0 [some (.ref 5), some (.ref 1), some (.int p1), none, none, none] [] s w s' := by
  unfold fX3_prepare at hh
  refine J_aload_n (pc := 0) dX3_prepare_0 rfl ?_
  refine J_bipush (pc := 1) dX3_prepare_1 cb_6 ?_
  refine J_aload_n (pc := 3) dX3_prepare_3 rfl ?_
  obtain ⟨y1, hy1, hh⟩ := bd_some hh
  refine J_callVi (pc := 4) (M' := MX0_pupils) (a := 1) (rest := [.int (6 : Int32), .ref 5]) (As := []) (L0 := [some (.ref 1)]) okX0_pupils ovX0_pupils mlX3_31 clX0 so1 rfl rfl (Nat.le_of_ble_eq_true rfl) dX3_prepare_4 rfl (Nat.le_of_ble_eq_true rfl) (jX0_pupils (X := X) (d + 2) s hy1) ?_
  refine J_mmin (pc := 7) mtX3_37 (Nat.le_of_ble_eq_true rfl) dX3_prepare_7 ?_
  refine J_putIL (pc := 10) (k := 6) fpX3_43 so5 fk5_6 rfl rfl dX3_prepare_10 hh (fun s2 hh => ?_)
  refine J_aload_n (pc := 13) dX3_prepare_13 rfl ?_
  refine J_iconst (pc := 14) dX3_prepare_14 ci_0 ?_
  refine J_putIL (pc := 15) (k := 7) fpX3_46 so5 fk5_7 rfl rfl dX3_prepare_15 hh (fun s3 hh => ?_)
  refine J_iconst (pc := 18) dX3_prepare_18 ci_0 ?_
  refine J_istore_n (pc := 19) (L' := [some (.ref 5), some (.ref 1), some (.int p1), some (.int (0 : Int32)), none, none]) dX3_prepare_19 rfl (Nat.le_of_ble_eq_true rfl) rfl ?_
  obtain ⟨y23, hy23, hh⟩ := bd_some hh
  refine J_lp (a := ((0 : Int32), s3)) (fun a : (Int32 × Mem) => J X MX3_prepare (d + 3) 20 [some (.ref 5), some (.ref 1), some (.int p1), some (.int a.1), none, none] [] a.2 w s') (fun t : Mem => J X MX3_prepare (d + 3) 130 [some (.ref 5), some (.ref 1), some (.int p1), none, none, none] [] t w s') (fun a q h1 h2 => jbX3_prepare_20 d a.2 p1 a.1 h1 h2) hy23 ?_
  refine J_iconst (pc := 130) dX3_prepare_130 ci_0 ?_
  refine J_istore_n (pc := 131) (L' := [some (.ref 5), some (.ref 1), some (.int p1), some (.int (0 : Int32)), none, none]) dX3_prepare_131 rfl (Nat.le_of_ble_eq_true rfl) rfl ?_
  obtain ⟨y38, hy38, hh⟩ := bd_some hh
  refine J_lp (a := ((0 : Int32), y23)) (fun a : (Int32 × Mem) => J X MX3_prepare (d + 3) 132 [some (.ref 5), some (.ref 1), some (.int p1), some (.int a.1), none, none] [] a.2 w s') (fun t : Mem => J X MX3_prepare (d + 3) 217 [none, none, none, none, none, none] [] t w s') (fun a q h1 h2 => jbX3_prepare_132 d a.2 p1 a.1 h1 h2) hy38 ?_
  obtain rfl := Option.some.inj hh
  obtain ⟨rfl, rfl⟩ := hk
  exact J_ret (w := none) ⟨dX3_prepare_217, rfl⟩
theorem jX3_prepare {X : Scr} (d : Nat) (s : Mem) (p1 : Int32) {r : Mem} (hh : fX3_prepare s p1 = some r) : J X MX3_prepare (d + 3) 0 [some (.ref 5), some (.ref 1), some (.int p1), none, none, none] [] s (none) r := jjX3_prepare d s p1 hh ⟨rfl, rfl⟩
theorem dX3_mustSit_0 : decode cX3_mustSit 0 = .ok (.iconst 0, 1) := by decide +kernel
theorem dX3_mustSit_1 : decode cX3_mustSit 1 = .ok (.istore_n 2, 1) := by decide +kernel
theorem dX3_mustSit_2 : decode cX3_mustSit 2 = .ok (.iload_n 2, 1) := by decide +kernel
theorem dX3_mustSit_3 : decode cX3_mustSit 3 = .ok (.aload_n 0, 1) := by decide +kernel
theorem dX3_mustSit_4 : decode cX3_mustSit 4 = .ok (.getfield 43, 3) := by decide +kernel
theorem dX3_mustSit_7 : decode cX3_mustSit 7 = .ok (.if_icmp .ge 34, 3) := by decide +kernel
theorem dX3_mustSit_10 : decode cX3_mustSit 10 = .ok (.iload_n 2, 1) := by decide +kernel
theorem dX3_mustSit_11 : decode cX3_mustSit 11 = .ok (.iload_n 1, 1) := by decide +kernel
theorem dX3_mustSit_12 : decode cX3_mustSit 12 = .ok (.if_icmp .eq 12, 3) := by decide +kernel
theorem dX3_mustSit_15 : decode cX3_mustSit 15 = .ok (.aload_n 0, 1) := by decide +kernel
theorem dX3_mustSit_16 : decode cX3_mustSit 16 = .ok (.getfield 18, 3) := by decide +kernel
theorem dX3_mustSit_19 : decode cX3_mustSit 19 = .ok (.iload_n 2, 1) := by decide +kernel
theorem dX3_mustSit_20 : decode cX3_mustSit 20 = .ok (.iaload, 1) := by decide +kernel
theorem dX3_mustSit_21 : decode cX3_mustSit 21 = .ok (.ifCond .eq 14, 3) := by decide +kernel
theorem dX3_mustSit_24 : decode cX3_mustSit 24 = .ok (.aload_n 0, 1) := by decide +kernel
theorem dX3_mustSit_25 : decode cX3_mustSit 25 = .ok (.getfield 15, 3) := by decide +kernel
theorem dX3_mustSit_28 : decode cX3_mustSit 28 = .ok (.iload_n 2, 1) := by decide +kernel
theorem dX3_mustSit_29 : decode cX3_mustSit 29 = .ok (.dup2, 1) := by decide +kernel
theorem dX3_mustSit_30 : decode cX3_mustSit 30 = .ok (.iaload, 1) := by decide +kernel
theorem dX3_mustSit_31 : decode cX3_mustSit 31 = .ok (.bipush (-2), 2) := by decide +kernel
theorem dX3_mustSit_33 : decode cX3_mustSit 33 = .ok (.iand, 1) := by decide +kernel
theorem dX3_mustSit_34 : decode cX3_mustSit 34 = .ok (.iastore, 1) := by decide +kernel
theorem dX3_mustSit_35 : decode cX3_mustSit 35 = .ok (.iinc 2 1, 3) := by decide +kernel
theorem dX3_mustSit_38 : decode cX3_mustSit 38 = .ok (.goto (-36), 3) := by decide +kernel
theorem dX3_mustSit_41 : decode cX3_mustSit 41 = .ok (.return_, 1) := by decide +kernel
def gX3_mustSit_24 (s : Mem) (v1 : Int32) (v2 : Int32) : Option (Mem ⊕ (Int32 × Mem)) :=
  gd v2 6 (gd v2 6 (lt (up2 s 7 v2.toNatClampNeg ((s.1 7 v2.toNatClampNeg) &&& (-2 : Int32))) (fun s3 => lt (v2 + (1 : Int32)) (fun x4 => some (Sum.inr (x4, s3))))))
set_option maxRecDepth 4000 in
theorem jgX3_mustSit_24 {X : Scr} (d : Nat) (s : Mem) (v1 : Int32) (v2 : Int32) {r : (Mem ⊕ (Int32 × Mem))} {w : Option Value} {s' : Mem} (hh : gX3_mustSit_24 s v1 v2 = some r) (hk : Sum.elim (fun t : Mem => J X MX3_mustSit (d + 0) 41 [none, none, none] [] t w s') (fun a : (Int32 × Mem) => J X MX3_mustSit (d + 0) 2 [some (.ref 5), some (.int v1), some (.int a.1)] [] a.2 w s') r) : J X MX3_mustSit (d + 0) 24 [some (.ref 5), some (.int v1), some (.int v2)] [] s w s' := by
  unfold gX3_mustSit_24 at hh
  refine J_aload_n (pc := 24) dX3_mustSit_24 rfl ?_
  refine J_getR (pc := 25) (k := 1) flX3_15 so5 fk5_1 dX3_mustSit_25 ?_
  refine J_iload_n (pc := 28) dX3_mustSit_28 rfl ?_
  refine J_dup2 (pc := 29) dX3_mustSit_29 rfl rfl ?_
  obtain ⟨h1, hh⟩ := gd_some hh
  refine J_iald (pc := 30) dX3_mustSit_30 sa7 h1 ?_
  refine J_bipush (pc := 31) dX3_mustSit_31 cb_m2 ?_
  refine J_iand (pc := 33) dX3_mustSit_33 ?_
  obtain ⟨h2, hh⟩ := gd_some hh
  refine J_iastL (pc := 34) dX3_mustSit_34 sa7 h2 hh (fun s3 hh => ?_)
  refine J_iincL (pc := 35) (v := v2 + (1 : Int32)) (fun x4 => [some (.ref 5), some (.int v1), some (.int x4)]) dX3_mustSit_35 rfl rfl (Nat.le_of_ble_eq_true rfl) (congrArg _ ci_1) (fun _ => rfl) hh (fun x4 hh => ?_)
  refine J_goto (pc := 38) 2 dX3_mustSit_38 (by decide) ?_
  obtain rfl := Option.some.inj hh
  exact hk
def bX3_mustSit_2 (s : Mem) (v1 : Int32) (v2 : Int32) : Option (Mem ⊕ (Int32 × Mem)) :=
  if (s.1 5 6) ≤ v2 then some (Sum.inl s) else if v2 = v1 then gX3_mustSit_24 s v1 v2 else gd v2 6 (if (s.1 8 v2.toNatClampNeg) = (0 : Int32) then lt (v2 + (1 : Int32)) (fun x6 => some (Sum.inr (x6, s))) else gX3_mustSit_24 s v1 v2)
set_option maxRecDepth 4000 in
theorem jbX3_mustSit_2 {X : Scr} (d : Nat) (s : Mem) (v1 : Int32) (v2 : Int32) {r : (Mem ⊕ (Int32 × Mem))} {w : Option Value} {s' : Mem} (hh : bX3_mustSit_2 s v1 v2 = some r) (hk : Sum.elim (fun t : Mem => J X MX3_mustSit (d + 0) 41 [none, none, none] [] t w s') (fun a : (Int32 × Mem) => J X MX3_mustSit (d + 0) 2 [some (.ref 5), some (.int v1), some (.int a.1)] [] a.2 w s') r) : J X MX3_mustSit (d + 0) 2 [some (.ref 5), some (.int v1), some (.int v2)] [] s w s' := by
  unfold bX3_mustSit_2 at hh
  refine J_iload_n (pc := 2) dX3_mustSit_2 rfl ?_
  refine J_aload_n (pc := 3) dX3_mustSit_3 rfl ?_
  refine J_getI (pc := 4) (k := 6) flX3_43 so5 fk5_6 dX3_mustSit_4 ?_
  refine J_icmp_ge (pc := 7) 41 dX3_mustSit_7 (by decide) (fun c9 => ?_) (fun c9 => ?_)
  · replace hh := (if_pos c9).symm.trans hh
    refine J_drop 0 (L' := [none, some (.int v1), some (.int v2)]) rfl ?_
    refine J_drop 1 (L' := [none, none, some (.int v2)]) rfl ?_
    refine J_drop 2 (L' := [none, none, none]) rfl ?_
    obtain rfl := Option.some.inj hh
    exact hk
  · replace hh := (if_neg c9).symm.trans hh
    refine J_iload_n (pc := 10) dX3_mustSit_10 rfl ?_
    refine J_iload_n (pc := 11) dX3_mustSit_11 rfl ?_
    refine J_icmp_eq (pc := 12) 24 dX3_mustSit_12 (by decide) (fun c8 => ?_) (fun c8 => ?_)
    · replace hh := (if_pos c8).symm.trans hh
      exact jgX3_mustSit_24 d s v1 v2 hh hk
    · replace hh := (if_neg c8).symm.trans hh
      refine J_aload_n (pc := 15) dX3_mustSit_15 rfl ?_
      refine J_getR (pc := 16) (k := 2) flX3_18 so5 fk5_2 dX3_mustSit_16 ?_
      refine J_iload_n (pc := 19) dX3_mustSit_19 rfl ?_
      obtain ⟨h5, hh⟩ := gd_some hh
      refine J_iald (pc := 20) dX3_mustSit_20 sa8 h5 ?_
      refine J_if_eq (pc := 21) 35 dX3_mustSit_21 (by decide) (fun c7 => ?_) (fun c7 => ?_)
      · replace hh := (if_pos c7).symm.trans hh
        refine J_iincL (pc := 35) (v := v2 + (1 : Int32)) (fun x6 => [some (.ref 5), some (.int v1), some (.int x6)]) dX3_mustSit_35 rfl rfl (Nat.le_of_ble_eq_true rfl) (congrArg _ ci_1) (fun _ => rfl) hh (fun x6 hh => ?_)
        refine J_goto (pc := 38) 2 dX3_mustSit_38 (by decide) ?_
        obtain rfl := Option.some.inj hh
        exact hk
      · replace hh := (if_neg c7).symm.trans hh
        exact jgX3_mustSit_24 d s v1 v2 hh hk
def fX3_mustSit (s : Mem) (p0 : Int32) : Option Mem :=
  (lp (fun a => bX3_mustSit_2 a.2 p0 a.1) 600 ((0 : Int32), s)).bind (fun y10 => some y10)
set_option maxRecDepth 4000 in
theorem jjX3_mustSit {X : Scr} (d : Nat) (s : Mem) (p0 : Int32) {r : Mem} {w : Option Value} {s' : Mem} (hh : fX3_mustSit s p0 = some r) (hk : w = none ∧ r = s') : J X MX3_mustSit (d + 0) 0 [some (.ref 5), some (.int p0), none] [] s w s' := by
  unfold fX3_mustSit at hh
  refine J_iconst (pc := 0) dX3_mustSit_0 ci_0 ?_
  refine J_istore_n (pc := 1) (L' := [some (.ref 5), some (.int p0), some (.int (0 : Int32))]) dX3_mustSit_1 rfl (Nat.le_of_ble_eq_true rfl) rfl ?_
  obtain ⟨y10, hy10, hh⟩ := bd_some hh
  refine J_lp (a := ((0 : Int32), s)) (fun a : (Int32 × Mem) => J X MX3_mustSit (d + 0) 2 [some (.ref 5), some (.int p0), some (.int a.1)] [] a.2 w s') (fun t : Mem => J X MX3_mustSit (d + 0) 41 [none, none, none] [] t w s') (fun a q h1 h2 => jbX3_mustSit_2 d a.2 p0 a.1 h1 h2) hy10 ?_
  obtain rfl := Option.some.inj hh
  obtain ⟨rfl, rfl⟩ := hk
  exact J_ret (w := none) ⟨dX3_mustSit_41, rfl⟩
theorem jX3_mustSit {X : Scr} (d : Nat) (s : Mem) (p0 : Int32) {r : Mem} (hh : fX3_mustSit s p0 = some r) : J X MX3_mustSit (d + 0) 0 [some (.ref 5), some (.int p0), none] [] s (none) r := jjX3_mustSit d s p0 hh ⟨rfl, rfl⟩
theorem dX3_place_0 : decode cX3_place 0 = .ok (.getstatic 94, 3) := by decide +kernel
theorem dX3_place_3 : decode cX3_place 3 = .ok (.iload_n 0, 1) := by decide +kernel
theorem dX3_place_4 : decode cX3_place 4 = .ok (.iaload, 1) := by decide +kernel
theorem dX3_place_5 : decode cX3_place 5 = .ok (.getstatic 97, 3) := by decide +kernel
theorem dX3_place_8 : decode cX3_place 8 = .ok (.iload_n 1, 1) := by decide +kernel
theorem dX3_place_9 : decode cX3_place 9 = .ok (.iaload, 1) := by decide +kernel
theorem dX3_place_10 : decode cX3_place 10 = .ok (.iadd, 1) := by decide +kernel
theorem dX3_place_11 : decode cX3_place 11 = .ok (.iload_n 2, 1) := by decide +kernel
theorem dX3_place_12 : decode cX3_place 12 = .ok (.iload_n 1, 1) := by decide +kernel
theorem dX3_place_13 : decode cX3_place 13 = .ok (.iconst 1, 1) := by decide +kernel
theorem dX3_place_14 : decode cX3_place 14 = .ok (.iadd, 1) := by decide +kernel
theorem dX3_place_15 : decode cX3_place 15 = .ok (.imul, 1) := by decide +kernel
theorem dX3_place_16 : decode cX3_place 16 = .ok (.iload_n 3, 1) := by decide +kernel
theorem dX3_place_17 : decode cX3_place 17 = .ok (.iadd, 1) := by decide +kernel
theorem dX3_place_18 : decode cX3_place 18 = .ok (.iload_n 1, 1) := by decide +kernel
theorem dX3_place_19 : decode cX3_place 19 = .ok (.iconst 1, 1) := by decide +kernel
theorem dX3_place_20 : decode cX3_place 20 = .ok (.iadd, 1) := by decide +kernel
theorem dX3_place_21 : decode cX3_place 21 = .ok (.imul, 1) := by decide +kernel
theorem dX3_place_22 : decode cX3_place 22 = .ok (.iadd, 1) := by decide +kernel
theorem dX3_place_23 : decode cX3_place 23 = .ok (.iload 4, 2) := by decide +kernel
theorem dX3_place_25 : decode cX3_place 25 = .ok (.iadd, 1) := by decide +kernel
theorem dX3_place_26 : decode cX3_place 26 = .ok (.ireturn, 1) := by decide +kernel
def fX3_place (p0 : Int32) (p1 : Int32) (p2 : Int32) (p3 : Int32) (p4 : Int32) : Option Int32 :=
  gd p0 7 (gd p1 7 (some (((((LAYf p0.toNatClampNeg) + (BLKf p1.toNatClampNeg)) + (((p2 * (p1 + (1 : Int32))) + p3) * (p1 + (1 : Int32)))) + p4))))
set_option maxRecDepth 4000 in
theorem jjX3_place {X : Scr} (d : Nat) {s : Mem} (p0 : Int32) (p1 : Int32) (p2 : Int32) (p3 : Int32) (p4 : Int32) {r : Int32} {w : Option Value} {s' : Mem} (hh : fX3_place p0 p1 p2 p3 p4 = some r) (hk : w = some (.int r) ∧ s = s') : J X MX3_place (d + 0) 0 [some (.int p0), some (.int p1), some (.int p2), some (.int p3), some (.int p4)] [] s w s' := by
  unfold fX3_place at hh
  refine J_gets (pc := 0) (q := statLay) statLay_in fsX3_94 dX3_place_0 ?_
  refine J_iload_n (pc := 3) dX3_place_3 rfl ?_
  obtain ⟨h1, hh⟩ := gd_some hh
  refine J_cald (pc := 4) (f := LAYf) dX3_place_4 rfl h1 ?_
  refine J_gets (pc := 5) (q := statBlk) statBlk_in fsX3_97 dX3_place_5 ?_
  refine J_iload_n (pc := 8) dX3_place_8 rfl ?_
  obtain ⟨h2, hh⟩ := gd_some hh
  refine J_cald (pc := 9) (f := BLKf) dX3_place_9 rfl h2 ?_
  refine J_iadd (pc := 10) dX3_place_10 ?_
  refine J_iload_n (pc := 11) dX3_place_11 rfl ?_
  refine J_iload_n (pc := 12) dX3_place_12 rfl ?_
  refine J_iconst (pc := 13) dX3_place_13 ci_1 ?_
  refine J_iadd (pc := 14) dX3_place_14 ?_
  refine J_imul (pc := 15) dX3_place_15 ?_
  refine J_iload_n (pc := 16) dX3_place_16 rfl ?_
  refine J_iadd (pc := 17) dX3_place_17 ?_
  refine J_iload_n (pc := 18) dX3_place_18 rfl ?_
  refine J_iconst (pc := 19) dX3_place_19 ci_1 ?_
  refine J_iadd (pc := 20) dX3_place_20 ?_
  refine J_imul (pc := 21) dX3_place_21 ?_
  refine J_iadd (pc := 22) dX3_place_22 ?_
  refine J_iload (pc := 23) dX3_place_23 rfl ?_
  refine J_iadd (pc := 25) dX3_place_25 ?_
  obtain rfl := Option.some.inj hh
  obtain ⟨rfl, rfl⟩ := hk
  exact J_ret (w := some (.int ((((LAYf p0.toNatClampNeg) + (BLKf p1.toNatClampNeg)) + (((p2 * (p1 + (1 : Int32))) + p3) * (p1 + (1 : Int32)))) + p4))) ⟨dX3_place_26, _, rfl, rfl⟩
theorem jX3_place {X : Scr} (d : Nat) (s : Mem) (p0 : Int32) (p1 : Int32) (p2 : Int32) (p3 : Int32) (p4 : Int32) {r : Int32} (hh : fX3_place p0 p1 p2 p3 p4 = some r) : J X MX3_place (d + 0) 0 [some (.int p0), some (.int p1), some (.int p2), some (.int p3), some (.int p4)] [] s (some (.int r)) s := jjX3_place d p0 p1 p2 p3 p4 hh ⟨rfl, rfl⟩
theorem dX3_gap_0 : decode cX3_gap 0 = .ok (.aload_n 0, 1) := by decide +kernel
theorem dX3_gap_1 : decode cX3_gap 1 = .ok (.getfield 27, 3) := by decide +kernel
theorem dX3_gap_4 : decode cX3_gap 4 = .ok (.iload_n 1, 1) := by decide +kernel
theorem dX3_gap_5 : decode cX3_gap 5 = .ok (.baload, 1) := by decide +kernel
theorem dX3_gap_6 : decode cX3_gap 6 = .ok (.ifCond .eq 14, 3) := by decide +kernel
theorem dX3_gap_9 : decode cX3_gap 9 = .ok (.iload_n 2, 1) := by decide +kernel
theorem dX3_gap_10 : decode cX3_gap 10 = .ok (.iconst 2, 1) := by decide +kernel
theorem dX3_gap_11 : decode cX3_gap 11 = .ok (.iload_n 3, 1) := by decide +kernel
theorem dX3_gap_12 : decode cX3_gap 12 = .ok (.imul, 1) := by decide +kernel
theorem dX3_gap_13 : decode cX3_gap 13 = .ok (.isub, 1) := by decide +kernel
theorem dX3_gap_14 : decode cX3_gap 14 = .ok (.invokestatic 113, 3) := by decide +kernel
theorem dX3_gap_17 : decode cX3_gap 17 = .ok (.goto 4, 3) := by decide +kernel
theorem dX3_gap_20 : decode cX3_gap 20 = .ok (.iconst 0, 1) := by decide +kernel
theorem dX3_gap_21 : decode cX3_gap 21 = .ok (.ireturn, 1) := by decide +kernel
def fX3_gap (s : Mem) (p0 : Int32) (p1 : Int32) (p2 : Int32) : Option Int32 :=
  gd p0 3 (if (s.1 11 p0.toNatClampNeg) = (0 : Int32) then some (0 : Int32) else some ((abI (p1 - ((2 : Int32) * p2)))))
set_option maxRecDepth 4000 in
theorem jjX3_gap {X : Scr} (d : Nat) (s : Mem) (p0 : Int32) (p1 : Int32) (p2 : Int32) {r : Int32} {w : Option Value} {s' : Mem} (hh : fX3_gap s p0 p1 p2 = some r) (hk : w = some (.int r) ∧ s = s') : J X MX3_gap (d + 1) 0 [some (.ref 5), some (.int p0), some (.int p1), some (.int p2)] [] s w s' := by
  unfold fX3_gap at hh
  refine J_aload_n (pc := 0) dX3_gap_0 rfl ?_
  refine J_getR (pc := 1) (k := 5) flX3_27 so5 fk5_5 dX3_gap_1 ?_
  refine J_iload_n (pc := 4) dX3_gap_4 rfl ?_
  obtain ⟨h1, hh⟩ := gd_some hh
  refine J_zald (pc := 5) dX3_gap_5 sa11 h1 ?_
  refine J_if_eq (pc := 6) 20 dX3_gap_6 (by decide) (fun c2 => ?_) (fun c2 => ?_)
  · replace hh := (if_pos c2).symm.trans hh
    refine J_iconst (pc := 20) dX3_gap_20 ci_0 ?_
    obtain rfl := Option.some.inj hh
    obtain ⟨rfl, rfl⟩ := hk
    exact J_ret (w := some (.int (0 : Int32))) ⟨dX3_gap_21, _, rfl, rfl⟩
  · replace hh := (if_neg c2).symm.trans hh
    refine J_iload_n (pc := 9) dX3_gap_9 rfl ?_
    refine J_iconst (pc := 10) dX3_gap_10 ci_2 ?_
    refine J_iload_n (pc := 11) dX3_gap_11 rfl ?_
    refine J_imul (pc := 12) dX3_gap_12 ?_
    refine J_isub (pc := 13) dX3_gap_13 ?_
    refine J_mabs (pc := 14) mtX3_113 (Nat.le_of_ble_eq_true rfl) dX3_gap_14 ?_
    refine J_goto (pc := 17) 21 dX3_gap_17 (by decide) ?_
    obtain rfl := Option.some.inj hh
    obtain ⟨rfl, rfl⟩ := hk
    exact J_ret (w := some (.int (abI (p1 - ((2 : Int32) * p2))))) ⟨dX3_gap_21, _, rfl, rfl⟩
theorem jX3_gap {X : Scr} (d : Nat) (s : Mem) (p0 : Int32) (p1 : Int32) (p2 : Int32) {r : Int32} (hh : fX3_gap s p0 p1 p2 = some r) : J X MX3_gap (d + 1) 0 [some (.ref 5), some (.int p0), some (.int p1), some (.int p2)] [] s (some (.int r)) s := jjX3_gap d s p0 p1 p2 hh ⟨rfl, rfl⟩
theorem dX3_atEnd_0 : decode cX3_atEnd 0 = .ok (.aload_n 0, 1) := by decide +kernel
theorem dX3_atEnd_1 : decode cX3_atEnd 1 = .ok (.getfield 69, 3) := by decide +kernel
theorem dX3_atEnd_4 : decode cX3_atEnd 4 = .ok (.ifCond .eq 5, 3) := by decide +kernel
theorem dX3_atEnd_7 : decode cX3_atEnd 7 = .ok (.iconst 1, 1) := by decide +kernel
theorem dX3_atEnd_8 : decode cX3_atEnd 8 = .ok (.ireturn, 1) := by decide +kernel
theorem dX3_atEnd_9 : decode cX3_atEnd 9 = .ok (.aload_n 0, 1) := by decide +kernel
theorem dX3_atEnd_10 : decode cX3_atEnd 10 = .ok (.getfield 80, 3) := by decide +kernel
theorem dX3_atEnd_13 : decode cX3_atEnd 13 = .ok (.ineg, 1) := by decide +kernel
theorem dX3_atEnd_14 : decode cX3_atEnd 14 = .ok (.aload_n 0, 1) := by decide +kernel
theorem dX3_atEnd_15 : decode cX3_atEnd 15 = .ok (.iconst 0, 1) := by decide +kernel
theorem dX3_atEnd_16 : decode cX3_atEnd 16 = .ok (.iload_n 1, 1) := by decide +kernel
theorem dX3_atEnd_17 : decode cX3_atEnd 17 = .ok (.iload_n 2, 1) := by decide +kernel
theorem dX3_atEnd_18 : decode cX3_atEnd 18 = .ok (.invokevirtual 110, 3) := by decide +kernel
theorem dX3_atEnd_21 : decode cX3_atEnd 21 = .ok (.aload_n 0, 1) := by decide +kernel
theorem dX3_atEnd_22 : decode cX3_atEnd 22 = .ok (.iconst 1, 1) := by decide +kernel
theorem dX3_atEnd_23 : decode cX3_atEnd 23 = .ok (.iload_n 1, 1) := by decide +kernel
theorem dX3_atEnd_24 : decode cX3_atEnd 24 = .ok (.iload_n 3, 1) := by decide +kernel
theorem dX3_atEnd_25 : decode cX3_atEnd 25 = .ok (.invokevirtual 110, 3) := by decide +kernel
theorem dX3_atEnd_28 : decode cX3_atEnd 28 = .ok (.iadd, 1) := by decide +kernel
theorem dX3_atEnd_29 : decode cX3_atEnd 29 = .ok (.aload_n 0, 1) := by decide +kernel
theorem dX3_atEnd_30 : decode cX3_atEnd 30 = .ok (.iconst 2, 1) := by decide +kernel
theorem dX3_atEnd_31 : decode cX3_atEnd 31 = .ok (.iload_n 1, 1) := by decide +kernel
theorem dX3_atEnd_32 : decode cX3_atEnd 32 = .ok (.iload 4, 2) := by decide +kernel
theorem dX3_atEnd_34 : decode cX3_atEnd 34 = .ok (.invokevirtual 110, 3) := by decide +kernel
theorem dX3_atEnd_37 : decode cX3_atEnd 37 = .ok (.iadd, 1) := by decide +kernel
theorem dX3_atEnd_38 : decode cX3_atEnd 38 = .ok (.imul, 1) := by decide +kernel
theorem dX3_atEnd_39 : decode cX3_atEnd 39 = .ok (.ireturn, 1) := by decide +kernel
def fX3_atEnd (s : Mem) (p0 : Int32) (p1 : Int32) (p2 : Int32) (p3 : Int32) : Option Int32 :=
  if (s.1 5 8) = (0 : Int32) then (fX3_gap s (0 : Int32) p0 p1).bind (fun y1 => (fX3_gap s (1 : Int32) p0 p2).bind (fun y2 => (fX3_gap s (2 : Int32) p0 p3).bind (fun y3 => some (((-(s.1 5 10)) * ((y1 + y2) + y3)))))) else some (1 : Int32)
set_option maxRecDepth 4000 in
theorem jjX3_atEnd {X : Scr} (d : Nat) (s : Mem) (p0 : Int32) (p1 : Int32) (p2 : Int32) (p3 : Int32) {r : Int32} {w : Option Value} {s' : Mem} (hh : fX3_atEnd s p0 p1 p2 p3 = some r) (hk : w = some (.int r) ∧ s = s') : J X MX3_atEnd (d + 2) 0 [some (.ref 5), some (.int p0), some (.int p1), some (.int p2), some (.int p3)] [] s w s' := by
  unfold fX3_atEnd at hh
  refine J_aload_n (pc := 0) dX3_atEnd_0 rfl ?_
  refine J_getI (pc := 1) (k := 8) flX3_69 so5 fk5_8 dX3_atEnd_1 ?_
  refine J_if_eq (pc := 4) 9 dX3_atEnd_4 (by decide) (fun c4 => ?_) (fun c4 => ?_)
  · replace hh := (if_pos c4).symm.trans hh
    refine J_aload_n (pc := 9) dX3_atEnd_9 rfl ?_
    refine J_getI (pc := 10) (k := 10) flX3_80 so5 fk5_10 dX3_atEnd_10 ?_
    refine J_ineg (pc := 13) dX3_atEnd_13 ?_
    refine J_aload_n (pc := 14) dX3_atEnd_14 rfl ?_
    refine J_iconst (pc := 15) dX3_atEnd_15 ci_0 ?_
    refine J_iload_n (pc := 16) dX3_atEnd_16 rfl ?_
    refine J_iload_n (pc := 17) dX3_atEnd_17 rfl ?_
    obtain ⟨y1, hy1, hh⟩ := bd_some hh
    refine J_callVi (pc := 18) (M' := MX3_gap) (a := 5) (rest := [.int (-(s.1 5 10))]) (As := [.int (0 : Int32), .int p0, .int p1]) (L0 := [some (.ref 5), some (.int (0 : Int32)), some (.int p0), some (.int p1)]) okX3_gap ovX3_gap mlX3_110 clX3 so5 rfl rfl (Nat.le_of_ble_eq_true rfl) dX3_atEnd_18 rfl (Nat.le_of_ble_eq_true rfl) (jX3_gap (X := X) d s (0 : Int32) p0 p1 hy1) ?_
    refine J_aload_n (pc := 21) dX3_atEnd_21 rfl ?_
    refine J_iconst (pc := 22) dX3_atEnd_22 ci_1 ?_
    refine J_iload_n (pc := 23) dX3_atEnd_23 rfl ?_
    refine J_iload_n (pc := 24) dX3_atEnd_24 rfl ?_
    obtain ⟨y2, hy2, hh⟩ := bd_some hh
    refine J_callVi (pc := 25) (M' := MX3_gap) (a := 5) (rest := [.int y1, .int (-(s.1 5 10))]) (As := [.int (1 : Int32), .int p0, .int p2]) (L0 := [some (.ref 5), some (.int (1 : Int32)), some (.int p0), some (.int p2)]) okX3_gap ovX3_gap mlX3_110 clX3 so5 rfl rfl (Nat.le_of_ble_eq_true rfl) dX3_atEnd_25 rfl (Nat.le_of_ble_eq_true rfl) (jX3_gap (X := X) d s (1 : Int32) p0 p2 hy2) ?_
    refine J_iadd (pc := 28) dX3_atEnd_28 ?_
    refine J_aload_n (pc := 29) dX3_atEnd_29 rfl ?_
    refine J_iconst (pc := 30) dX3_atEnd_30 ci_2 ?_
    refine J_iload_n (pc := 31) dX3_atEnd_31 rfl ?_
    refine J_iload (pc := 32) dX3_atEnd_32 rfl ?_
    obtain ⟨y3, hy3, hh⟩ := bd_some hh
    refine J_callVi (pc := 34) (M' := MX3_gap) (a := 5) (rest := [.int (y1 + y2), .int (-(s.1 5 10))]) (As := [.int (2 : Int32), .int p0, .int p3]) (L0 := [some (.ref 5), some (.int (2 : Int32)), some (.int p0), some (.int p3)]) okX3_gap ovX3_gap mlX3_110 clX3 so5 rfl rfl (Nat.le_of_ble_eq_true rfl) dX3_atEnd_34 rfl (Nat.le_of_ble_eq_true rfl) (jX3_gap (X := X) d s (2 : Int32) p0 p3 hy3) ?_
    refine J_iadd (pc := 37) dX3_atEnd_37 ?_
    refine J_imul (pc := 38) dX3_atEnd_38 ?_
    obtain rfl := Option.some.inj hh
    obtain ⟨rfl, rfl⟩ := hk
    exact J_ret (w := some (.int ((-(s.1 5 10)) * ((y1 + y2) + y3)))) ⟨dX3_atEnd_39, _, rfl, rfl⟩
  · replace hh := (if_neg c4).symm.trans hh
    refine J_iconst (pc := 7) dX3_atEnd_7 ci_1 ?_
    obtain rfl := Option.some.inj hh
    obtain ⟨rfl, rfl⟩ := hk
    exact J_ret (w := some (.int (1 : Int32))) ⟨dX3_atEnd_8, _, rfl, rfl⟩
theorem jX3_atEnd {X : Scr} (d : Nat) (s : Mem) (p0 : Int32) (p1 : Int32) (p2 : Int32) (p3 : Int32) {r : Int32} (hh : fX3_atEnd s p0 p1 p2 p3 = some r) : J X MX3_atEnd (d + 2) 0 [some (.ref 5), some (.int p0), some (.int p1), some (.int p2), some (.int p3)] [] s (some (.int r)) s := jjX3_atEnd d s p0 p1 p2 p3 hh ⟨rfl, rfl⟩
theorem dX3_joined_0 : decode cX3_joined 0 = .ok (.aload_n 0, 1) := by decide +kernel
theorem dX3_joined_1 : decode cX3_joined 1 = .ok (.getfield 69, 3) := by decide +kernel
theorem dX3_joined_4 : decode cX3_joined 4 = .ok (.ifCond .ne 9, 3) := by decide +kernel
theorem dX3_joined_7 : decode cX3_joined 7 = .ok (.iload_n 3, 1) := by decide +kernel
theorem dX3_joined_8 : decode cX3_joined 8 = .ok (.ldc 86, 2) := by decide +kernel
theorem dX3_joined_10 : decode cX3_joined 10 = .ok (.if_icmp .ne 5, 3) := by decide +kernel
theorem dX3_joined_13 : decode cX3_joined 13 = .ok (.iload_n 3, 1) := by decide +kernel
theorem dX3_joined_14 : decode cX3_joined 14 = .ok (.ireturn, 1) := by decide +kernel
theorem dX3_joined_15 : decode cX3_joined 15 = .ok (.iload_n 2, 1) := by decide +kernel
theorem dX3_joined_16 : decode cX3_joined 16 = .ok (.ifCond .eq 10, 3) := by decide +kernel
theorem dX3_joined_19 : decode cX3_joined 19 = .ok (.aload_n 0, 1) := by decide +kernel
theorem dX3_joined_20 : decode cX3_joined 20 = .ok (.getfield 77, 3) := by decide +kernel
theorem dX3_joined_23 : decode cX3_joined 23 = .ok (.goto 4, 3) := by decide +kernel
theorem dX3_joined_26 : decode cX3_joined 26 = .ok (.iconst 0, 1) := by decide +kernel
theorem dX3_joined_27 : decode cX3_joined 27 = .ok (.istore 4, 2) := by decide +kernel
theorem dX3_joined_29 : decode cX3_joined 29 = .ok (.iload_n 3, 1) := by decide +kernel
theorem dX3_joined_30 : decode cX3_joined 30 = .ok (.aload_n 0, 1) := by decide +kernel
theorem dX3_joined_31 : decode cX3_joined 31 = .ok (.getfield 18, 3) := by decide +kernel
theorem dX3_joined_34 : decode cX3_joined 34 = .ok (.iload_n 1, 1) := by decide +kernel
theorem dX3_joined_35 : decode cX3_joined 35 = .ok (.iaload, 1) := by decide +kernel
theorem dX3_joined_36 : decode cX3_joined 36 = .ok (.ifCond .eq 23, 3) := by decide +kernel
theorem dX3_joined_39 : decode cX3_joined 39 = .ok (.aload_n 0, 1) := by decide +kernel
theorem dX3_joined_40 : decode cX3_joined 40 = .ok (.getfield 18, 3) := by decide +kernel
theorem dX3_joined_43 : decode cX3_joined 43 = .ok (.iload_n 1, 1) := by decide +kernel
theorem dX3_joined_44 : decode cX3_joined 44 = .ok (.iaload, 1) := by decide +kernel
theorem dX3_joined_45 : decode cX3_joined 45 = .ok (.iload_n 2, 1) := by decide +kernel
theorem dX3_joined_46 : decode cX3_joined 46 = .ok (.if_icmp .eq 13, 3) := by decide +kernel
theorem dX3_joined_49 : decode cX3_joined 49 = .ok (.iload 4, 2) := by decide +kernel
theorem dX3_joined_51 : decode cX3_joined 51 = .ok (.aload_n 0, 1) := by decide +kernel
theorem dX3_joined_52 : decode cX3_joined 52 = .ok (.getfield 83, 3) := by decide +kernel
theorem dX3_joined_55 : decode cX3_joined 55 = .ok (.isub, 1) := by decide +kernel
theorem dX3_joined_56 : decode cX3_joined 56 = .ok (.goto 5, 3) := by decide +kernel
theorem dX3_joined_59 : decode cX3_joined 59 = .ok (.iload 4, 2) := by decide +kernel
theorem dX3_joined_61 : decode cX3_joined 61 = .ok (.iadd, 1) := by decide +kernel
theorem dX3_joined_62 : decode cX3_joined 62 = .ok (.ireturn, 1) := by decide +kernel
def gX3_joined_27 (s : Mem) (v1 : Int32) (v2 : Int32) (v3 : Int32) (k0 : Int32) : Option Int32 :=
  gd v1 6 (if (s.1 8 v1.toNatClampNeg) = (0 : Int32) then some ((v3 + k0)) else gd v1 6 (if (s.1 8 v1.toNatClampNeg) = v2 then some ((v3 + k0)) else some ((v3 + (k0 - (s.1 5 11))))))
set_option maxRecDepth 4000 in
theorem jgX3_joined_27 {X : Scr} (d : Nat) (s : Mem) (v1 : Int32) (v2 : Int32) (v3 : Int32) (k0 : Int32) {r : Int32} {w : Option Value} {s' : Mem} (hh : gX3_joined_27 s v1 v2 v3 k0 = some r) (hk : w = some (.int r) ∧ s = s') : J X MX3_joined (d + 0) 27 [some (.ref 5), some (.int v1), some (.int v2), some (.int v3), none] [.int k0] s w s' := by
  unfold gX3_joined_27 at hh
  refine J_istore (pc := 27) (L' := [some (.ref 5), some (.int v1), some (.int v2), some (.int v3), some (.int k0)]) dX3_joined_27 rfl (Nat.le_of_ble_eq_true rfl) rfl ?_
  refine J_iload_n (pc := 29) dX3_joined_29 rfl ?_
  refine J_aload_n (pc := 30) dX3_joined_30 rfl ?_
  refine J_getR (pc := 31) (k := 2) flX3_18 so5 fk5_2 dX3_joined_31 ?_
  refine J_iload_n (pc := 34) dX3_joined_34 rfl ?_
  obtain ⟨h1, hh⟩ := gd_some hh
  refine J_iald (pc := 35) dX3_joined_35 sa8 h1 ?_
  refine J_if_eq (pc := 36) 59 dX3_joined_36 (by decide) (fun c4 => ?_) (fun c4 => ?_)
  · replace hh := (if_pos c4).symm.trans hh
    refine J_iload (pc := 59) dX3_joined_59 rfl ?_
    refine J_iadd (pc := 61) dX3_joined_61 ?_
    obtain rfl := Option.some.inj hh
    obtain ⟨rfl, rfl⟩ := hk
    exact J_ret (w := some (.int (v3 + k0))) ⟨dX3_joined_62, _, rfl, rfl⟩
  · replace hh := (if_neg c4).symm.trans hh
    refine J_aload_n (pc := 39) dX3_joined_39 rfl ?_
    refine J_getR (pc := 40) (k := 2) flX3_18 so5 fk5_2 dX3_joined_40 ?_
    refine J_iload_n (pc := 43) dX3_joined_43 rfl ?_
    obtain ⟨h2, hh⟩ := gd_some hh
    refine J_iald (pc := 44) dX3_joined_44 sa8 h2 ?_
    refine J_iload_n (pc := 45) dX3_joined_45 rfl ?_
    refine J_icmp_eq (pc := 46) 59 dX3_joined_46 (by decide) (fun c3 => ?_) (fun c3 => ?_)
    · replace hh := (if_pos c3).symm.trans hh
      refine J_iload (pc := 59) dX3_joined_59 rfl ?_
      refine J_iadd (pc := 61) dX3_joined_61 ?_
      obtain rfl := Option.some.inj hh
      obtain ⟨rfl, rfl⟩ := hk
      exact J_ret (w := some (.int (v3 + k0))) ⟨dX3_joined_62, _, rfl, rfl⟩
    · replace hh := (if_neg c3).symm.trans hh
      refine J_iload (pc := 49) dX3_joined_49 rfl ?_
      refine J_aload_n (pc := 51) dX3_joined_51 rfl ?_
      refine J_getI (pc := 52) (k := 11) flX3_83 so5 fk5_11 dX3_joined_52 ?_
      refine J_isub (pc := 55) dX3_joined_55 ?_
      refine J_goto (pc := 56) 61 dX3_joined_56 (by decide) ?_
      refine J_iadd (pc := 61) dX3_joined_61 ?_
      obtain rfl := Option.some.inj hh
      obtain ⟨rfl, rfl⟩ := hk
      exact J_ret (w := some (.int (v3 + (k0 - (s.1 5 11))))) ⟨dX3_joined_62, _, rfl, rfl⟩
def fX3_joined (s : Mem) (p0 : Int32) (p1 : Int32) (p2 : Int32) : Option Int32 :=
  if (s.1 5 8) = (0 : Int32) then if p2 = (-1000000000 : Int32) then some p2 else if p1 = (0 : Int32) then gX3_joined_27 s p0 p1 p2 (0 : Int32) else gX3_joined_27 s p0 p1 p2 (s.1 5 9) else some p2
set_option maxRecDepth 4000 in
theorem jjX3_joined {X : Scr} (d : Nat) (s : Mem) (p0 : Int32) (p1 : Int32) (p2 : Int32) {r : Int32} {w : Option Value} {s' : Mem} (hh : fX3_joined s p0 p1 p2 = some r) (hk : w = some (.int r) ∧ s = s') : J X MX3_joined (d + 0) 0 [some (.ref 5), some (.int p0), some (.int p1), some (.int p2), none] [] s w s' := by
  unfold fX3_joined at hh
  refine J_aload_n (pc := 0) dX3_joined_0 rfl ?_
  refine J_getI (pc := 1) (k := 8) flX3_69 so5 fk5_8 dX3_joined_1 ?_
  refine J_if_ne (pc := 4) 13 dX3_joined_4 (by decide) (fun c7 => ?_) (fun c7 => ?_)
  · replace hh := (if_neg c7).symm.trans hh
    refine J_iload_n (pc := 13) dX3_joined_13 rfl ?_
    obtain rfl := Option.some.inj hh
    obtain ⟨rfl, rfl⟩ := hk
    exact J_ret (w := some (.int p2)) ⟨dX3_joined_14, _, rfl, rfl⟩
  · replace hh := (if_pos c7).symm.trans hh
    refine J_iload_n (pc := 7) dX3_joined_7 rfl ?_
    refine J_ldc (pc := 8) kcX3_86 dX3_joined_8 ?_
    refine J_icmp_ne (pc := 10) 15 dX3_joined_10 (by decide) (fun c6 => ?_) (fun c6 => ?_)
    · replace hh := (if_neg c6).symm.trans hh
      refine J_iload_n (pc := 15) dX3_joined_15 rfl ?_
      refine J_if_eq (pc := 16) 26 dX3_joined_16 (by decide) (fun c5 => ?_) (fun c5 => ?_)
      · replace hh := (if_pos c5).symm.trans hh
        refine J_iconst (pc := 26) dX3_joined_26 ci_0 ?_
        exact jgX3_joined_27 d s p0 p1 p2 (0 : Int32) hh hk
      · replace hh := (if_neg c5).symm.trans hh
        refine J_aload_n (pc := 19) dX3_joined_19 rfl ?_
        refine J_getI (pc := 20) (k := 9) flX3_77 so5 fk5_9 dX3_joined_20 ?_
        refine J_goto (pc := 23) 27 dX3_joined_23 (by decide) ?_
        exact jgX3_joined_27 d s p0 p1 p2 (s.1 5 9) hh hk
    · replace hh := (if_pos c6).symm.trans hh
      refine J_iload_n (pc := 13) dX3_joined_13 rfl ?_
      obtain rfl := Option.some.inj hh
      obtain ⟨rfl, rfl⟩ := hk
      exact J_ret (w := some (.int p2)) ⟨dX3_joined_14, _, rfl, rfl⟩
theorem jX3_joined {X : Scr} (d : Nat) (s : Mem) (p0 : Int32) (p1 : Int32) (p2 : Int32) {r : Int32} (hh : fX3_joined s p0 p1 p2 = some r) : J X MX3_joined (d + 0) 0 [some (.ref 5), some (.int p0), some (.int p1), some (.int p2), none] [] s (some (.int r)) s := jjX3_joined d s p0 p1 p2 hh ⟨rfl, rfl⟩
theorem dX3_held_0 : decode cX3_held 0 = .ok (.iload_n 3, 1) := by decide +kernel
theorem dX3_held_1 : decode cX3_held 1 = .ok (.aload_n 0, 1) := by decide +kernel
theorem dX3_held_2 : decode cX3_held 2 = .ok (.getfield 24, 3) := by decide +kernel
theorem dX3_held_5 : decode cX3_held 5 = .ok (.iconst 2, 1) := by decide +kernel
theorem dX3_held_6 : decode cX3_held 6 = .ok (.iload_n 1, 1) := by decide +kernel
theorem dX3_held_7 : decode cX3_held 7 = .ok (.imul, 1) := by decide +kernel
theorem dX3_held_8 : decode cX3_held 8 = .ok (.iconst 1, 1) := by decide +kernel
theorem dX3_held_9 : decode cX3_held 9 = .ok (.iadd, 1) := by decide +kernel
theorem dX3_held_10 : decode cX3_held 10 = .ok (.iaload, 1) := by decide +kernel
theorem dX3_held_11 : decode cX3_held 11 = .ok (.if_icmp .gt 21, 3) := by decide +kernel
theorem dX3_held_14 : decode cX3_held 14 = .ok (.iload_n 2, 1) := by decide +kernel
theorem dX3_held_15 : decode cX3_held 15 = .ok (.iload_n 3, 1) := by decide +kernel
theorem dX3_held_16 : decode cX3_held 16 = .ok (.isub, 1) := by decide +kernel
theorem dX3_held_17 : decode cX3_held 17 = .ok (.aload_n 0, 1) := by decide +kernel
theorem dX3_held_18 : decode cX3_held 18 = .ok (.getfield 24, 3) := by decide +kernel
theorem dX3_held_21 : decode cX3_held 21 = .ok (.iconst 2, 1) := by decide +kernel
theorem dX3_held_22 : decode cX3_held 22 = .ok (.iload_n 1, 1) := by decide +kernel
theorem dX3_held_23 : decode cX3_held 23 = .ok (.imul, 1) := by decide +kernel
theorem dX3_held_24 : decode cX3_held 24 = .ok (.iaload, 1) := by decide +kernel
theorem dX3_held_25 : decode cX3_held 25 = .ok (.if_icmp .gt 7, 3) := by decide +kernel
theorem dX3_held_28 : decode cX3_held 28 = .ok (.iconst 1, 1) := by decide +kernel
theorem dX3_held_29 : decode cX3_held 29 = .ok (.goto 4, 3) := by decide +kernel
theorem dX3_held_32 : decode cX3_held 32 = .ok (.iconst 0, 1) := by decide +kernel
theorem dX3_held_33 : decode cX3_held 33 = .ok (.ireturn, 1) := by decide +kernel
def fX3_held (s : Mem) (p0 : Int32) (p1 : Int32) (p2 : Int32) : Option Int32 :=
  gd (((2 : Int32) * p0) + (1 : Int32)) 6 (if (s.1 10 (((2 : Int32) * p0) + (1 : Int32)).toNatClampNeg) < p2 then some (0 : Int32) else gd ((2 : Int32) * p0) 6 (if (s.1 10 ((2 : Int32) * p0).toNatClampNeg) < (p1 - p2) then some (0 : Int32) else some (1 : Int32)))
set_option maxRecDepth 4000 in
theorem jjX3_held {X : Scr} (d : Nat) (s : Mem) (p0 : Int32) (p1 : Int32) (p2 : Int32) {r : Int32} {w : Option Value} {s' : Mem} (hh : fX3_held s p0 p1 p2 = some r) (hk : w = some (.int r) ∧ s = s') : J X MX3_held (d + 0) 0 [some (.ref 5), some (.int p0), some (.int p1), some (.int p2)] [] s w s' := by
  unfold fX3_held at hh
  refine J_iload_n (pc := 0) dX3_held_0 rfl ?_
  refine J_aload_n (pc := 1) dX3_held_1 rfl ?_
  refine J_getR (pc := 2) (k := 4) flX3_24 so5 fk5_4 dX3_held_2 ?_
  refine J_iconst (pc := 5) dX3_held_5 ci_2 ?_
  refine J_iload_n (pc := 6) dX3_held_6 rfl ?_
  refine J_imul (pc := 7) dX3_held_7 ?_
  refine J_iconst (pc := 8) dX3_held_8 ci_1 ?_
  refine J_iadd (pc := 9) dX3_held_9 ?_
  obtain ⟨h1, hh⟩ := gd_some hh
  refine J_iald (pc := 10) dX3_held_10 sa10 h1 ?_
  refine J_icmp_gt (pc := 11) 32 dX3_held_11 (by decide) (fun c4 => ?_) (fun c4 => ?_)
  · replace hh := (if_pos c4).symm.trans hh
    refine J_iconst (pc := 32) dX3_held_32 ci_0 ?_
    obtain rfl := Option.some.inj hh
    obtain ⟨rfl, rfl⟩ := hk
    exact J_ret (w := some (.int (0 : Int32))) ⟨dX3_held_33, _, rfl, rfl⟩
  · replace hh := (if_neg c4).symm.trans hh
    refine J_iload_n (pc := 14) dX3_held_14 rfl ?_
    refine J_iload_n (pc := 15) dX3_held_15 rfl ?_
    refine J_isub (pc := 16) dX3_held_16 ?_
    refine J_aload_n (pc := 17) dX3_held_17 rfl ?_
    refine J_getR (pc := 18) (k := 4) flX3_24 so5 fk5_4 dX3_held_18 ?_
    refine J_iconst (pc := 21) dX3_held_21 ci_2 ?_
    refine J_iload_n (pc := 22) dX3_held_22 rfl ?_
    refine J_imul (pc := 23) dX3_held_23 ?_
    obtain ⟨h2, hh⟩ := gd_some hh
    refine J_iald (pc := 24) dX3_held_24 sa10 h2 ?_
    refine J_icmp_gt (pc := 25) 32 dX3_held_25 (by decide) (fun c3 => ?_) (fun c3 => ?_)
    · replace hh := (if_pos c3).symm.trans hh
      refine J_iconst (pc := 32) dX3_held_32 ci_0 ?_
      obtain rfl := Option.some.inj hh
      obtain ⟨rfl, rfl⟩ := hk
      exact J_ret (w := some (.int (0 : Int32))) ⟨dX3_held_33, _, rfl, rfl⟩
    · replace hh := (if_neg c3).symm.trans hh
      refine J_iconst (pc := 28) dX3_held_28 ci_1 ?_
      refine J_goto (pc := 29) 33 dX3_held_29 (by decide) ?_
      obtain rfl := Option.some.inj hh
      obtain ⟨rfl, rfl⟩ := hk
      exact J_ret (w := some (.int (1 : Int32))) ⟨dX3_held_33, _, rfl, rfl⟩
theorem jX3_held {X : Scr} (d : Nat) (s : Mem) (p0 : Int32) (p1 : Int32) (p2 : Int32) {r : Int32} (hh : fX3_held s p0 p1 p2 = some r) : J X MX3_held (d + 0) 0 [some (.ref 5), some (.int p0), some (.int p1), some (.int p2)] [] s (some (.int r)) s := jjX3_held d s p0 p1 p2 hh ⟨rfl, rfl⟩
theorem dX3_through_0 : decode cX3_through 0 = .ok (.iload_n 2, 1) := by decide +kernel
theorem dX3_through_1 : decode cX3_through 1 = .ok (.ifCond .ne 28, 3) := by decide +kernel
theorem dX3_through_4 : decode cX3_through 4 = .ok (.aload_n 0, 1) := by decide +kernel
theorem dX3_through_5 : decode cX3_through 5 = .ok (.iload_n 1, 1) := by decide +kernel
theorem dX3_through_6 : decode cX3_through 6 = .ok (.iload_n 2, 1) := by decide +kernel
theorem dX3_through_7 : decode cX3_through 7 = .ok (.aload_n 0, 1) := by decide +kernel
theorem dX3_through_8 : decode cX3_through 8 = .ok (.getfield 11, 3) := by decide +kernel
theorem dX3_through_11 : decode cX3_through 11 = .ok (.iload_n 1, 1) := by decide +kernel
theorem dX3_through_12 : decode cX3_through 12 = .ok (.iconst 1, 1) := by decide +kernel
theorem dX3_through_13 : decode cX3_through 13 = .ok (.iadd, 1) := by decide +kernel
theorem dX3_through_14 : decode cX3_through 14 = .ok (.iload_n 3, 1) := by decide +kernel
theorem dX3_through_15 : decode cX3_through 15 = .ok (.iload 4, 2) := by decide +kernel
theorem dX3_through_17 : decode cX3_through 17 = .ok (.iload 5, 2) := by decide +kernel
theorem dX3_through_19 : decode cX3_through 19 = .ok (.iload 6, 2) := by decide +kernel
theorem dX3_through_21 : decode cX3_through 21 = .ok (.invokestatic 100, 3) := by decide +kernel
theorem dX3_through_24 : decode cX3_through 24 = .ok (.iaload, 1) := by decide +kernel
theorem dX3_through_25 : decode cX3_through 25 = .ok (.invokevirtual 124, 3) := by decide +kernel
theorem dX3_through_28 : decode cX3_through 28 = .ok (.ireturn, 1) := by decide +kernel
theorem dX3_through_29 : decode cX3_through 29 = .ok (.iload_n 2, 1) := by decide +kernel
theorem dX3_through_30 : decode cX3_through 30 = .ok (.iconst 1, 1) := by decide +kernel
theorem dX3_through_31 : decode cX3_through 31 = .ok (.isub, 1) := by decide +kernel
theorem dX3_through_32 : decode cX3_through 32 = .ok (.istore 7, 2) := by decide +kernel
theorem dX3_through_34 : decode cX3_through 34 = .ok (.iload 4, 2) := by decide +kernel
theorem dX3_through_36 : decode cX3_through 36 = .ok (.iload 7, 2) := by decide +kernel
theorem dX3_through_38 : decode cX3_through 38 = .ok (.iconst 2, 1) := by decide +kernel
theorem dX3_through_39 : decode cX3_through 39 = .ok (.ishr, 1) := by decide +kernel
theorem dX3_through_40 : decode cX3_through 40 = .ok (.iconst 1, 1) := by decide +kernel
theorem dX3_through_41 : decode cX3_through 41 = .ok (.iand, 1) := by decide +kernel
theorem dX3_through_42 : decode cX3_through 42 = .ok (.iadd, 1) := by decide +kernel
theorem dX3_through_43 : decode cX3_through 43 = .ok (.istore 8, 2) := by decide +kernel
theorem dX3_through_45 : decode cX3_through 45 = .ok (.iload 5, 2) := by decide +kernel
theorem dX3_through_47 : decode cX3_through 47 = .ok (.iload 7, 2) := by decide +kernel
theorem dX3_through_49 : decode cX3_through 49 = .ok (.iconst 1, 1) := by decide +kernel
theorem dX3_through_50 : decode cX3_through 50 = .ok (.ishr, 1) := by decide +kernel
theorem dX3_through_51 : decode cX3_through 51 = .ok (.iconst 1, 1) := by decide +kernel
theorem dX3_through_52 : decode cX3_through 52 = .ok (.iand, 1) := by decide +kernel
theorem dX3_through_53 : decode cX3_through 53 = .ok (.iadd, 1) := by decide +kernel
theorem dX3_through_54 : decode cX3_through 54 = .ok (.istore 9, 2) := by decide +kernel
theorem dX3_through_56 : decode cX3_through 56 = .ok (.iload 6, 2) := by decide +kernel
theorem dX3_through_58 : decode cX3_through 58 = .ok (.iload 7, 2) := by decide +kernel
theorem dX3_through_60 : decode cX3_through 60 = .ok (.iconst 1, 1) := by decide +kernel
theorem dX3_through_61 : decode cX3_through 61 = .ok (.iand, 1) := by decide +kernel
theorem dX3_through_62 : decode cX3_through 62 = .ok (.iadd, 1) := by decide +kernel
theorem dX3_through_63 : decode cX3_through 63 = .ok (.istore 10, 2) := by decide +kernel
theorem dX3_through_65 : decode cX3_through 65 = .ok (.aload_n 0, 1) := by decide +kernel
theorem dX3_through_66 : decode cX3_through 66 = .ok (.iconst 0, 1) := by decide +kernel
theorem dX3_through_67 : decode cX3_through 67 = .ok (.iload_n 3, 1) := by decide +kernel
theorem dX3_through_68 : decode cX3_through 68 = .ok (.iconst 1, 1) := by decide +kernel
theorem dX3_through_69 : decode cX3_through 69 = .ok (.iadd, 1) := by decide +kernel
theorem dX3_through_70 : decode cX3_through 70 = .ok (.iload 8, 2) := by decide +kernel
theorem dX3_through_72 : decode cX3_through 72 = .ok (.invokevirtual 127, 3) := by decide +kernel
theorem dX3_through_75 : decode cX3_through 75 = .ok (.ifCond .eq 29, 3) := by decide +kernel
theorem dX3_through_78 : decode cX3_through 78 = .ok (.aload_n 0, 1) := by decide +kernel
theorem dX3_through_79 : decode cX3_through 79 = .ok (.iconst 1, 1) := by decide +kernel
theorem dX3_through_80 : decode cX3_through 80 = .ok (.iload_n 3, 1) := by decide +kernel
theorem dX3_through_81 : decode cX3_through 81 = .ok (.iconst 1, 1) := by decide +kernel
theorem dX3_through_82 : decode cX3_through 82 = .ok (.iadd, 1) := by decide +kernel
theorem dX3_through_83 : decode cX3_through 83 = .ok (.iload 9, 2) := by decide +kernel
theorem dX3_through_85 : decode cX3_through 85 = .ok (.invokevirtual 127, 3) := by decide +kernel
theorem dX3_through_88 : decode cX3_through 88 = .ok (.ifCond .eq 16, 3) := by decide +kernel
theorem dX3_through_91 : decode cX3_through 91 = .ok (.aload_n 0, 1) := by decide +kernel
theorem dX3_through_92 : decode cX3_through 92 = .ok (.iconst 2, 1) := by decide +kernel
theorem dX3_through_93 : decode cX3_through 93 = .ok (.iload_n 3, 1) := by decide +kernel
theorem dX3_through_94 : decode cX3_through 94 = .ok (.iconst 1, 1) := by decide +kernel
theorem dX3_through_95 : decode cX3_through 95 = .ok (.iadd, 1) := by decide +kernel
theorem dX3_through_96 : decode cX3_through 96 = .ok (.iload 10, 2) := by decide +kernel
theorem dX3_through_98 : decode cX3_through 98 = .ok (.invokevirtual 127, 3) := by decide +kernel
theorem dX3_through_101 : decode cX3_through 101 = .ok (.ifCond .ne 6, 3) := by decide +kernel
theorem dX3_through_104 : decode cX3_through 104 = .ok (.ldc 86, 2) := by decide +kernel
theorem dX3_through_106 : decode cX3_through 106 = .ok (.ireturn, 1) := by decide +kernel
theorem dX3_through_107 : decode cX3_through 107 = .ok (.aload_n 0, 1) := by decide +kernel
theorem dX3_through_108 : decode cX3_through 108 = .ok (.iload_n 1, 1) := by decide +kernel
theorem dX3_through_109 : decode cX3_through 109 = .ok (.iload_n 2, 1) := by decide +kernel
theorem dX3_through_110 : decode cX3_through 110 = .ok (.aload_n 0, 1) := by decide +kernel
theorem dX3_through_111 : decode cX3_through 111 = .ok (.getfield 11, 3) := by decide +kernel
theorem dX3_through_114 : decode cX3_through 114 = .ok (.iload_n 1, 1) := by decide +kernel
theorem dX3_through_115 : decode cX3_through 115 = .ok (.iconst 1, 1) := by decide +kernel
theorem dX3_through_116 : decode cX3_through 116 = .ok (.iadd, 1) := by decide +kernel
theorem dX3_through_117 : decode cX3_through 117 = .ok (.iload_n 3, 1) := by decide +kernel
theorem dX3_through_118 : decode cX3_through 118 = .ok (.iconst 1, 1) := by decide +kernel
theorem dX3_through_119 : decode cX3_through 119 = .ok (.iadd, 1) := by decide +kernel
theorem dX3_through_120 : decode cX3_through 120 = .ok (.iload 8, 2) := by decide +kernel
theorem dX3_through_122 : decode cX3_through 122 = .ok (.iload 9, 2) := by decide +kernel
theorem dX3_through_124 : decode cX3_through 124 = .ok (.iload 10, 2) := by decide +kernel
theorem dX3_through_126 : decode cX3_through 126 = .ok (.invokestatic 100, 3) := by decide +kernel
theorem dX3_through_129 : decode cX3_through 129 = .ok (.iaload, 1) := by decide +kernel
theorem dX3_through_130 : decode cX3_through 130 = .ok (.invokevirtual 124, 3) := by decide +kernel
theorem dX3_through_133 : decode cX3_through 133 = .ok (.ireturn, 1) := by decide +kernel
def fX3_through (s : Mem) (p0 : Int32) (p1 : Int32) (p2 : Int32) (p3 : Int32) (p4 : Int32) (p5 : Int32) : Option Int32 :=
  if p1 = (0 : Int32) then (fX3_place (p0 + (1 : Int32)) p2 p3 p4 p5).bind (fun y14 => gd y14 1596 ((fX3_joined s p0 p1 (s.1 6 y14.toNatClampNeg)).bind (fun y16 => some y16))) else lt (p1 - (1 : Int32)) (fun x1 => lt (p3 + ((x1 >>> ((2 : Int32) &&& 31)) &&& (1 : Int32))) (fun x2 => lt (p4 + ((x1 >>> ((1 : Int32) &&& 31)) &&& (1 : Int32))) (fun x3 => lt (p5 + (x1 &&& (1 : Int32))) (fun x4 => (fX3_held s (0 : Int32) (p2 + (1 : Int32)) x2).bind (fun y5 => if y5 = (0 : Int32) then some (-1000000000 : Int32) else (fX3_held s (1 : Int32) (p2 + (1 : Int32)) x3).bind (fun y6 => if y6 = (0 : Int32) then some (-1000000000 : Int32) else (fX3_held s (2 : Int32) (p2 + (1 : Int32)) x4).bind (fun y7 => if y7 = (0 : Int32) then some (-1000000000 : Int32) else (fX3_place (p0 + (1 : Int32)) (p2 + (1 : Int32)) x2 x3 x4).bind (fun y8 => gd y8 1596 ((fX3_joined s p0 p1 (s.1 6 y8.toNatClampNeg)).bind (fun y10 => some y10))))))))))
set_option maxRecDepth 4000 in
theorem jjX3_through {X : Scr} (d : Nat) (s : Mem) (p0 : Int32) (p1 : Int32) (p2 : Int32) (p3 : Int32) (p4 : Int32) (p5 : Int32) {r : Int32} {w : Option Value} {s' : Mem} (hh : fX3_through s p0 p1 p2 p3 p4 p5 = some r) (hk : w = some (.int r) ∧ s = s') : J X MX3_through (d + 1) 0 [some (.ref 5), some (.int p0), some (.int p1), some (.int p2), some (.int p3), some (.int p4), some (.int p5), none, none, none, none] [] s w s' := by
  unfold fX3_through at hh
  refine J_iload_n (pc := 0) dX3_through_0 rfl ?_
  refine J_if_ne (pc := 1) 29 dX3_through_1 (by decide) (fun c17 => ?_) (fun c17 => ?_)
  · replace hh := (if_neg c17).symm.trans hh
    refine J_iload_n (pc := 29) dX3_through_29 rfl ?_
    refine J_iconst (pc := 30) dX3_through_30 ci_1 ?_
    refine J_isub (pc := 31) dX3_through_31 ?_
    refine J_istoreL (pc := 32) (fun x1 => [some (.ref 5), some (.int p0), some (.int p1), some (.int p2), some (.int p3), some (.int p4), some (.int p5), some (.int x1), none, none, none]) dX3_through_32 rfl (Nat.le_of_ble_eq_true rfl) (fun _ => rfl) hh (fun x1 hh => ?_)
    refine J_iload (pc := 34) dX3_through_34 rfl ?_
    refine J_iload (pc := 36) dX3_through_36 rfl ?_
    refine J_iconst (pc := 38) dX3_through_38 ci_2 ?_
    refine J_ishr (pc := 39) dX3_through_39 ?_
    refine J_iconst (pc := 40) dX3_through_40 ci_1 ?_
    refine J_iand (pc := 41) dX3_through_41 ?_
    refine J_iadd (pc := 42) dX3_through_42 ?_
    refine J_istoreL (pc := 43) (fun x2 => [some (.ref 5), some (.int p0), some (.int p1), some (.int p2), some (.int p3), some (.int p4), some (.int p5), some (.int x1), some (.int x2), none, none]) dX3_through_43 rfl (Nat.le_of_ble_eq_true rfl) (fun _ => rfl) hh (fun x2 hh => ?_)
    refine J_iload (pc := 45) dX3_through_45 rfl ?_
    refine J_iload (pc := 47) dX3_through_47 rfl ?_
    refine J_iconst (pc := 49) dX3_through_49 ci_1 ?_
    refine J_ishr (pc := 50) dX3_through_50 ?_
    refine J_iconst (pc := 51) dX3_through_51 ci_1 ?_
    refine J_iand (pc := 52) dX3_through_52 ?_
    refine J_iadd (pc := 53) dX3_through_53 ?_
    refine J_istoreL (pc := 54) (fun x3 => [some (.ref 5), some (.int p0), some (.int p1), some (.int p2), some (.int p3), some (.int p4), some (.int p5), some (.int x1), some (.int x2), some (.int x3), none]) dX3_through_54 rfl (Nat.le_of_ble_eq_true rfl) (fun _ => rfl) hh (fun x3 hh => ?_)
    refine J_iload (pc := 56) dX3_through_56 rfl ?_
    refine J_iload (pc := 58) dX3_through_58 rfl ?_
    refine J_iconst (pc := 60) dX3_through_60 ci_1 ?_
    refine J_iand (pc := 61) dX3_through_61 ?_
    refine J_iadd (pc := 62) dX3_through_62 ?_
    refine J_istoreL (pc := 63) (fun x4 => [some (.ref 5), some (.int p0), some (.int p1), some (.int p2), some (.int p3), some (.int p4), some (.int p5), some (.int x1), some (.int x2), some (.int x3), some (.int x4)]) dX3_through_63 rfl (Nat.le_of_ble_eq_true rfl) (fun _ => rfl) hh (fun x4 hh => ?_)
    refine J_aload_n (pc := 65) dX3_through_65 rfl ?_
    refine J_iconst (pc := 66) dX3_through_66 ci_0 ?_
    refine J_iload_n (pc := 67) dX3_through_67 rfl ?_
    refine J_iconst (pc := 68) dX3_through_68 ci_1 ?_
    refine J_iadd (pc := 69) dX3_through_69 ?_
    refine J_iload (pc := 70) dX3_through_70 rfl ?_
    obtain ⟨y5, hy5, hh⟩ := bd_some hh
    refine J_callVi (pc := 72) (M' := MX3_held) (a := 5) (rest := []) (As := [.int (0 : Int32), .int (p2 + (1 : Int32)), .int x2]) (L0 := [some (.ref 5), some (.int (0 : Int32)), some (.int (p2 + (1 : Int32))), some (.int x2)]) okX3_held ovX3_held mlX3_127 clX3 so5 rfl rfl (Nat.le_of_ble_eq_true rfl) dX3_through_72 rfl (Nat.le_of_ble_eq_true rfl) (jX3_held (X := X) d s (0 : Int32) (p2 + (1 : Int32)) x2 hy5) ?_
    refine J_if_eq (pc := 75) 104 dX3_through_75 (by decide) (fun c13 => ?_) (fun c13 => ?_)
    · replace hh := (if_pos c13).symm.trans hh
      refine J_ldc (pc := 104) kcX3_86 dX3_through_104 ?_
      obtain rfl := Option.some.inj hh
      obtain ⟨rfl, rfl⟩ := hk
      exact J_ret (w := some (.int (-1000000000 : Int32))) ⟨dX3_through_106, _, rfl, rfl⟩
    · replace hh := (if_neg c13).symm.trans hh
      refine J_aload_n (pc := 78) dX3_through_78 rfl ?_
      refine J_iconst (pc := 79) dX3_through_79 ci_1 ?_
      refine J_iload_n (pc := 80) dX3_through_80 rfl ?_
      refine J_iconst (pc := 81) dX3_through_81 ci_1 ?_
      refine J_iadd (pc := 82) dX3_through_82 ?_
      refine J_iload (pc := 83) dX3_through_83 rfl ?_
      obtain ⟨y6, hy6, hh⟩ := bd_some hh
      refine J_callVi (pc := 85) (M' := MX3_held) (a := 5) (rest := []) (As := [.int (1 : Int32), .int (p2 + (1 : Int32)), .int x3]) (L0 := [some (.ref 5), some (.int (1 : Int32)), some (.int (p2 + (1 : Int32))), some (.int x3)]) okX3_held ovX3_held mlX3_127 clX3 so5 rfl rfl (Nat.le_of_ble_eq_true rfl) dX3_through_85 rfl (Nat.le_of_ble_eq_true rfl) (jX3_held (X := X) d s (1 : Int32) (p2 + (1 : Int32)) x3 hy6) ?_
      refine J_if_eq (pc := 88) 104 dX3_through_88 (by decide) (fun c12 => ?_) (fun c12 => ?_)
      · replace hh := (if_pos c12).symm.trans hh
        refine J_ldc (pc := 104) kcX3_86 dX3_through_104 ?_
        obtain rfl := Option.some.inj hh
        obtain ⟨rfl, rfl⟩ := hk
        exact J_ret (w := some (.int (-1000000000 : Int32))) ⟨dX3_through_106, _, rfl, rfl⟩
      · replace hh := (if_neg c12).symm.trans hh
        refine J_aload_n (pc := 91) dX3_through_91 rfl ?_
        refine J_iconst (pc := 92) dX3_through_92 ci_2 ?_
        refine J_iload_n (pc := 93) dX3_through_93 rfl ?_
        refine J_iconst (pc := 94) dX3_through_94 ci_1 ?_
        refine J_iadd (pc := 95) dX3_through_95 ?_
        refine J_iload (pc := 96) dX3_through_96 rfl ?_
        obtain ⟨y7, hy7, hh⟩ := bd_some hh
        refine J_callVi (pc := 98) (M' := MX3_held) (a := 5) (rest := []) (As := [.int (2 : Int32), .int (p2 + (1 : Int32)), .int x4]) (L0 := [some (.ref 5), some (.int (2 : Int32)), some (.int (p2 + (1 : Int32))), some (.int x4)]) okX3_held ovX3_held mlX3_127 clX3 so5 rfl rfl (Nat.le_of_ble_eq_true rfl) dX3_through_98 rfl (Nat.le_of_ble_eq_true rfl) (jX3_held (X := X) d s (2 : Int32) (p2 + (1 : Int32)) x4 hy7) ?_
        refine J_if_ne (pc := 101) 107 dX3_through_101 (by decide) (fun c11 => ?_) (fun c11 => ?_)
        · replace hh := (if_neg c11).symm.trans hh
          refine J_aload_n (pc := 107) dX3_through_107 rfl ?_
          refine J_iload_n (pc := 108) dX3_through_108 rfl ?_
          refine J_iload_n (pc := 109) dX3_through_109 rfl ?_
          refine J_aload_n (pc := 110) dX3_through_110 rfl ?_
          refine J_getR (pc := 111) (k := 0) flX3_11 so5 fk5_0 dX3_through_111 ?_
          refine J_iload_n (pc := 114) dX3_through_114 rfl ?_
          refine J_iconst (pc := 115) dX3_through_115 ci_1 ?_
          refine J_iadd (pc := 116) dX3_through_116 ?_
          refine J_iload_n (pc := 117) dX3_through_117 rfl ?_
          refine J_iconst (pc := 118) dX3_through_118 ci_1 ?_
          refine J_iadd (pc := 119) dX3_through_119 ?_
          refine J_iload (pc := 120) dX3_through_120 rfl ?_
          refine J_iload (pc := 122) dX3_through_122 rfl ?_
          refine J_iload (pc := 124) dX3_through_124 rfl ?_
          obtain ⟨y8, hy8, hh⟩ := bd_some hh
          refine J_callSi (pc := 126) (M' := MX3_place) (rest := [.ref 6, .int p1, .int p0, .ref 5]) (As := [.int (p0 + (1 : Int32)), .int (p2 + (1 : Int32)), .int x2, .int x3, .int x4]) (L0 := [some (.int (p0 + (1 : Int32))), some (.int (p2 + (1 : Int32))), some (.int x2), some (.int x3), some (.int x4)]) okX3_place osX3_place mlX3_100 rfl rfl (Nat.le_of_ble_eq_true rfl) dX3_through_126 rfl (Nat.le_of_ble_eq_true rfl) (jX3_place (X := X) d s (p0 + (1 : Int32)) (p2 + (1 : Int32)) x2 x3 x4 hy8) ?_
          obtain ⟨h9, hh⟩ := gd_some hh
          refine J_iald (pc := 129) dX3_through_129 sa6 h9 ?_
          obtain ⟨y10, hy10, hh⟩ := bd_some hh
          refine J_callVi (pc := 130) (M' := MX3_joined) (a := 5) (rest := []) (As := [.int p0, .int p1, .int (s.1 6 y8.toNatClampNeg)]) (L0 := [some (.ref 5), some (.int p0), some (.int p1), some (.int (s.1 6 y8.toNatClampNeg)), none]) okX3_joined ovX3_joined mlX3_124 clX3 so5 rfl rfl (Nat.le_of_ble_eq_true rfl) dX3_through_130 rfl (Nat.le_of_ble_eq_true rfl) (jX3_joined (X := X) d s p0 p1 (s.1 6 y8.toNatClampNeg) hy10) ?_
          obtain rfl := Option.some.inj hh
          obtain ⟨rfl, rfl⟩ := hk
          exact J_ret (w := some (.int y10)) ⟨dX3_through_133, _, rfl, rfl⟩
        · replace hh := (if_pos c11).symm.trans hh
          refine J_ldc (pc := 104) kcX3_86 dX3_through_104 ?_
          obtain rfl := Option.some.inj hh
          obtain ⟨rfl, rfl⟩ := hk
          exact J_ret (w := some (.int (-1000000000 : Int32))) ⟨dX3_through_106, _, rfl, rfl⟩
  · replace hh := (if_pos c17).symm.trans hh
    refine J_aload_n (pc := 4) dX3_through_4 rfl ?_
    refine J_iload_n (pc := 5) dX3_through_5 rfl ?_
    refine J_iload_n (pc := 6) dX3_through_6 rfl ?_
    refine J_aload_n (pc := 7) dX3_through_7 rfl ?_
    refine J_getR (pc := 8) (k := 0) flX3_11 so5 fk5_0 dX3_through_8 ?_
    refine J_iload_n (pc := 11) dX3_through_11 rfl ?_
    refine J_iconst (pc := 12) dX3_through_12 ci_1 ?_
    refine J_iadd (pc := 13) dX3_through_13 ?_
    refine J_iload_n (pc := 14) dX3_through_14 rfl ?_
    refine J_iload (pc := 15) dX3_through_15 rfl ?_
    refine J_iload (pc := 17) dX3_through_17 rfl ?_
    refine J_iload (pc := 19) dX3_through_19 rfl ?_
    obtain ⟨y14, hy14, hh⟩ := bd_some hh
    refine J_callSi (pc := 21) (M' := MX3_place) (rest := [.ref 6, .int p1, .int p0, .ref 5]) (As := [.int (p0 + (1 : Int32)), .int p2, .int p3, .int p4, .int p5]) (L0 := [some (.int (p0 + (1 : Int32))), some (.int p2), some (.int p3), some (.int p4), some (.int p5)]) okX3_place osX3_place mlX3_100 rfl rfl (Nat.le_of_ble_eq_true rfl) dX3_through_21 rfl (Nat.le_of_ble_eq_true rfl) (jX3_place (X := X) d s (p0 + (1 : Int32)) p2 p3 p4 p5 hy14) ?_
    obtain ⟨h15, hh⟩ := gd_some hh
    refine J_iald (pc := 24) dX3_through_24 sa6 h15 ?_
    obtain ⟨y16, hy16, hh⟩ := bd_some hh
    refine J_callVi (pc := 25) (M' := MX3_joined) (a := 5) (rest := []) (As := [.int p0, .int p1, .int (s.1 6 y14.toNatClampNeg)]) (L0 := [some (.ref 5), some (.int p0), some (.int p1), some (.int (s.1 6 y14.toNatClampNeg)), none]) okX3_joined ovX3_joined mlX3_124 clX3 so5 rfl rfl (Nat.le_of_ble_eq_true rfl) dX3_through_25 rfl (Nat.le_of_ble_eq_true rfl) (jX3_joined (X := X) d s p0 p1 (s.1 6 y14.toNatClampNeg) hy16) ?_
    obtain rfl := Option.some.inj hh
    obtain ⟨rfl, rfl⟩ := hk
    exact J_ret (w := some (.int y16)) ⟨dX3_through_28, _, rfl, rfl⟩
theorem jX3_through {X : Scr} (d : Nat) (s : Mem) (p0 : Int32) (p1 : Int32) (p2 : Int32) (p3 : Int32) (p4 : Int32) (p5 : Int32) {r : Int32} (hh : fX3_through s p0 p1 p2 p3 p4 p5 = some r) : J X MX3_through (d + 1) 0 [some (.ref 5), some (.int p0), some (.int p1), some (.int p2), some (.int p3), some (.int p4), some (.int p5), none, none, none, none] [] s (some (.int r)) s := jjX3_through d s p0 p1 p2 p3 p4 p5 hh ⟨rfl, rfl⟩
theorem dX3_atBest_0 : decode cX3_atBest 0 = .ok (.iconst 0, 1) := by decide +kernel
theorem dX3_atBest_1 : decode cX3_atBest 1 = .ok (.istore 6, 2) := by decide +kernel
theorem dX3_atBest_3 : decode cX3_atBest 3 = .ok (.ldc 86, 2) := by decide +kernel
theorem dX3_atBest_5 : decode cX3_atBest 5 = .ok (.istore 7, 2) := by decide +kernel
theorem dX3_atBest_7 : decode cX3_atBest 7 = .ok (.iconst 0, 1) := by decide +kernel
theorem dX3_atBest_8 : decode cX3_atBest 8 = .ok (.istore 8, 2) := by decide +kernel
theorem dX3_atBest_10 : decode cX3_atBest 10 = .ok (.iload 8, 2) := by decide +kernel
theorem dX3_atBest_12 : decode cX3_atBest 12 = .ok (.bipush 9, 2) := by decide +kernel
theorem dX3_atBest_14 : decode cX3_atBest 14 = .ok (.if_icmp .ge 61, 3) := by decide +kernel
theorem dX3_atBest_17 : decode cX3_atBest 17 = .ok (.aload_n 0, 1) := by decide +kernel
theorem dX3_atBest_18 : decode cX3_atBest 18 = .ok (.getfield 15, 3) := by decide +kernel
theorem dX3_atBest_21 : decode cX3_atBest 21 = .ok (.iload_n 1, 1) := by decide +kernel
theorem dX3_atBest_22 : decode cX3_atBest 22 = .ok (.iaload, 1) := by decide +kernel
theorem dX3_atBest_23 : decode cX3_atBest 23 = .ok (.iload 8, 2) := by decide +kernel
theorem dX3_atBest_25 : decode cX3_atBest 25 = .ok (.ishr, 1) := by decide +kernel
theorem dX3_atBest_26 : decode cX3_atBest 26 = .ok (.iconst 1, 1) := by decide +kernel
theorem dX3_atBest_27 : decode cX3_atBest 27 = .ok (.iand, 1) := by decide +kernel
theorem dX3_atBest_28 : decode cX3_atBest 28 = .ok (.ifCond .eq 41, 3) := by decide +kernel
theorem dX3_atBest_31 : decode cX3_atBest 31 = .ok (.aload_n 0, 1) := by decide +kernel
theorem dX3_atBest_32 : decode cX3_atBest 32 = .ok (.iload_n 1, 1) := by decide +kernel
theorem dX3_atBest_33 : decode cX3_atBest 33 = .ok (.iload 8, 2) := by decide +kernel
theorem dX3_atBest_35 : decode cX3_atBest 35 = .ok (.iload_n 2, 1) := by decide +kernel
theorem dX3_atBest_36 : decode cX3_atBest 36 = .ok (.iload_n 3, 1) := by decide +kernel
theorem dX3_atBest_37 : decode cX3_atBest 37 = .ok (.iload 4, 2) := by decide +kernel
theorem dX3_atBest_39 : decode cX3_atBest 39 = .ok (.iload 5, 2) := by decide +kernel
theorem dX3_atBest_41 : decode cX3_atBest 41 = .ok (.invokevirtual 117, 3) := by decide +kernel
theorem dX3_atBest_44 : decode cX3_atBest 44 = .ok (.istore 9, 2) := by decide +kernel
theorem dX3_atBest_46 : decode cX3_atBest 46 = .ok (.iload 9, 2) := by decide +kernel
theorem dX3_atBest_48 : decode cX3_atBest 48 = .ok (.ldc 86, 2) := by decide +kernel
theorem dX3_atBest_50 : decode cX3_atBest 50 = .ok (.if_icmp .eq 19, 3) := by decide +kernel
theorem dX3_atBest_53 : decode cX3_atBest 53 = .ok (.iload 6, 2) := by decide +kernel
theorem dX3_atBest_55 : decode cX3_atBest 55 = .ok (.iload 9, 2) := by decide +kernel
theorem dX3_atBest_57 : decode cX3_atBest 57 = .ok (.iadd, 1) := by decide +kernel
theorem dX3_atBest_58 : decode cX3_atBest 58 = .ok (.istore 6, 2) := by decide +kernel
theorem dX3_atBest_60 : decode cX3_atBest 60 = .ok (.iload 7, 2) := by decide +kernel
theorem dX3_atBest_62 : decode cX3_atBest 62 = .ok (.iload 9, 2) := by decide +kernel
theorem dX3_atBest_64 : decode cX3_atBest 64 = .ok (.invokestatic 121, 3) := by decide +kernel
theorem dX3_atBest_67 : decode cX3_atBest 67 = .ok (.istore 7, 2) := by decide +kernel
theorem dX3_atBest_69 : decode cX3_atBest 69 = .ok (.iinc 8 1, 3) := by decide +kernel
theorem dX3_atBest_72 : decode cX3_atBest 72 = .ok (.goto (-62), 3) := by decide +kernel
theorem dX3_atBest_75 : decode cX3_atBest 75 = .ok (.aload_n 0, 1) := by decide +kernel
theorem dX3_atBest_76 : decode cX3_atBest 76 = .ok (.getfield 69, 3) := by decide +kernel
theorem dX3_atBest_79 : decode cX3_atBest 79 = .ok (.ifCond .eq 8, 3) := by decide +kernel
theorem dX3_atBest_82 : decode cX3_atBest 82 = .ok (.iload 6, 2) := by decide +kernel
theorem dX3_atBest_84 : decode cX3_atBest 84 = .ok (.goto 5, 3) := by decide +kernel
theorem dX3_atBest_87 : decode cX3_atBest 87 = .ok (.iload 7, 2) := by decide +kernel
theorem dX3_atBest_89 : decode cX3_atBest 89 = .ok (.ireturn, 1) := by decide +kernel
def bX3_atBest_10 (s : Mem) (v1 : Int32) (v2 : Int32) (v3 : Int32) (v4 : Int32) (v5 : Int32) (v6 : Int32) (v7 : Int32) (v8 : Int32) : Option ((Int32 × Int32) ⊕ (Int32 × Int32 × Int32)) :=
  if (9 : Int32) ≤ v8 then some (Sum.inl (v6, v7)) else gd v1 6 (if (((s.1 7 v1.toNatClampNeg) >>> (v8 &&& 31)) &&& (1 : Int32)) = (0 : Int32) then lt (v8 + (1 : Int32)) (fun x2 => some (Sum.inr (v6, v7, x2))) else (fX3_through s v1 v8 v2 v3 v4 v5).bind (fun y3 => if y3 = (-1000000000 : Int32) then lt (v8 + (1 : Int32)) (fun x4 => some (Sum.inr (v6, v7, x4))) else lt (v6 + y3) (fun x5 => lt (mxI v7 y3) (fun x6 => lt (v8 + (1 : Int32)) (fun x7 => some (Sum.inr (x5, x6, x7)))))))
set_option maxRecDepth 4000 in
theorem jbX3_atBest_10 {X : Scr} (d : Nat) (s : Mem) (v1 : Int32) (v2 : Int32) (v3 : Int32) (v4 : Int32) (v5 : Int32) (v6 : Int32) (v7 : Int32) (v8 : Int32) {r : ((Int32 × Int32) ⊕ (Int32 × Int32 × Int32))} {w : Option Value} {s' : Mem} (hh : bX3_atBest_10 s v1 v2 v3 v4 v5 v6 v7 v8 = some r) (hk : Sum.elim (fun t : (Int32 × Int32) => J X MX3_atBest (d + 2) 75 [some (.ref 5), none, none, none, none, none, some (.int t.1), some (.int t.2), none, none] [] s w s') (fun a : (Int32 × Int32 × Int32) => J X MX3_atBest (d + 2) 10 [some (.ref 5), some (.int v1), some (.int v2), some (.int v3), some (.int v4), some (.int v5), some (.int a.1), some (.int a.2.1), some (.int a.2.2), none] [] s w s') r) : J X MX3_atBest (d + 2) 10 [some (.ref 5), some (.int v1), some (.int v2), some (.int v3), some (.int v4), some (.int v5), some (.int v6), some (.int v7), some (.int v8), none] [] s w s' := by
  unfold bX3_atBest_10 at hh
  refine J_iload (pc := 10) dX3_atBest_10 rfl ?_
  refine J_bipush (pc := 12) dX3_atBest_12 cb_9 ?_
  refine J_icmp_ge (pc := 14) 75 dX3_atBest_14 (by decide) (fun c10 => ?_) (fun c10 => ?_)
  · replace hh := (if_pos c10).symm.trans hh
    refine J_drop 1 (L' := [some (.ref 5), none, some (.int v2), some (.int v3), some (.int v4), some (.int v5), some (.int v6), some (.int v7), some (.int v8), none]) rfl ?_
    refine J_drop 2 (L' := [some (.ref 5), none, none, some (.int v3), some (.int v4), some (.int v5), some (.int v6), some (.int v7), some (.int v8), none]) rfl ?_
    refine J_drop 3 (L' := [some (.ref 5), none, none, none, some (.int v4), some (.int v5), some (.int v6), some (.int v7), some (.int v8), none]) rfl ?_
    refine J_drop 4 (L' := [some (.ref 5), none, none, none, none, some (.int v5), some (.int v6), some (.int v7), some (.int v8), none]) rfl ?_
    refine J_drop 5 (L' := [some (.ref 5), none, none, none, none, none, some (.int v6), some (.int v7), some (.int v8), none]) rfl ?_
    refine J_drop 8 (L' := [some (.ref 5), none, none, none, none, none, some (.int v6), some (.int v7), none, none]) rfl ?_
    obtain rfl := Option.some.inj hh
    exact hk
  · replace hh := (if_neg c10).symm.trans hh
    refine J_aload_n (pc := 17) dX3_atBest_17 rfl ?_
    refine J_getR (pc := 18) (k := 1) flX3_15 so5 fk5_1 dX3_atBest_18 ?_
    refine J_iload_n (pc := 21) dX3_atBest_21 rfl ?_
    obtain ⟨h1, hh⟩ := gd_some hh
    refine J_iald (pc := 22) dX3_atBest_22 sa7 h1 ?_
    refine J_iload (pc := 23) dX3_atBest_23 rfl ?_
    refine J_ishr (pc := 25) dX3_atBest_25 ?_
    refine J_iconst (pc := 26) dX3_atBest_26 ci_1 ?_
    refine J_iand (pc := 27) dX3_atBest_27 ?_
    refine J_if_eq (pc := 28) 69 dX3_atBest_28 (by decide) (fun c9 => ?_) (fun c9 => ?_)
    · replace hh := (if_pos c9).symm.trans hh
      refine J_iincL (pc := 69) (v := v8 + (1 : Int32)) (fun x2 => [some (.ref 5), some (.int v1), some (.int v2), some (.int v3), some (.int v4), some (.int v5), some (.int v6), some (.int v7), some (.int x2), none]) dX3_atBest_69 rfl rfl (Nat.le_of_ble_eq_true rfl) (congrArg _ ci_1) (fun _ => rfl) hh (fun x2 hh => ?_)
      refine J_goto (pc := 72) 10 dX3_atBest_72 (by decide) ?_
      obtain rfl := Option.some.inj hh
      exact hk
    · replace hh := (if_neg c9).symm.trans hh
      refine J_aload_n (pc := 31) dX3_atBest_31 rfl ?_
      refine J_iload_n (pc := 32) dX3_atBest_32 rfl ?_
      refine J_iload (pc := 33) dX3_atBest_33 rfl ?_
      refine J_iload_n (pc := 35) dX3_atBest_35 rfl ?_
      refine J_iload_n (pc := 36) dX3_atBest_36 rfl ?_
      refine J_iload (pc := 37) dX3_atBest_37 rfl ?_
      refine J_iload (pc := 39) dX3_atBest_39 rfl ?_
      obtain ⟨y3, hy3, hh⟩ := bd_some hh
      refine J_callVi (pc := 41) (M' := MX3_through) (a := 5) (rest := []) (As := [.int v1, .int v8, .int v2, .int v3, .int v4, .int v5]) (L0 := [some (.ref 5), some (.int v1), some (.int v8), some (.int v2), some (.int v3), some (.int v4), some (.int v5), none, none, none, none]) okX3_through ovX3_through mlX3_117 clX3 so5 rfl rfl (Nat.le_of_ble_eq_true rfl) dX3_atBest_41 rfl (Nat.le_of_ble_eq_true rfl) (jX3_through (X := X) d s v1 v8 v2 v3 v4 v5 hy3) ?_
      refine J_istore (pc := 44) (L' := [some (.ref 5), some (.int v1), some (.int v2), some (.int v3), some (.int v4), some (.int v5), some (.int v6), some (.int v7), some (.int v8), some (.int y3)]) dX3_atBest_44 rfl (Nat.le_of_ble_eq_true rfl) rfl ?_
      refine J_iload (pc := 46) dX3_atBest_46 rfl ?_
      refine J_ldc (pc := 48) kcX3_86 dX3_atBest_48 ?_
      refine J_icmp_eq (pc := 50) 69 dX3_atBest_50 (by decide) (fun c8 => ?_) (fun c8 => ?_)
      · replace hh := (if_pos c8).symm.trans hh
        refine J_iincL (pc := 69) (v := v8 + (1 : Int32)) (fun x4 => [some (.ref 5), some (.int v1), some (.int v2), some (.int v3), some (.int v4), some (.int v5), some (.int v6), some (.int v7), some (.int x4), some (.int y3)]) dX3_atBest_69 rfl rfl (Nat.le_of_ble_eq_true rfl) (congrArg _ ci_1) (fun _ => rfl) hh (fun x4 hh => ?_)
        refine J_goto (pc := 72) 10 dX3_atBest_72 (by decide) ?_
        refine J_drop 9 (L' := [some (.ref 5), some (.int v1), some (.int v2), some (.int v3), some (.int v4), some (.int v5), some (.int v6), some (.int v7), some (.int x4), none]) rfl ?_
        obtain rfl := Option.some.inj hh
        exact hk
      · replace hh := (if_neg c8).symm.trans hh
        refine J_iload (pc := 53) dX3_atBest_53 rfl ?_
        refine J_iload (pc := 55) dX3_atBest_55 rfl ?_
        refine J_iadd (pc := 57) dX3_atBest_57 ?_
        refine J_istoreL (pc := 58) (fun x5 => [some (.ref 5), some (.int v1), some (.int v2), some (.int v3), some (.int v4), some (.int v5), some (.int x5), some (.int v7), some (.int v8), some (.int y3)]) dX3_atBest_58 rfl (Nat.le_of_ble_eq_true rfl) (fun _ => rfl) hh (fun x5 hh => ?_)
        refine J_iload (pc := 60) dX3_atBest_60 rfl ?_
        refine J_iload (pc := 62) dX3_atBest_62 rfl ?_
        refine J_mmax (pc := 64) mtX3_121 (Nat.le_of_ble_eq_true rfl) dX3_atBest_64 ?_
        refine J_istoreL (pc := 67) (fun x6 => [some (.ref 5), some (.int v1), some (.int v2), some (.int v3), some (.int v4), some (.int v5), some (.int x5), some (.int x6), some (.int v8), some (.int y3)]) dX3_atBest_67 rfl (Nat.le_of_ble_eq_true rfl) (fun _ => rfl) hh (fun x6 hh => ?_)
        refine J_iincL (pc := 69) (v := v8 + (1 : Int32)) (fun x7 => [some (.ref 5), some (.int v1), some (.int v2), some (.int v3), some (.int v4), some (.int v5), some (.int x5), some (.int x6), some (.int x7), some (.int y3)]) dX3_atBest_69 rfl rfl (Nat.le_of_ble_eq_true rfl) (congrArg _ ci_1) (fun _ => rfl) hh (fun x7 hh => ?_)
        refine J_goto (pc := 72) 10 dX3_atBest_72 (by decide) ?_
        refine J_drop 9 (L' := [some (.ref 5), some (.int v1), some (.int v2), some (.int v3), some (.int v4), some (.int v5), some (.int x5), some (.int x6), some (.int x7), none]) rfl ?_
        obtain rfl := Option.some.inj hh
        exact hk
def fX3_atBest (s : Mem) (p0 : Int32) (p1 : Int32) (p2 : Int32) (p3 : Int32) (p4 : Int32) : Option Int32 :=
  (lp (fun a => bX3_atBest_10 s p0 p1 p2 p3 p4 a.1 a.2.1 a.2.2) 600 ((0 : Int32), (-1000000000 : Int32), (0 : Int32))).bind (fun y11 => if (s.1 5 8) = (0 : Int32) then some y11.2 else some y11.1)
set_option maxRecDepth 4000 in
theorem jjX3_atBest {X : Scr} (d : Nat) (s : Mem) (p0 : Int32) (p1 : Int32) (p2 : Int32) (p3 : Int32) (p4 : Int32) {r : Int32} {w : Option Value} {s' : Mem} (hh : fX3_atBest s p0 p1 p2 p3 p4 = some r) (hk : w = some (.int r) ∧ s = s') : J X MX3_atBest (d + 2) 0 [some (.ref 5), some (.int p0), some (.int p1), some (.int p2), some (.int p3), some (.int p4), none, none, none, none] [] s w s' := by
  unfold fX3_atBest at hh
  refine J_iconst (pc := 0) dX3_atBest_0 ci_0 ?_
  refine J_istore (pc := 1) (L' := [some (.ref 5), some (.int p0), some (.int p1), some (.int p2), some (.int p3), some (.int p4), some (.int (0 : Int32)), none, none, none]) dX3_atBest_1 rfl (Nat.le_of_ble_eq_true rfl) rfl ?_
  refine J_ldc (pc := 3) kcX3_86 dX3_atBest_3 ?_
  refine J_istore (pc := 5) (L' := [some (.ref 5), some (.int p0), some (.int p1), some (.int p2), some (.int p3), some (.int p4), some (.int (0 : Int32)), some (.int (-1000000000 : Int32)), none, none]) dX3_atBest_5 rfl (Nat.le_of_ble_eq_true rfl) rfl ?_
  refine J_iconst (pc := 7) dX3_atBest_7 ci_0 ?_
  refine J_istore (pc := 8) (L' := [some (.ref 5), some (.int p0), some (.int p1), some (.int p2), some (.int p3), some (.int p4), some (.int (0 : Int32)), some (.int (-1000000000 : Int32)), some (.int (0 : Int32)), none]) dX3_atBest_8 rfl (Nat.le_of_ble_eq_true rfl) rfl ?_
  obtain ⟨y11, hy11, hh⟩ := bd_some hh
  refine J_lp (a := ((0 : Int32), (-1000000000 : Int32), (0 : Int32))) (fun a : (Int32 × Int32 × Int32) => J X MX3_atBest (d + 2) 10 [some (.ref 5), some (.int p0), some (.int p1), some (.int p2), some (.int p3), some (.int p4), some (.int a.1), some (.int a.2.1), some (.int a.2.2), none] [] s w s') (fun t : (Int32 × Int32) => J X MX3_atBest (d + 2) 75 [some (.ref 5), none, none, none, none, none, some (.int t.1), some (.int t.2), none, none] [] s w s') (fun a q h1 h2 => jbX3_atBest_10 d s p0 p1 p2 p3 p4 a.1 a.2.1 a.2.2 h1 h2) hy11 ?_
  refine J_aload_n (pc := 75) dX3_atBest_75 rfl ?_
  refine J_getI (pc := 76) (k := 8) flX3_69 so5 fk5_8 dX3_atBest_76 ?_
  refine J_if_eq (pc := 79) 87 dX3_atBest_79 (by decide) (fun c12 => ?_) (fun c12 => ?_)
  · replace hh := (if_pos c12).symm.trans hh
    refine J_iload (pc := 87) dX3_atBest_87 rfl ?_
    obtain rfl := Option.some.inj hh
    obtain ⟨rfl, rfl⟩ := hk
    exact J_ret (w := some (.int y11.2)) ⟨dX3_atBest_89, _, rfl, rfl⟩
  · replace hh := (if_neg c12).symm.trans hh
    refine J_iload (pc := 82) dX3_atBest_82 rfl ?_
    refine J_goto (pc := 84) 89 dX3_atBest_84 (by decide) ?_
    obtain rfl := Option.some.inj hh
    obtain ⟨rfl, rfl⟩ := hk
    exact J_ret (w := some (.int y11.1)) ⟨dX3_atBest_89, _, rfl, rfl⟩
theorem jX3_atBest {X : Scr} (d : Nat) (s : Mem) (p0 : Int32) (p1 : Int32) (p2 : Int32) (p3 : Int32) (p4 : Int32) {r : Int32} (hh : fX3_atBest s p0 p1 p2 p3 p4 = some r) : J X MX3_atBest (d + 2) 0 [some (.ref 5), some (.int p0), some (.int p1), some (.int p2), some (.int p3), some (.int p4), none, none, none, none] [] s (some (.int r)) s := jjX3_atBest d s p0 p1 p2 p3 p4 hh ⟨rfl, rfl⟩
theorem dX3_fillLayer_0 : decode cX3_fillLayer 0 = .ok (.iconst 0, 1) := by decide +kernel
theorem dX3_fillLayer_1 : decode cX3_fillLayer 1 = .ok (.istore_n 2, 1) := by decide +kernel
theorem dX3_fillLayer_2 : decode cX3_fillLayer 2 = .ok (.iload_n 2, 1) := by decide +kernel
theorem dX3_fillLayer_3 : decode cX3_fillLayer 3 = .ok (.iload_n 1, 1) := by decide +kernel
theorem dX3_fillLayer_4 : decode cX3_fillLayer 4 = .ok (.if_icmp .gt 153, 3) := by decide +kernel
theorem dX3_fillLayer_7 : decode cX3_fillLayer 7 = .ok (.aload_n 0, 1) := by decide +kernel
theorem dX3_fillLayer_8 : decode cX3_fillLayer 8 = .ok (.getfield 46, 3) := by decide +kernel
theorem dX3_fillLayer_11 : decode cX3_fillLayer 11 = .ok (.iconst 4, 1) := by decide +kernel
theorem dX3_fillLayer_12 : decode cX3_fillLayer 12 = .ok (.iand, 1) := by decide +kernel
theorem dX3_fillLayer_13 : decode cX3_fillLayer 13 = .ok (.ifCond .eq 7, 3) := by decide +kernel
theorem dX3_fillLayer_16 : decode cX3_fillLayer 16 = .ok (.iload_n 2, 1) := by decide +kernel
theorem dX3_fillLayer_17 : decode cX3_fillLayer 17 = .ok (.goto 4, 3) := by decide +kernel
theorem dX3_fillLayer_20 : decode cX3_fillLayer 20 = .ok (.iconst 0, 1) := by decide +kernel
theorem dX3_fillLayer_21 : decode cX3_fillLayer 21 = .ok (.istore_n 3, 1) := by decide +kernel
theorem dX3_fillLayer_22 : decode cX3_fillLayer 22 = .ok (.aload_n 0, 1) := by decide +kernel
theorem dX3_fillLayer_23 : decode cX3_fillLayer 23 = .ok (.getfield 46, 3) := by decide +kernel
theorem dX3_fillLayer_26 : decode cX3_fillLayer 26 = .ok (.iconst 2, 1) := by decide +kernel
theorem dX3_fillLayer_27 : decode cX3_fillLayer 27 = .ok (.iand, 1) := by decide +kernel
theorem dX3_fillLayer_28 : decode cX3_fillLayer 28 = .ok (.ifCond .eq 7, 3) := by decide +kernel
theorem dX3_fillLayer_31 : decode cX3_fillLayer 31 = .ok (.iload_n 2, 1) := by decide +kernel
theorem dX3_fillLayer_32 : decode cX3_fillLayer 32 = .ok (.goto 4, 3) := by decide +kernel
theorem dX3_fillLayer_35 : decode cX3_fillLayer 35 = .ok (.iconst 0, 1) := by decide +kernel
theorem dX3_fillLayer_36 : decode cX3_fillLayer 36 = .ok (.istore 4, 2) := by decide +kernel
theorem dX3_fillLayer_38 : decode cX3_fillLayer 38 = .ok (.aload_n 0, 1) := by decide +kernel
theorem dX3_fillLayer_39 : decode cX3_fillLayer 39 = .ok (.getfield 46, 3) := by decide +kernel
theorem dX3_fillLayer_42 : decode cX3_fillLayer 42 = .ok (.iconst 1, 1) := by decide +kernel
theorem dX3_fillLayer_43 : decode cX3_fillLayer 43 = .ok (.iand, 1) := by decide +kernel
theorem dX3_fillLayer_44 : decode cX3_fillLayer 44 = .ok (.ifCond .eq 7, 3) := by decide +kernel
theorem dX3_fillLayer_47 : decode cX3_fillLayer 47 = .ok (.iload_n 2, 1) := by decide +kernel
theorem dX3_fillLayer_48 : decode cX3_fillLayer 48 = .ok (.goto 4, 3) := by decide +kernel
theorem dX3_fillLayer_51 : decode cX3_fillLayer 51 = .ok (.iconst 0, 1) := by decide +kernel
theorem dX3_fillLayer_52 : decode cX3_fillLayer 52 = .ok (.istore 5, 2) := by decide +kernel
theorem dX3_fillLayer_54 : decode cX3_fillLayer 54 = .ok (.iconst 0, 1) := by decide +kernel
theorem dX3_fillLayer_55 : decode cX3_fillLayer 55 = .ok (.istore 6, 2) := by decide +kernel
theorem dX3_fillLayer_57 : decode cX3_fillLayer 57 = .ok (.iload 6, 2) := by decide +kernel
theorem dX3_fillLayer_59 : decode cX3_fillLayer 59 = .ok (.iload_n 3, 1) := by decide +kernel
theorem dX3_fillLayer_60 : decode cX3_fillLayer 60 = .ok (.if_icmp .gt 91, 3) := by decide +kernel
theorem dX3_fillLayer_63 : decode cX3_fillLayer 63 = .ok (.iconst 0, 1) := by decide +kernel
theorem dX3_fillLayer_64 : decode cX3_fillLayer 64 = .ok (.istore 7, 2) := by decide +kernel
theorem dX3_fillLayer_66 : decode cX3_fillLayer 66 = .ok (.iload 7, 2) := by decide +kernel
theorem dX3_fillLayer_68 : decode cX3_fillLayer 68 = .ok (.iload 4, 2) := by decide +kernel
theorem dX3_fillLayer_70 : decode cX3_fillLayer 70 = .ok (.if_icmp .gt 75, 3) := by decide +kernel
theorem dX3_fillLayer_73 : decode cX3_fillLayer 73 = .ok (.iconst 0, 1) := by decide +kernel
theorem dX3_fillLayer_74 : decode cX3_fillLayer 74 = .ok (.istore 8, 2) := by decide +kernel
theorem dX3_fillLayer_76 : decode cX3_fillLayer 76 = .ok (.iload 8, 2) := by decide +kernel
theorem dX3_fillLayer_78 : decode cX3_fillLayer 78 = .ok (.iload 5, 2) := by decide +kernel
theorem dX3_fillLayer_80 : decode cX3_fillLayer 80 = .ok (.if_icmp .gt 59, 3) := by decide +kernel
theorem dX3_fillLayer_83 : decode cX3_fillLayer 83 = .ok (.aload_n 0, 1) := by decide +kernel
theorem dX3_fillLayer_84 : decode cX3_fillLayer 84 = .ok (.getfield 11, 3) := by decide +kernel
theorem dX3_fillLayer_87 : decode cX3_fillLayer 87 = .ok (.iload_n 1, 1) := by decide +kernel
theorem dX3_fillLayer_88 : decode cX3_fillLayer 88 = .ok (.iload_n 2, 1) := by decide +kernel
theorem dX3_fillLayer_89 : decode cX3_fillLayer 89 = .ok (.iload 6, 2) := by decide +kernel
theorem dX3_fillLayer_91 : decode cX3_fillLayer 91 = .ok (.iload 7, 2) := by decide +kernel
theorem dX3_fillLayer_93 : decode cX3_fillLayer 93 = .ok (.iload 8, 2) := by decide +kernel
theorem dX3_fillLayer_95 : decode cX3_fillLayer 95 = .ok (.invokestatic 100, 3) := by decide +kernel
theorem dX3_fillLayer_98 : decode cX3_fillLayer 98 = .ok (.iload_n 1, 1) := by decide +kernel
theorem dX3_fillLayer_99 : decode cX3_fillLayer 99 = .ok (.aload_n 0, 1) := by decide +kernel
theorem dX3_fillLayer_100 : decode cX3_fillLayer 100 = .ok (.getfield 43, 3) := by decide +kernel
theorem dX3_fillLayer_103 : decode cX3_fillLayer 103 = .ok (.if_icmp .ne 17, 3) := by decide +kernel
theorem dX3_fillLayer_106 : decode cX3_fillLayer 106 = .ok (.aload_n 0, 1) := by decide +kernel
theorem dX3_fillLayer_107 : decode cX3_fillLayer 107 = .ok (.iload_n 2, 1) := by decide +kernel
theorem dX3_fillLayer_108 : decode cX3_fillLayer 108 = .ok (.iload 6, 2) := by decide +kernel
theorem dX3_fillLayer_110 : decode cX3_fillLayer 110 = .ok (.iload 7, 2) := by decide +kernel
theorem dX3_fillLayer_112 : decode cX3_fillLayer 112 = .ok (.iload 8, 2) := by decide +kernel
theorem dX3_fillLayer_114 : decode cX3_fillLayer 114 = .ok (.invokevirtual 104, 3) := by decide +kernel
theorem dX3_fillLayer_117 : decode cX3_fillLayer 117 = .ok (.goto 15, 3) := by decide +kernel
theorem dX3_fillLayer_120 : decode cX3_fillLayer 120 = .ok (.aload_n 0, 1) := by decide +kernel
theorem dX3_fillLayer_121 : decode cX3_fillLayer 121 = .ok (.iload_n 1, 1) := by decide +kernel
theorem dX3_fillLayer_122 : decode cX3_fillLayer 122 = .ok (.iload_n 2, 1) := by decide +kernel
theorem dX3_fillLayer_123 : decode cX3_fillLayer 123 = .ok (.iload 6, 2) := by decide +kernel
theorem dX3_fillLayer_125 : decode cX3_fillLayer 125 = .ok (.iload 7, 2) := by decide +kernel
theorem dX3_fillLayer_127 : decode cX3_fillLayer 127 = .ok (.iload 8, 2) := by decide +kernel
theorem dX3_fillLayer_129 : decode cX3_fillLayer 129 = .ok (.invokevirtual 107, 3) := by decide +kernel
theorem dX3_fillLayer_132 : decode cX3_fillLayer 132 = .ok (.iastore, 1) := by decide +kernel
theorem dX3_fillLayer_133 : decode cX3_fillLayer 133 = .ok (.iinc 8 1, 3) := by decide +kernel
theorem dX3_fillLayer_136 : decode cX3_fillLayer 136 = .ok (.goto (-60), 3) := by decide +kernel
theorem dX3_fillLayer_139 : decode cX3_fillLayer 139 = .ok (.iinc 7 1, 3) := by decide +kernel
theorem dX3_fillLayer_142 : decode cX3_fillLayer 142 = .ok (.goto (-76), 3) := by decide +kernel
theorem dX3_fillLayer_145 : decode cX3_fillLayer 145 = .ok (.iinc 6 1, 3) := by decide +kernel
theorem dX3_fillLayer_148 : decode cX3_fillLayer 148 = .ok (.goto (-91), 3) := by decide +kernel
theorem dX3_fillLayer_151 : decode cX3_fillLayer 151 = .ok (.iinc 2 1, 3) := by decide +kernel
theorem dX3_fillLayer_154 : decode cX3_fillLayer 154 = .ok (.goto (-152), 3) := by decide +kernel
theorem dX3_fillLayer_157 : decode cX3_fillLayer 157 = .ok (.return_, 1) := by decide +kernel
def gX3_fillLayer_132 (s : Mem) (v1 : Int32) (v2 : Int32) (v3 : Int32) (v4 : Int32) (v5 : Int32) (v6 : Int32) (v7 : Int32) (v8 : Int32) (k0 : Int32) (k1 : Int32) : Option (Mem ⊕ (Int32 × Mem)) :=
  gd k1 1596 (lt (up2 s 6 k1.toNatClampNeg k0) (fun s4 => lt (v8 + (1 : Int32)) (fun x5 => some (Sum.inr (x5, s4)))))
set_option maxRecDepth 4000 in
theorem jgX3_fillLayer_132 {X : Scr} (d : Nat) (s : Mem) (v1 : Int32) (v2 : Int32) (v3 : Int32) (v4 : Int32) (v5 : Int32) (v6 : Int32) (v7 : Int32) (v8 : Int32) (k0 : Int32) (k1 : Int32) {r : (Mem ⊕ (Int32 × Mem))} {w : Option Value} {s' : Mem} (hh : gX3_fillLayer_132 s v1 v2 v3 v4 v5 v6 v7 v8 k0 k1 = some r) (hk : Sum.elim (fun t : Mem => J X MX3_fillLayer (d + 3) 139 [some (.ref 5), some (.int v1), some (.int v2), some (.int v3), some (.int v4), some (.int v5), some (.int v6), some (.int v7), none] [] t w s') (fun a : (Int32 × Mem) => J X MX3_fillLayer (d + 3) 76 [some (.ref 5), some (.int v1), some (.int v2), some (.int v3), some (.int v4), some (.int v5), some (.int v6), some (.int v7), some (.int a.1)] [] a.2 w s') r) : J X MX3_fillLayer (d + 3) 132 [some (.ref 5), some (.int v1), some (.int v2), some (.int v3), some (.int v4), some (.int v5), some (.int v6), some (.int v7), some (.int v8)] [.int k0, .int k1, .ref 6] s w s' := by
  unfold gX3_fillLayer_132 at hh
  obtain ⟨h3, hh⟩ := gd_some hh
  refine J_iastL (pc := 132) dX3_fillLayer_132 sa6 h3 hh (fun s4 hh => ?_)
  refine J_iincL (pc := 133) (v := v8 + (1 : Int32)) (fun x5 => [some (.ref 5), some (.int v1), some (.int v2), some (.int v3), some (.int v4), some (.int v5), some (.int v6), some (.int v7), some (.int x5)]) dX3_fillLayer_133 rfl rfl (Nat.le_of_ble_eq_true rfl) (congrArg _ ci_1) (fun _ => rfl) hh (fun x5 hh => ?_)
  refine J_goto (pc := 136) 76 dX3_fillLayer_136 (by decide) ?_
  obtain rfl := Option.some.inj hh
  exact hk
def bX3_fillLayer_76 (s : Mem) (v1 : Int32) (v2 : Int32) (v3 : Int32) (v4 : Int32) (v5 : Int32) (v6 : Int32) (v7 : Int32) (v8 : Int32) : Option (Mem ⊕ (Int32 × Mem)) :=
  if v5 < v8 then some (Sum.inl s) else (fX3_place v1 v2 v6 v7 v8).bind (fun y1 => if v1 = (s.1 5 6) then (fX3_atEnd s v2 v6 v7 v8).bind (fun y6 => gX3_fillLayer_132 s v1 v2 v3 v4 v5 v6 v7 v8 y6 y1) else (fX3_atBest s v1 v2 v6 v7 v8).bind (fun y2 => gX3_fillLayer_132 s v1 v2 v3 v4 v5 v6 v7 v8 y2 y1))
set_option maxRecDepth 4000 in
theorem jbX3_fillLayer_76 {X : Scr} (d : Nat) (s : Mem) (v1 : Int32) (v2 : Int32) (v3 : Int32) (v4 : Int32) (v5 : Int32) (v6 : Int32) (v7 : Int32) (v8 : Int32) {r : (Mem ⊕ (Int32 × Mem))} {w : Option Value} {s' : Mem} (hh : bX3_fillLayer_76 s v1 v2 v3 v4 v5 v6 v7 v8 = some r) (hk : Sum.elim (fun t : Mem => J X MX3_fillLayer (d + 3) 139 [some (.ref 5), some (.int v1), some (.int v2), some (.int v3), some (.int v4), some (.int v5), some (.int v6), some (.int v7), none] [] t w s') (fun a : (Int32 × Mem) => J X MX3_fillLayer (d + 3) 76 [some (.ref 5), some (.int v1), some (.int v2), some (.int v3), some (.int v4), some (.int v5), some (.int v6), some (.int v7), some (.int a.1)] [] a.2 w s') r) : J X MX3_fillLayer (d + 3) 76 [some (.ref 5), some (.int v1), some (.int v2), some (.int v3), some (.int v4), some (.int v5), some (.int v6), some (.int v7), some (.int v8)] [] s w s' := by
  unfold bX3_fillLayer_76 at hh
  refine J_iload (pc := 76) dX3_fillLayer_76 rfl ?_
  refine J_iload (pc := 78) dX3_fillLayer_78 rfl ?_
  refine J_icmp_gt (pc := 80) 139 dX3_fillLayer_80 (by decide) (fun c8 => ?_) (fun c8 => ?_)
  · replace hh := (if_pos c8).symm.trans hh
    refine J_drop 8 (L' := [some (.ref 5), some (.int v1), some (.int v2), some (.int v3), some (.int v4), some (.int v5), some (.int v6), some (.int v7), none]) rfl ?_
    obtain rfl := Option.some.inj hh
    exact hk
  · replace hh := (if_neg c8).symm.trans hh
    refine J_aload_n (pc := 83) dX3_fillLayer_83 rfl ?_
    refine J_getR (pc := 84) (k := 0) flX3_11 so5 fk5_0 dX3_fillLayer_84 ?_
    refine J_iload_n (pc := 87) dX3_fillLayer_87 rfl ?_
    refine J_iload_n (pc := 88) dX3_fillLayer_88 rfl ?_
    refine J_iload (pc := 89) dX3_fillLayer_89 rfl ?_
    refine J_iload (pc := 91) dX3_fillLayer_91 rfl ?_
    refine J_iload (pc := 93) dX3_fillLayer_93 rfl ?_
    obtain ⟨y1, hy1, hh⟩ := bd_some hh
    refine J_callSi (pc := 95) (M' := MX3_place) (rest := [.ref 6]) (As := [.int v1, .int v2, .int v6, .int v7, .int v8]) (L0 := [some (.int v1), some (.int v2), some (.int v6), some (.int v7), some (.int v8)]) okX3_place osX3_place mlX3_100 rfl rfl (Nat.le_of_ble_eq_true rfl) dX3_fillLayer_95 rfl (Nat.le_of_ble_eq_true rfl) (jX3_place (X := X) (d + 2) s v1 v2 v6 v7 v8 hy1) ?_
    refine J_iload_n (pc := 98) dX3_fillLayer_98 rfl ?_
    refine J_aload_n (pc := 99) dX3_fillLayer_99 rfl ?_
    refine J_getI (pc := 100) (k := 6) flX3_43 so5 fk5_6 dX3_fillLayer_100 ?_
    refine J_icmp_ne (pc := 103) 120 dX3_fillLayer_103 (by decide) (fun c7 => ?_) (fun c7 => ?_)
    · replace hh := (if_neg c7).symm.trans hh
      refine J_aload_n (pc := 120) dX3_fillLayer_120 rfl ?_
      refine J_iload_n (pc := 121) dX3_fillLayer_121 rfl ?_
      refine J_iload_n (pc := 122) dX3_fillLayer_122 rfl ?_
      refine J_iload (pc := 123) dX3_fillLayer_123 rfl ?_
      refine J_iload (pc := 125) dX3_fillLayer_125 rfl ?_
      refine J_iload (pc := 127) dX3_fillLayer_127 rfl ?_
      obtain ⟨y2, hy2, hh⟩ := bd_some hh
      refine J_callVi (pc := 129) (M' := MX3_atBest) (a := 5) (rest := [.int y1, .ref 6]) (As := [.int v1, .int v2, .int v6, .int v7, .int v8]) (L0 := [some (.ref 5), some (.int v1), some (.int v2), some (.int v6), some (.int v7), some (.int v8), none, none, none, none]) okX3_atBest ovX3_atBest mlX3_107 clX3 so5 rfl rfl (Nat.le_of_ble_eq_true rfl) dX3_fillLayer_129 rfl (Nat.le_of_ble_eq_true rfl) (jX3_atBest (X := X) d s v1 v2 v6 v7 v8 hy2) ?_
      exact jgX3_fillLayer_132 d s v1 v2 v3 v4 v5 v6 v7 v8 y2 y1 hh hk
    · replace hh := (if_pos c7).symm.trans hh
      refine J_aload_n (pc := 106) dX3_fillLayer_106 rfl ?_
      refine J_iload_n (pc := 107) dX3_fillLayer_107 rfl ?_
      refine J_iload (pc := 108) dX3_fillLayer_108 rfl ?_
      refine J_iload (pc := 110) dX3_fillLayer_110 rfl ?_
      refine J_iload (pc := 112) dX3_fillLayer_112 rfl ?_
      obtain ⟨y6, hy6, hh⟩ := bd_some hh
      refine J_callVi (pc := 114) (M' := MX3_atEnd) (a := 5) (rest := [.int y1, .ref 6]) (As := [.int v2, .int v6, .int v7, .int v8]) (L0 := [some (.ref 5), some (.int v2), some (.int v6), some (.int v7), some (.int v8)]) okX3_atEnd ovX3_atEnd mlX3_104 clX3 so5 rfl rfl (Nat.le_of_ble_eq_true rfl) dX3_fillLayer_114 rfl (Nat.le_of_ble_eq_true rfl) (jX3_atEnd (X := X) d s v2 v6 v7 v8 hy6) ?_
      refine J_goto (pc := 117) 132 dX3_fillLayer_117 (by decide) ?_
      exact jgX3_fillLayer_132 d s v1 v2 v3 v4 v5 v6 v7 v8 y6 y1 hh hk
def bX3_fillLayer_66 (s : Mem) (v1 : Int32) (v2 : Int32) (v3 : Int32) (v4 : Int32) (v5 : Int32) (v6 : Int32) (v7 : Int32) : Option (Mem ⊕ (Int32 × Mem)) :=
  if v4 < v7 then some (Sum.inl s) else (lp (fun a => bX3_fillLayer_76 a.2 v1 v2 v3 v4 v5 v6 v7 a.1) 600 ((0 : Int32), s)).bind (fun y9 => lt (v7 + (1 : Int32)) (fun x10 => some (Sum.inr (x10, y9))))
set_option maxRecDepth 4000 in
theorem jbX3_fillLayer_66 {X : Scr} (d : Nat) (s : Mem) (v1 : Int32) (v2 : Int32) (v3 : Int32) (v4 : Int32) (v5 : Int32) (v6 : Int32) (v7 : Int32) {r : (Mem ⊕ (Int32 × Mem))} {w : Option Value} {s' : Mem} (hh : bX3_fillLayer_66 s v1 v2 v3 v4 v5 v6 v7 = some r) (hk : Sum.elim (fun t : Mem => J X MX3_fillLayer (d + 3) 145 [some (.ref 5), some (.int v1), some (.int v2), some (.int v3), some (.int v4), some (.int v5), some (.int v6), none, none] [] t w s') (fun a : (Int32 × Mem) => J X MX3_fillLayer (d + 3) 66 [some (.ref 5), some (.int v1), some (.int v2), some (.int v3), some (.int v4), some (.int v5), some (.int v6), some (.int a.1), none] [] a.2 w s') r) : J X MX3_fillLayer (d + 3) 66 [some (.ref 5), some (.int v1), some (.int v2), some (.int v3), some (.int v4), some (.int v5), some (.int v6), some (.int v7), none] [] s w s' := by
  unfold bX3_fillLayer_66 at hh
  refine J_iload (pc := 66) dX3_fillLayer_66 rfl ?_
  refine J_iload (pc := 68) dX3_fillLayer_68 rfl ?_
  refine J_icmp_gt (pc := 70) 145 dX3_fillLayer_70 (by decide) (fun c11 => ?_) (fun c11 => ?_)
  · replace hh := (if_pos c11).symm.trans hh
    refine J_drop 7 (L' := [some (.ref 5), some (.int v1), some (.int v2), some (.int v3), some (.int v4), some (.int v5), some (.int v6), none, none]) rfl ?_
    obtain rfl := Option.some.inj hh
    exact hk
  · replace hh := (if_neg c11).symm.trans hh
    refine J_iconst (pc := 73) dX3_fillLayer_73 ci_0 ?_
    refine J_istore (pc := 74) (L' := [some (.ref 5), some (.int v1), some (.int v2), some (.int v3), some (.int v4), some (.int v5), some (.int v6), some (.int v7), some (.int (0 : Int32))]) dX3_fillLayer_74 rfl (Nat.le_of_ble_eq_true rfl) rfl ?_
    obtain ⟨y9, hy9, hh⟩ := bd_some hh
    refine J_lp (a := ((0 : Int32), s)) (fun a : (Int32 × Mem) => J X MX3_fillLayer (d + 3) 76 [some (.ref 5), some (.int v1), some (.int v2), some (.int v3), some (.int v4), some (.int v5), some (.int v6), some (.int v7), some (.int a.1)] [] a.2 w s') (fun t : Mem => J X MX3_fillLayer (d + 3) 139 [some (.ref 5), some (.int v1), some (.int v2), some (.int v3), some (.int v4), some (.int v5), some (.int v6), some (.int v7), none] [] t w s') (fun a q h1 h2 => jbX3_fillLayer_76 d a.2 v1 v2 v3 v4 v5 v6 v7 a.1 h1 h2) hy9 ?_
    refine J_iincL (pc := 139) (v := v7 + (1 : Int32)) (fun x10 => [some (.ref 5), some (.int v1), some (.int v2), some (.int v3), some (.int v4), some (.int v5), some (.int v6), some (.int x10), none]) dX3_fillLayer_139 rfl rfl (Nat.le_of_ble_eq_true rfl) (congrArg _ ci_1) (fun _ => rfl) hh (fun x10 hh => ?_)
    refine J_goto (pc := 142) 66 dX3_fillLayer_142 (by decide) ?_
    obtain rfl := Option.some.inj hh
    exact hk
def bX3_fillLayer_57 (s : Mem) (v1 : Int32) (v2 : Int32) (v3 : Int32) (v4 : Int32) (v5 : Int32) (v6 : Int32) : Option (Mem ⊕ (Int32 × Mem)) :=
  if v3 < v6 then some (Sum.inl s) else (lp (fun a => bX3_fillLayer_66 a.2 v1 v2 v3 v4 v5 v6 a.1) 600 ((0 : Int32), s)).bind (fun y12 => lt (v6 + (1 : Int32)) (fun x13 => some (Sum.inr (x13, y12))))
set_option maxRecDepth 4000 in
theorem jbX3_fillLayer_57 {X : Scr} (d : Nat) (s : Mem) (v1 : Int32) (v2 : Int32) (v3 : Int32) (v4 : Int32) (v5 : Int32) (v6 : Int32) {r : (Mem ⊕ (Int32 × Mem))} {w : Option Value} {s' : Mem} (hh : bX3_fillLayer_57 s v1 v2 v3 v4 v5 v6 = some r) (hk : Sum.elim (fun t : Mem => J X MX3_fillLayer (d + 3) 151 [some (.ref 5), some (.int v1), some (.int v2), none, none, none, none, none, none] [] t w s') (fun a : (Int32 × Mem) => J X MX3_fillLayer (d + 3) 57 [some (.ref 5), some (.int v1), some (.int v2), some (.int v3), some (.int v4), some (.int v5), some (.int a.1), none, none] [] a.2 w s') r) : J X MX3_fillLayer (d + 3) 57 [some (.ref 5), some (.int v1), some (.int v2), some (.int v3), some (.int v4), some (.int v5), some (.int v6), none, none] [] s w s' := by
  unfold bX3_fillLayer_57 at hh
  refine J_iload (pc := 57) dX3_fillLayer_57 rfl ?_
  refine J_iload_n (pc := 59) dX3_fillLayer_59 rfl ?_
  refine J_icmp_gt (pc := 60) 151 dX3_fillLayer_60 (by decide) (fun c14 => ?_) (fun c14 => ?_)
  · replace hh := (if_pos c14).symm.trans hh
    refine J_drop 3 (L' := [some (.ref 5), some (.int v1), some (.int v2), none, some (.int v4), some (.int v5), some (.int v6), none, none]) rfl ?_
    refine J_drop 4 (L' := [some (.ref 5), some (.int v1), some (.int v2), none, none, some (.int v5), some (.int v6), none, none]) rfl ?_
    refine J_drop 5 (L' := [some (.ref 5), some (.int v1), some (.int v2), none, none, none, some (.int v6), none, none]) rfl ?_
    refine J_drop 6 (L' := [some (.ref 5), some (.int v1), some (.int v2), none, none, none, none, none, none]) rfl ?_
    obtain rfl := Option.some.inj hh
    exact hk
  · replace hh := (if_neg c14).symm.trans hh
    refine J_iconst (pc := 63) dX3_fillLayer_63 ci_0 ?_
    refine J_istore (pc := 64) (L' := [some (.ref 5), some (.int v1), some (.int v2), some (.int v3), some (.int v4), some (.int v5), some (.int v6), some (.int (0 : Int32)), none]) dX3_fillLayer_64 rfl (Nat.le_of_ble_eq_true rfl) rfl ?_
    obtain ⟨y12, hy12, hh⟩ := bd_some hh
    refine J_lp (a := ((0 : Int32), s)) (fun a : (Int32 × Mem) => J X MX3_fillLayer (d + 3) 66 [some (.ref 5), some (.int v1), some (.int v2), some (.int v3), some (.int v4), some (.int v5), some (.int v6), some (.int a.1), none] [] a.2 w s') (fun t : Mem => J X MX3_fillLayer (d + 3) 145 [some (.ref 5), some (.int v1), some (.int v2), some (.int v3), some (.int v4), some (.int v5), some (.int v6), none, none] [] t w s') (fun a q h1 h2 => jbX3_fillLayer_66 d a.2 v1 v2 v3 v4 v5 v6 a.1 h1 h2) hy12 ?_
    refine J_iincL (pc := 145) (v := v6 + (1 : Int32)) (fun x13 => [some (.ref 5), some (.int v1), some (.int v2), some (.int v3), some (.int v4), some (.int v5), some (.int x13), none, none]) dX3_fillLayer_145 rfl rfl (Nat.le_of_ble_eq_true rfl) (congrArg _ ci_1) (fun _ => rfl) hh (fun x13 hh => ?_)
    refine J_goto (pc := 148) 57 dX3_fillLayer_148 (by decide) ?_
    obtain rfl := Option.some.inj hh
    exact hk
def gX3_fillLayer_52 (s : Mem) (v1 : Int32) (v2 : Int32) (v3 : Int32) (v4 : Int32) (k0 : Int32) : Option (Mem ⊕ (Int32 × Mem)) :=
  (lp (fun a => bX3_fillLayer_57 a.2 v1 v2 v3 v4 k0 a.1) 600 ((0 : Int32), s)).bind (fun y15 => lt (v2 + (1 : Int32)) (fun x16 => some (Sum.inr (x16, y15))))
set_option maxRecDepth 4000 in
theorem jgX3_fillLayer_52 {X : Scr} (d : Nat) (s : Mem) (v1 : Int32) (v2 : Int32) (v3 : Int32) (v4 : Int32) (k0 : Int32) {r : (Mem ⊕ (Int32 × Mem))} {w : Option Value} {s' : Mem} (hh : gX3_fillLayer_52 s v1 v2 v3 v4 k0 = some r) (hk : Sum.elim (fun t : Mem => J X MX3_fillLayer (d + 3) 157 [none, none, none, none, none, none, none, none, none] [] t w s') (fun a : (Int32 × Mem) => J X MX3_fillLayer (d + 3) 2 [some (.ref 5), some (.int v1), some (.int a.1), none, none, none, none, none, none] [] a.2 w s') r) : J X MX3_fillLayer (d + 3) 52 [some (.ref 5), some (.int v1), some (.int v2), some (.int v3), some (.int v4), none, none, none, none] [.int k0] s w s' := by
  unfold gX3_fillLayer_52 at hh
  refine J_istore (pc := 52) (L' := [some (.ref 5), some (.int v1), some (.int v2), some (.int v3), some (.int v4), some (.int k0), none, none, none]) dX3_fillLayer_52 rfl (Nat.le_of_ble_eq_true rfl) rfl ?_
  refine J_iconst (pc := 54) dX3_fillLayer_54 ci_0 ?_
  refine J_istore (pc := 55) (L' := [some (.ref 5), some (.int v1), some (.int v2), some (.int v3), some (.int v4), some (.int k0), some (.int (0 : Int32)), none, none]) dX3_fillLayer_55 rfl (Nat.le_of_ble_eq_true rfl) rfl ?_
  obtain ⟨y15, hy15, hh⟩ := bd_some hh
  refine J_lp (a := ((0 : Int32), s)) (fun a : (Int32 × Mem) => J X MX3_fillLayer (d + 3) 57 [some (.ref 5), some (.int v1), some (.int v2), some (.int v3), some (.int v4), some (.int k0), some (.int a.1), none, none] [] a.2 w s') (fun t : Mem => J X MX3_fillLayer (d + 3) 151 [some (.ref 5), some (.int v1), some (.int v2), none, none, none, none, none, none] [] t w s') (fun a q h1 h2 => jbX3_fillLayer_57 d a.2 v1 v2 v3 v4 k0 a.1 h1 h2) hy15 ?_
  refine J_iincL (pc := 151) (v := v2 + (1 : Int32)) (fun x16 => [some (.ref 5), some (.int v1), some (.int x16), none, none, none, none, none, none]) dX3_fillLayer_151 rfl rfl (Nat.le_of_ble_eq_true rfl) (congrArg _ ci_1) (fun _ => rfl) hh (fun x16 hh => ?_)
  refine J_goto (pc := 154) 2 dX3_fillLayer_154 (by decide) ?_
  obtain rfl := Option.some.inj hh
  exact hk
def gX3_fillLayer_36 (s : Mem) (v1 : Int32) (v2 : Int32) (v3 : Int32) (k0 : Int32) : Option (Mem ⊕ (Int32 × Mem)) :=
  if ((s.1 5 7) &&& (1 : Int32)) = (0 : Int32) then gX3_fillLayer_52 s v1 v2 v3 k0 (0 : Int32) else gX3_fillLayer_52 s v1 v2 v3 k0 v2
set_option maxRecDepth 4000 in
theorem jgX3_fillLayer_36 {X : Scr} (d : Nat) (s : Mem) (v1 : Int32) (v2 : Int32) (v3 : Int32) (k0 : Int32) {r : (Mem ⊕ (Int32 × Mem))} {w : Option Value} {s' : Mem} (hh : gX3_fillLayer_36 s v1 v2 v3 k0 = some r) (hk : Sum.elim (fun t : Mem => J X MX3_fillLayer (d + 3) 157 [none, none, none, none, none, none, none, none, none] [] t w s') (fun a : (Int32 × Mem) => J X MX3_fillLayer (d + 3) 2 [some (.ref 5), some (.int v1), some (.int a.1), none, none, none, none, none, none] [] a.2 w s') r) : J X MX3_fillLayer (d + 3) 36 [some (.ref 5), some (.int v1), some (.int v2), some (.int v3), none, none, none, none, none] [.int k0] s w s' := by
  unfold gX3_fillLayer_36 at hh
  refine J_istore (pc := 36) (L' := [some (.ref 5), some (.int v1), some (.int v2), some (.int v3), some (.int k0), none, none, none, none]) dX3_fillLayer_36 rfl (Nat.le_of_ble_eq_true rfl) rfl ?_
  refine J_aload_n (pc := 38) dX3_fillLayer_38 rfl ?_
  refine J_getI (pc := 39) (k := 7) flX3_46 so5 fk5_7 dX3_fillLayer_39 ?_
  refine J_iconst (pc := 42) dX3_fillLayer_42 ci_1 ?_
  refine J_iand (pc := 43) dX3_fillLayer_43 ?_
  refine J_if_eq (pc := 44) 51 dX3_fillLayer_44 (by decide) (fun c17 => ?_) (fun c17 => ?_)
  · replace hh := (if_pos c17).symm.trans hh
    refine J_iconst (pc := 51) dX3_fillLayer_51 ci_0 ?_
    exact jgX3_fillLayer_52 d s v1 v2 v3 k0 (0 : Int32) hh hk
  · replace hh := (if_neg c17).symm.trans hh
    refine J_iload_n (pc := 47) dX3_fillLayer_47 rfl ?_
    refine J_goto (pc := 48) 52 dX3_fillLayer_48 (by decide) ?_
    exact jgX3_fillLayer_52 d s v1 v2 v3 k0 v2 hh hk
def gX3_fillLayer_21 (s : Mem) (v1 : Int32) (v2 : Int32) (k0 : Int32) : Option (Mem ⊕ (Int32 × Mem)) :=
  if ((s.1 5 7) &&& (2 : Int32)) = (0 : Int32) then gX3_fillLayer_36 s v1 v2 k0 (0 : Int32) else gX3_fillLayer_36 s v1 v2 k0 v2
set_option maxRecDepth 4000 in
theorem jgX3_fillLayer_21 {X : Scr} (d : Nat) (s : Mem) (v1 : Int32) (v2 : Int32) (k0 : Int32) {r : (Mem ⊕ (Int32 × Mem))} {w : Option Value} {s' : Mem} (hh : gX3_fillLayer_21 s v1 v2 k0 = some r) (hk : Sum.elim (fun t : Mem => J X MX3_fillLayer (d + 3) 157 [none, none, none, none, none, none, none, none, none] [] t w s') (fun a : (Int32 × Mem) => J X MX3_fillLayer (d + 3) 2 [some (.ref 5), some (.int v1), some (.int a.1), none, none, none, none, none, none] [] a.2 w s') r) : J X MX3_fillLayer (d + 3) 21 [some (.ref 5), some (.int v1), some (.int v2), none, none, none, none, none, none] [.int k0] s w s' := by
  unfold gX3_fillLayer_21 at hh
  refine J_istore_n (pc := 21) (L' := [some (.ref 5), some (.int v1), some (.int v2), some (.int k0), none, none, none, none, none]) dX3_fillLayer_21 rfl (Nat.le_of_ble_eq_true rfl) rfl ?_
  refine J_aload_n (pc := 22) dX3_fillLayer_22 rfl ?_
  refine J_getI (pc := 23) (k := 7) flX3_46 so5 fk5_7 dX3_fillLayer_23 ?_
  refine J_iconst (pc := 26) dX3_fillLayer_26 ci_2 ?_
  refine J_iand (pc := 27) dX3_fillLayer_27 ?_
  refine J_if_eq (pc := 28) 35 dX3_fillLayer_28 (by decide) (fun c18 => ?_) (fun c18 => ?_)
  · replace hh := (if_pos c18).symm.trans hh
    refine J_iconst (pc := 35) dX3_fillLayer_35 ci_0 ?_
    exact jgX3_fillLayer_36 d s v1 v2 k0 (0 : Int32) hh hk
  · replace hh := (if_neg c18).symm.trans hh
    refine J_iload_n (pc := 31) dX3_fillLayer_31 rfl ?_
    refine J_goto (pc := 32) 36 dX3_fillLayer_32 (by decide) ?_
    exact jgX3_fillLayer_36 d s v1 v2 k0 v2 hh hk
def bX3_fillLayer_2 (s : Mem) (v1 : Int32) (v2 : Int32) : Option (Mem ⊕ (Int32 × Mem)) :=
  if v1 < v2 then some (Sum.inl s) else if ((s.1 5 7) &&& (4 : Int32)) = (0 : Int32) then gX3_fillLayer_21 s v1 v2 (0 : Int32) else gX3_fillLayer_21 s v1 v2 v2
set_option maxRecDepth 4000 in
theorem jbX3_fillLayer_2 {X : Scr} (d : Nat) (s : Mem) (v1 : Int32) (v2 : Int32) {r : (Mem ⊕ (Int32 × Mem))} {w : Option Value} {s' : Mem} (hh : bX3_fillLayer_2 s v1 v2 = some r) (hk : Sum.elim (fun t : Mem => J X MX3_fillLayer (d + 3) 157 [none, none, none, none, none, none, none, none, none] [] t w s') (fun a : (Int32 × Mem) => J X MX3_fillLayer (d + 3) 2 [some (.ref 5), some (.int v1), some (.int a.1), none, none, none, none, none, none] [] a.2 w s') r) : J X MX3_fillLayer (d + 3) 2 [some (.ref 5), some (.int v1), some (.int v2), none, none, none, none, none, none] [] s w s' := by
  unfold bX3_fillLayer_2 at hh
  refine J_iload_n (pc := 2) dX3_fillLayer_2 rfl ?_
  refine J_iload_n (pc := 3) dX3_fillLayer_3 rfl ?_
  refine J_icmp_gt (pc := 4) 157 dX3_fillLayer_4 (by decide) (fun c20 => ?_) (fun c20 => ?_)
  · replace hh := (if_pos c20).symm.trans hh
    refine J_drop 0 (L' := [none, some (.int v1), some (.int v2), none, none, none, none, none, none]) rfl ?_
    refine J_drop 1 (L' := [none, none, some (.int v2), none, none, none, none, none, none]) rfl ?_
    refine J_drop 2 (L' := [none, none, none, none, none, none, none, none, none]) rfl ?_
    obtain rfl := Option.some.inj hh
    exact hk
  · replace hh := (if_neg c20).symm.trans hh
    refine J_aload_n (pc := 7) dX3_fillLayer_7 rfl ?_
    refine J_getI (pc := 8) (k := 7) flX3_46 so5 fk5_7 dX3_fillLayer_8 ?_
    refine J_iconst (pc := 11) dX3_fillLayer_11 ci_4 ?_
    refine J_iand (pc := 12) dX3_fillLayer_12 ?_
    refine J_if_eq (pc := 13) 20 dX3_fillLayer_13 (by decide) (fun c19 => ?_) (fun c19 => ?_)
    · replace hh := (if_pos c19).symm.trans hh
      refine J_iconst (pc := 20) dX3_fillLayer_20 ci_0 ?_
      exact jgX3_fillLayer_21 d s v1 v2 (0 : Int32) hh hk
    · replace hh := (if_neg c19).symm.trans hh
      refine J_iload_n (pc := 16) dX3_fillLayer_16 rfl ?_
      refine J_goto (pc := 17) 21 dX3_fillLayer_17 (by decide) ?_
      exact jgX3_fillLayer_21 d s v1 v2 v2 hh hk
def fX3_fillLayer (s : Mem) (p0 : Int32) : Option Mem :=
  (lp (fun a => bX3_fillLayer_2 a.2 p0 a.1) 600 ((0 : Int32), s)).bind (fun y21 => some y21)
set_option maxRecDepth 4000 in
theorem jjX3_fillLayer {X : Scr} (d : Nat) (s : Mem) (p0 : Int32) {r : Mem} {w : Option Value} {s' : Mem} (hh : fX3_fillLayer s p0 = some r) (hk : w = none ∧ r = s') : J X MX3_fillLayer (d + 3) 0 [some (.ref 5), some (.int p0), none, none, none, none, none, none, none] [] s w s' := by
  unfold fX3_fillLayer at hh
  refine J_iconst (pc := 0) dX3_fillLayer_0 ci_0 ?_
  refine J_istore_n (pc := 1) (L' := [some (.ref 5), some (.int p0), some (.int (0 : Int32)), none, none, none, none, none, none]) dX3_fillLayer_1 rfl (Nat.le_of_ble_eq_true rfl) rfl ?_
  obtain ⟨y21, hy21, hh⟩ := bd_some hh
  refine J_lp (a := ((0 : Int32), s)) (fun a : (Int32 × Mem) => J X MX3_fillLayer (d + 3) 2 [some (.ref 5), some (.int p0), some (.int a.1), none, none, none, none, none, none] [] a.2 w s') (fun t : Mem => J X MX3_fillLayer (d + 3) 157 [none, none, none, none, none, none, none, none, none] [] t w s') (fun a q h1 h2 => jbX3_fillLayer_2 d a.2 p0 a.1 h1 h2) hy21 ?_
  obtain rfl := Option.some.inj hh
  obtain ⟨rfl, rfl⟩ := hk
  exact J_ret (w := none) ⟨dX3_fillLayer_157, rfl⟩
theorem jX3_fillLayer {X : Scr} (d : Nat) (s : Mem) (p0 : Int32) {r : Mem} (hh : fX3_fillLayer s p0 = some r) : J X MX3_fillLayer (d + 3) 0 [some (.ref 5), some (.int p0), none, none, none, none, none, none, none] [] s (none) r := jjX3_fillLayer d s p0 hh ⟨rfl, rfl⟩
theorem dX3_howMany_0 : decode cX3_howMany 0 = .ok (.aload_n 0, 1) := by decide +kernel
theorem dX3_howMany_1 : decode cX3_howMany 1 = .ok (.iconst 1, 1) := by decide +kernel
theorem dX3_howMany_2 : decode cX3_howMany 2 = .ok (.putfield 69, 3) := by decide +kernel
theorem dX3_howMany_5 : decode cX3_howMany 5 = .ok (.aload_n 0, 1) := by decide +kernel
theorem dX3_howMany_6 : decode cX3_howMany 6 = .ok (.getfield 43, 3) := by decide +kernel
theorem dX3_howMany_9 : decode cX3_howMany 9 = .ok (.istore_n 1, 1) := by decide +kernel
theorem dX3_howMany_10 : decode cX3_howMany 10 = .ok (.iload_n 1, 1) := by decide +kernel
theorem dX3_howMany_11 : decode cX3_howMany 11 = .ok (.ifCond .lt 14, 3) := by decide +kernel
theorem dX3_howMany_14 : decode cX3_howMany 14 = .ok (.aload_n 0, 1) := by decide +kernel
theorem dX3_howMany_15 : decode cX3_howMany 15 = .ok (.iload_n 1, 1) := by decide +kernel
theorem dX3_howMany_16 : decode cX3_howMany 16 = .ok (.invokevirtual 73, 3) := by decide +kernel
theorem dX3_howMany_19 : decode cX3_howMany 19 = .ok (.iinc 1 (-1), 3) := by decide +kernel
theorem dX3_howMany_22 : decode cX3_howMany 22 = .ok (.goto (-12), 3) := by decide +kernel
theorem dX3_howMany_25 : decode cX3_howMany 25 = .ok (.aload_n 0, 1) := by decide +kernel
theorem dX3_howMany_26 : decode cX3_howMany 26 = .ok (.getfield 11, 3) := by decide +kernel
theorem dX3_howMany_29 : decode cX3_howMany 29 = .ok (.iconst 0, 1) := by decide +kernel
theorem dX3_howMany_30 : decode cX3_howMany 30 = .ok (.iaload, 1) := by decide +kernel
theorem dX3_howMany_31 : decode cX3_howMany 31 = .ok (.ireturn, 1) := by decide +kernel
def bX3_howMany_10 (s : Mem) (v1 : Int32) : Option (Mem ⊕ (Int32 × Mem)) :=
  if v1 < (0 : Int32) then some (Sum.inl s) else (fX3_fillLayer s v1).bind (fun y3 => lt (v1 + (-1 : Int32)) (fun x4 => some (Sum.inr (x4, y3))))
set_option maxRecDepth 4000 in
theorem jbX3_howMany_10 {X : Scr} (d : Nat) (s : Mem) (v1 : Int32) {r : (Mem ⊕ (Int32 × Mem))} {w : Option Value} {s' : Mem} (hh : bX3_howMany_10 s v1 = some r) (hk : Sum.elim (fun t : Mem => J X MX3_howMany (d + 4) 25 [some (.ref 5), none] [] t w s') (fun a : (Int32 × Mem) => J X MX3_howMany (d + 4) 10 [some (.ref 5), some (.int a.1)] [] a.2 w s') r) : J X MX3_howMany (d + 4) 10 [some (.ref 5), some (.int v1)] [] s w s' := by
  unfold bX3_howMany_10 at hh
  refine J_iload_n (pc := 10) dX3_howMany_10 rfl ?_
  refine J_if_lt (pc := 11) 25 dX3_howMany_11 (by decide) (fun c5 => ?_) (fun c5 => ?_)
  · replace hh := (if_pos c5).symm.trans hh
    refine J_drop 1 (L' := [some (.ref 5), none]) rfl ?_
    obtain rfl := Option.some.inj hh
    exact hk
  · replace hh := (if_neg c5).symm.trans hh
    refine J_aload_n (pc := 14) dX3_howMany_14 rfl ?_
    refine J_iload_n (pc := 15) dX3_howMany_15 rfl ?_
    obtain ⟨y3, hy3, hh⟩ := bd_some hh
    refine J_callV0 (pc := 16) (M' := MX3_fillLayer) (a := 5) (rest := []) (As := [.int v1]) (L0 := [some (.ref 5), some (.int v1), none, none, none, none, none, none, none]) okX3_fillLayer ovX3_fillLayer mlX3_73 clX3 so5 rfl rfl (Nat.le_of_ble_eq_true rfl) dX3_howMany_16 rfl (Nat.le_of_ble_eq_true rfl) (jX3_fillLayer (X := X) d s v1 hy3) ?_
    refine J_iincL (pc := 19) (v := v1 + (-1 : Int32)) (fun x4 => [some (.ref 5), some (.int x4)]) dX3_howMany_19 rfl rfl (Nat.le_of_ble_eq_true rfl) (congrArg _ ci_m1) (fun _ => rfl) hh (fun x4 hh => ?_)
    refine J_goto (pc := 22) 10 dX3_howMany_22 (by decide) ?_
    obtain rfl := Option.some.inj hh
    exact hk
def fX3_howMany (s : Mem)  : Option (Int32 × Mem) :=
  lt (up2 s 5 8 (1 : Int32)) (fun s1 => lt (s1.1 5 6) (fun x2 => (lp (fun a => bX3_howMany_10 a.2 a.1) 600 (x2, s1)).bind (fun y6 => gd (0 : Int32) 1596 (some ((y6.1 6 (0 : Int32).toNatClampNeg, y6))))))
set_option maxRecDepth 4000 in
theorem jjX3_howMany {X : Scr} (d : Nat) (s : Mem)  {r : (Int32 × Mem)} {w : Option Value} {s' : Mem} (hh : fX3_howMany s = some r) (hk : w = some (.int r.1) ∧ r.2 = s') : J X MX3_howMany (d + 4) 0 [some (.ref 5), none] [] s w s' := by
  unfold fX3_howMany at hh
  refine J_aload_n (pc := 0) dX3_howMany_0 rfl ?_
  refine J_iconst (pc := 1) dX3_howMany_1 ci_1 ?_
  refine J_putIL (pc := 2) (k := 8) fpX3_69 so5 fk5_8 rfl rfl dX3_howMany_2 hh (fun s1 hh => ?_)
  refine J_aload_n (pc := 5) dX3_howMany_5 rfl ?_
  refine J_getI (pc := 6) (k := 6) flX3_43 so5 fk5_6 dX3_howMany_6 ?_
  refine J_istoreL_n (pc := 9) (fun x2 => [some (.ref 5), some (.int x2)]) dX3_howMany_9 rfl (Nat.le_of_ble_eq_true rfl) (fun _ => rfl) hh (fun x2 hh => ?_)
  obtain ⟨y6, hy6, hh⟩ := bd_some hh
  refine J_lp (a := (x2, s1)) (fun a : (Int32 × Mem) => J X MX3_howMany (d + 4) 10 [some (.ref 5), some (.int a.1)] [] a.2 w s') (fun t : Mem => J X MX3_howMany (d + 4) 25 [some (.ref 5), none] [] t w s') (fun a q h1 h2 => jbX3_howMany_10 d a.2 a.1 h1 h2) hy6 ?_
  refine J_aload_n (pc := 25) dX3_howMany_25 rfl ?_
  refine J_getR (pc := 26) (k := 0) flX3_11 so5 fk5_0 dX3_howMany_26 ?_
  refine J_iconst (pc := 29) dX3_howMany_29 ci_0 ?_
  obtain ⟨h7, hh⟩ := gd_some hh
  refine J_iald (pc := 30) dX3_howMany_30 sa6 h7 ?_
  obtain rfl := Option.some.inj hh
  obtain ⟨rfl, rfl⟩ := hk
  exact J_ret (w := some (.int (y6.1 6 (0 : Int32).toNatClampNeg))) ⟨dX3_howMany_31, _, rfl, rfl⟩
theorem jX3_howMany {X : Scr} (d : Nat) (s : Mem)  {r : (Int32 × Mem)} (hh : fX3_howMany s = some r) : J X MX3_howMany (d + 4) 0 [some (.ref 5), none] [] s (some (.int r.1)) r.2 := jjX3_howMany d s hh ⟨rfl, rfl⟩
theorem dX3_firstBest_0 : decode cX3_firstBest 0 = .ok (.aload_n 0, 1) := by decide +kernel
theorem dX3_firstBest_1 : decode cX3_firstBest 1 = .ok (.getfield 11, 3) := by decide +kernel
theorem dX3_firstBest_4 : decode cX3_firstBest 4 = .ok (.iload_n 1, 1) := by decide +kernel
theorem dX3_firstBest_5 : decode cX3_firstBest 5 = .ok (.iload_n 2, 1) := by decide +kernel
theorem dX3_firstBest_6 : decode cX3_firstBest 6 = .ok (.iload_n 3, 1) := by decide +kernel
theorem dX3_firstBest_7 : decode cX3_firstBest 7 = .ok (.iload 4, 2) := by decide +kernel
theorem dX3_firstBest_9 : decode cX3_firstBest 9 = .ok (.iload 5, 2) := by decide +kernel
theorem dX3_firstBest_11 : decode cX3_firstBest 11 = .ok (.invokestatic 100, 3) := by decide +kernel
theorem dX3_firstBest_14 : decode cX3_firstBest 14 = .ok (.iaload, 1) := by decide +kernel
theorem dX3_firstBest_15 : decode cX3_firstBest 15 = .ok (.istore 6, 2) := by decide +kernel
theorem dX3_firstBest_17 : decode cX3_firstBest 17 = .ok (.iconst 0, 1) := by decide +kernel
theorem dX3_firstBest_18 : decode cX3_firstBest 18 = .ok (.istore 7, 2) := by decide +kernel
theorem dX3_firstBest_20 : decode cX3_firstBest 20 = .ok (.iload 7, 2) := by decide +kernel
theorem dX3_firstBest_22 : decode cX3_firstBest 22 = .ok (.bipush 9, 2) := by decide +kernel
theorem dX3_firstBest_24 : decode cX3_firstBest 24 = .ok (.if_icmp .ge 44, 3) := by decide +kernel
theorem dX3_firstBest_27 : decode cX3_firstBest 27 = .ok (.aload_n 0, 1) := by decide +kernel
theorem dX3_firstBest_28 : decode cX3_firstBest 28 = .ok (.getfield 15, 3) := by decide +kernel
theorem dX3_firstBest_31 : decode cX3_firstBest 31 = .ok (.iload_n 1, 1) := by decide +kernel
theorem dX3_firstBest_32 : decode cX3_firstBest 32 = .ok (.iaload, 1) := by decide +kernel
theorem dX3_firstBest_33 : decode cX3_firstBest 33 = .ok (.iload 7, 2) := by decide +kernel
theorem dX3_firstBest_35 : decode cX3_firstBest 35 = .ok (.ishr, 1) := by decide +kernel
theorem dX3_firstBest_36 : decode cX3_firstBest 36 = .ok (.iconst 1, 1) := by decide +kernel
theorem dX3_firstBest_37 : decode cX3_firstBest 37 = .ok (.iand, 1) := by decide +kernel
theorem dX3_firstBest_38 : decode cX3_firstBest 38 = .ok (.ifCond .eq 24, 3) := by decide +kernel
theorem dX3_firstBest_41 : decode cX3_firstBest 41 = .ok (.aload_n 0, 1) := by decide +kernel
theorem dX3_firstBest_42 : decode cX3_firstBest 42 = .ok (.iload_n 1, 1) := by decide +kernel
theorem dX3_firstBest_43 : decode cX3_firstBest 43 = .ok (.iload 7, 2) := by decide +kernel
theorem dX3_firstBest_45 : decode cX3_firstBest 45 = .ok (.iload_n 2, 1) := by decide +kernel
theorem dX3_firstBest_46 : decode cX3_firstBest 46 = .ok (.iload_n 3, 1) := by decide +kernel
theorem dX3_firstBest_47 : decode cX3_firstBest 47 = .ok (.iload 4, 2) := by decide +kernel
theorem dX3_firstBest_49 : decode cX3_firstBest 49 = .ok (.iload 5, 2) := by decide +kernel
theorem dX3_firstBest_51 : decode cX3_firstBest 51 = .ok (.invokevirtual 117, 3) := by decide +kernel
theorem dX3_firstBest_54 : decode cX3_firstBest 54 = .ok (.iload 6, 2) := by decide +kernel
theorem dX3_firstBest_56 : decode cX3_firstBest 56 = .ok (.if_icmp .ne 6, 3) := by decide +kernel
theorem dX3_firstBest_59 : decode cX3_firstBest 59 = .ok (.iload 7, 2) := by decide +kernel
theorem dX3_firstBest_61 : decode cX3_firstBest 61 = .ok (.ireturn, 1) := by decide +kernel
theorem dX3_firstBest_62 : decode cX3_firstBest 62 = .ok (.iinc 7 1, 3) := by decide +kernel
theorem dX3_firstBest_65 : decode cX3_firstBest 65 = .ok (.goto (-45), 3) := by decide +kernel
theorem dX3_firstBest_68 : decode cX3_firstBest 68 = .ok (.iconst 0, 1) := by decide +kernel
theorem dX3_firstBest_69 : decode cX3_firstBest 69 = .ok (.ireturn, 1) := by decide +kernel
def bX3_firstBest_20 (s : Mem) (v1 : Int32) (v2 : Int32) (v3 : Int32) (v4 : Int32) (v5 : Int32) (v6 : Int32) (v7 : Int32) : Option ((Int32 ⊕ Unit) ⊕ Int32) :=
  if (9 : Int32) ≤ v7 then some (Sum.inl (Sum.inr ())) else gd v1 6 (if (((s.1 7 v1.toNatClampNeg) >>> (v7 &&& 31)) &&& (1 : Int32)) = (0 : Int32) then lt (v7 + (1 : Int32)) (fun x5 => some (Sum.inr x5)) else (fX3_through s v1 v7 v2 v3 v4 v5).bind (fun y6 => if y6 = v6 then some (Sum.inl (Sum.inl v7)) else lt (v7 + (1 : Int32)) (fun x7 => some (Sum.inr x7))))
set_option maxRecDepth 4000 in
theorem jbX3_firstBest_20 {X : Scr} (d : Nat) (s : Mem) (v1 : Int32) (v2 : Int32) (v3 : Int32) (v4 : Int32) (v5 : Int32) (v6 : Int32) (v7 : Int32) {r : ((Int32 ⊕ Unit) ⊕ Int32)} {w : Option Value} {s' : Mem} (hh : bX3_firstBest_20 s v1 v2 v3 v4 v5 v6 v7 = some r) (hk : Sum.elim (Sum.elim (fun q : Int32 => w = some (.int q) ∧ s = s') (fun t : Unit => J X MX3_firstBest (d + 2) 68 [none, none, none, none, none, none, none, none] [] s w s')) (fun a : Int32 => J X MX3_firstBest (d + 2) 20 [some (.ref 5), some (.int v1), some (.int v2), some (.int v3), some (.int v4), some (.int v5), some (.int v6), some (.int a)] [] s w s') r) : J X MX3_firstBest (d + 2) 20 [some (.ref 5), some (.int v1), some (.int v2), some (.int v3), some (.int v4), some (.int v5), some (.int v6), some (.int v7)] [] s w s' := by
  unfold bX3_firstBest_20 at hh
  refine J_iload (pc := 20) dX3_firstBest_20 rfl ?_
  refine J_bipush (pc := 22) dX3_firstBest_22 cb_9 ?_
  refine J_icmp_ge (pc := 24) 68 dX3_firstBest_24 (by decide) (fun c10 => ?_) (fun c10 => ?_)
  · replace hh := (if_pos c10).symm.trans hh
    refine J_drop 0 (L' := [none, some (.int v1), some (.int v2), some (.int v3), some (.int v4), some (.int v5), some (.int v6), some (.int v7)]) rfl ?_
    refine J_drop 1 (L' := [none, none, some (.int v2), some (.int v3), some (.int v4), some (.int v5), some (.int v6), some (.int v7)]) rfl ?_
    refine J_drop 2 (L' := [none, none, none, some (.int v3), some (.int v4), some (.int v5), some (.int v6), some (.int v7)]) rfl ?_
    refine J_drop 3 (L' := [none, none, none, none, some (.int v4), some (.int v5), some (.int v6), some (.int v7)]) rfl ?_
    refine J_drop 4 (L' := [none, none, none, none, none, some (.int v5), some (.int v6), some (.int v7)]) rfl ?_
    refine J_drop 5 (L' := [none, none, none, none, none, none, some (.int v6), some (.int v7)]) rfl ?_
    refine J_drop 6 (L' := [none, none, none, none, none, none, none, some (.int v7)]) rfl ?_
    refine J_drop 7 (L' := [none, none, none, none, none, none, none, none]) rfl ?_
    obtain rfl := Option.some.inj hh
    exact hk
  · replace hh := (if_neg c10).symm.trans hh
    refine J_aload_n (pc := 27) dX3_firstBest_27 rfl ?_
    refine J_getR (pc := 28) (k := 1) flX3_15 so5 fk5_1 dX3_firstBest_28 ?_
    refine J_iload_n (pc := 31) dX3_firstBest_31 rfl ?_
    obtain ⟨h4, hh⟩ := gd_some hh
    refine J_iald (pc := 32) dX3_firstBest_32 sa7 h4 ?_
    refine J_iload (pc := 33) dX3_firstBest_33 rfl ?_
    refine J_ishr (pc := 35) dX3_firstBest_35 ?_
    refine J_iconst (pc := 36) dX3_firstBest_36 ci_1 ?_
    refine J_iand (pc := 37) dX3_firstBest_37 ?_
    refine J_if_eq (pc := 38) 62 dX3_firstBest_38 (by decide) (fun c9 => ?_) (fun c9 => ?_)
    · replace hh := (if_pos c9).symm.trans hh
      refine J_iincL (pc := 62) (v := v7 + (1 : Int32)) (fun x5 => [some (.ref 5), some (.int v1), some (.int v2), some (.int v3), some (.int v4), some (.int v5), some (.int v6), some (.int x5)]) dX3_firstBest_62 rfl rfl (Nat.le_of_ble_eq_true rfl) (congrArg _ ci_1) (fun _ => rfl) hh (fun x5 hh => ?_)
      refine J_goto (pc := 65) 20 dX3_firstBest_65 (by decide) ?_
      obtain rfl := Option.some.inj hh
      exact hk
    · replace hh := (if_neg c9).symm.trans hh
      refine J_aload_n (pc := 41) dX3_firstBest_41 rfl ?_
      refine J_iload_n (pc := 42) dX3_firstBest_42 rfl ?_
      refine J_iload (pc := 43) dX3_firstBest_43 rfl ?_
      refine J_iload_n (pc := 45) dX3_firstBest_45 rfl ?_
      refine J_iload_n (pc := 46) dX3_firstBest_46 rfl ?_
      refine J_iload (pc := 47) dX3_firstBest_47 rfl ?_
      refine J_iload (pc := 49) dX3_firstBest_49 rfl ?_
      obtain ⟨y6, hy6, hh⟩ := bd_some hh
      refine J_callVi (pc := 51) (M' := MX3_through) (a := 5) (rest := []) (As := [.int v1, .int v7, .int v2, .int v3, .int v4, .int v5]) (L0 := [some (.ref 5), some (.int v1), some (.int v7), some (.int v2), some (.int v3), some (.int v4), some (.int v5), none, none, none, none]) okX3_through ovX3_through mlX3_117 clX3 so5 rfl rfl (Nat.le_of_ble_eq_true rfl) dX3_firstBest_51 rfl (Nat.le_of_ble_eq_true rfl) (jX3_through (X := X) d s v1 v7 v2 v3 v4 v5 hy6) ?_
      refine J_iload (pc := 54) dX3_firstBest_54 rfl ?_
      refine J_icmp_ne (pc := 56) 62 dX3_firstBest_56 (by decide) (fun c8 => ?_) (fun c8 => ?_)
      · replace hh := (if_neg c8).symm.trans hh
        refine J_iincL (pc := 62) (v := v7 + (1 : Int32)) (fun x7 => [some (.ref 5), some (.int v1), some (.int v2), some (.int v3), some (.int v4), some (.int v5), some (.int v6), some (.int x7)]) dX3_firstBest_62 rfl rfl (Nat.le_of_ble_eq_true rfl) (congrArg _ ci_1) (fun _ => rfl) hh (fun x7 hh => ?_)
        refine J_goto (pc := 65) 20 dX3_firstBest_65 (by decide) ?_
        obtain rfl := Option.some.inj hh
        exact hk
      · replace hh := (if_pos c8).symm.trans hh
        refine J_iload (pc := 59) dX3_firstBest_59 rfl ?_
        obtain rfl := Option.some.inj hh
        obtain ⟨rfl, rfl⟩ := hk
        exact J_ret (w := some (.int v7)) ⟨dX3_firstBest_61, _, rfl, rfl⟩
def fX3_firstBest (s : Mem) (p0 : Int32) (p1 : Int32) (p2 : Int32) (p3 : Int32) (p4 : Int32) : Option Int32 :=
  (fX3_place p0 p1 p2 p3 p4).bind (fun y1 => gd y1 1596 (lt (s.1 6 y1.toNatClampNeg) (fun x3 => (lp (fun a => bX3_firstBest_20 s p0 p1 p2 p3 p4 x3 a) 600 (0 : Int32)).bind (fun y11 => Sum.elim (fun q13 => some q13) (fun t12 => some (0 : Int32)) y11))))
set_option maxRecDepth 4000 in
theorem jjX3_firstBest {X : Scr} (d : Nat) (s : Mem) (p0 : Int32) (p1 : Int32) (p2 : Int32) (p3 : Int32) (p4 : Int32) {r : Int32} {w : Option Value} {s' : Mem} (hh : fX3_firstBest s p0 p1 p2 p3 p4 = some r) (hk : w = some (.int r) ∧ s = s') : J X MX3_firstBest (d + 2) 0 [some (.ref 5), some (.int p0), some (.int p1), some (.int p2), some (.int p3), some (.int p4), none, none] [] s w s' := by
  unfold fX3_firstBest at hh
  refine J_aload_n (pc := 0) dX3_firstBest_0 rfl ?_
  refine J_getR (pc := 1) (k := 0) flX3_11 so5 fk5_0 dX3_firstBest_1 ?_
  refine J_iload_n (pc := 4) dX3_firstBest_4 rfl ?_
  refine J_iload_n (pc := 5) dX3_firstBest_5 rfl ?_
  refine J_iload_n (pc := 6) dX3_firstBest_6 rfl ?_
  refine J_iload (pc := 7) dX3_firstBest_7 rfl ?_
  refine J_iload (pc := 9) dX3_firstBest_9 rfl ?_
  obtain ⟨y1, hy1, hh⟩ := bd_some hh
  refine J_callSi (pc := 11) (M' := MX3_place) (rest := [.ref 6]) (As := [.int p0, .int p1, .int p2, .int p3, .int p4]) (L0 := [some (.int p0), some (.int p1), some (.int p2), some (.int p3), some (.int p4)]) okX3_place osX3_place mlX3_100 rfl rfl (Nat.le_of_ble_eq_true rfl) dX3_firstBest_11 rfl (Nat.le_of_ble_eq_true rfl) (jX3_place (X := X) (d + 1) s p0 p1 p2 p3 p4 hy1) ?_
  obtain ⟨h2, hh⟩ := gd_some hh
  refine J_iald (pc := 14) dX3_firstBest_14 sa6 h2 ?_
  refine J_istoreL (pc := 15) (fun x3 => [some (.ref 5), some (.int p0), some (.int p1), some (.int p2), some (.int p3), some (.int p4), some (.int x3), none]) dX3_firstBest_15 rfl (Nat.le_of_ble_eq_true rfl) (fun _ => rfl) hh (fun x3 hh => ?_)
  refine J_iconst (pc := 17) dX3_firstBest_17 ci_0 ?_
  refine J_istore (pc := 18) (L' := [some (.ref 5), some (.int p0), some (.int p1), some (.int p2), some (.int p3), some (.int p4), some (.int x3), some (.int (0 : Int32))]) dX3_firstBest_18 rfl (Nat.le_of_ble_eq_true rfl) rfl ?_
  obtain ⟨y11, hy11, hh⟩ := bd_some hh
  refine J_lp (a := (0 : Int32)) (fun a : Int32 => J X MX3_firstBest (d + 2) 20 [some (.ref 5), some (.int p0), some (.int p1), some (.int p2), some (.int p3), some (.int p4), some (.int x3), some (.int a)] [] s w s') (Sum.elim (fun q : Int32 => w = some (.int q) ∧ s = s') (fun t : Unit => J X MX3_firstBest (d + 2) 68 [none, none, none, none, none, none, none, none] [] s w s')) (fun a q h1 h2 => jbX3_firstBest_20 d s p0 p1 p2 p3 p4 x3 a h1 h2) hy11 ?_
  cases y11 with
  | inl q13 =>
    obtain rfl := Option.some.inj hh
    exact hk
  | inr t12 =>
    skip
    replace hh : (some (0 : Int32)) = some r := hh
    refine J_iconst (pc := 68) dX3_firstBest_68 ci_0 ?_
    obtain rfl := Option.some.inj hh
    obtain ⟨rfl, rfl⟩ := hk
    exact J_ret (w := some (.int (0 : Int32))) ⟨dX3_firstBest_69, _, rfl, rfl⟩
theorem jX3_firstBest {X : Scr} (d : Nat) (s : Mem) (p0 : Int32) (p1 : Int32) (p2 : Int32) (p3 : Int32) (p4 : Int32) {r : Int32} (hh : fX3_firstBest s p0 p1 p2 p3 p4 = some r) : J X MX3_firstBest (d + 2) 0 [some (.ref 5), some (.int p0), some (.int p1), some (.int p2), some (.int p3), some (.int p4), none, none] [] s (some (.int r)) s := jjX3_firstBest d s p0 p1 p2 p3 p4 hh ⟨rfl, rfl⟩
theorem dX3_walk_0 : decode cX3_walk 0 = .ok (.iconst 0, 1) := by decide +kernel
theorem dX3_walk_1 : decode cX3_walk 1 = .ok (.istore_n 1, 1) := by decide +kernel
theorem dX3_walk_2 : decode cX3_walk 2 = .ok (.iconst 0, 1) := by decide +kernel
theorem dX3_walk_3 : decode cX3_walk 3 = .ok (.istore_n 2, 1) := by decide +kernel
theorem dX3_walk_4 : decode cX3_walk 4 = .ok (.iconst 0, 1) := by decide +kernel
theorem dX3_walk_5 : decode cX3_walk 5 = .ok (.istore_n 3, 1) := by decide +kernel
theorem dX3_walk_6 : decode cX3_walk 6 = .ok (.iconst 0, 1) := by decide +kernel
theorem dX3_walk_7 : decode cX3_walk 7 = .ok (.istore 4, 2) := by decide +kernel
theorem dX3_walk_9 : decode cX3_walk 9 = .ok (.iconst 0, 1) := by decide +kernel
theorem dX3_walk_10 : decode cX3_walk 10 = .ok (.istore 5, 2) := by decide +kernel
theorem dX3_walk_12 : decode cX3_walk 12 = .ok (.iload 5, 2) := by decide +kernel
theorem dX3_walk_14 : decode cX3_walk 14 = .ok (.aload_n 0, 1) := by decide +kernel
theorem dX3_walk_15 : decode cX3_walk 15 = .ok (.getfield 43, 3) := by decide +kernel
theorem dX3_walk_18 : decode cX3_walk 18 = .ok (.if_icmp .ge 72, 3) := by decide +kernel
theorem dX3_walk_21 : decode cX3_walk 21 = .ok (.aload_n 0, 1) := by decide +kernel
theorem dX3_walk_22 : decode cX3_walk 22 = .ok (.iload 5, 2) := by decide +kernel
theorem dX3_walk_24 : decode cX3_walk 24 = .ok (.iload_n 1, 1) := by decide +kernel
theorem dX3_walk_25 : decode cX3_walk 25 = .ok (.iload_n 2, 1) := by decide +kernel
theorem dX3_walk_26 : decode cX3_walk 26 = .ok (.iload_n 3, 1) := by decide +kernel
theorem dX3_walk_27 : decode cX3_walk 27 = .ok (.iload 4, 2) := by decide +kernel
theorem dX3_walk_29 : decode cX3_walk 29 = .ok (.invokevirtual 131, 3) := by decide +kernel
theorem dX3_walk_32 : decode cX3_walk 32 = .ok (.istore 6, 2) := by decide +kernel
theorem dX3_walk_34 : decode cX3_walk 34 = .ok (.aload_n 0, 1) := by decide +kernel
theorem dX3_walk_35 : decode cX3_walk 35 = .ok (.getfield 21, 3) := by decide +kernel
theorem dX3_walk_38 : decode cX3_walk 38 = .ok (.iload 5, 2) := by decide +kernel
theorem dX3_walk_40 : decode cX3_walk 40 = .ok (.iload 6, 2) := by decide +kernel
theorem dX3_walk_42 : decode cX3_walk 42 = .ok (.iastore, 1) := by decide +kernel
theorem dX3_walk_43 : decode cX3_walk 43 = .ok (.iload 6, 2) := by decide +kernel
theorem dX3_walk_45 : decode cX3_walk 45 = .ok (.ifCond .eq 39, 3) := by decide +kernel
theorem dX3_walk_48 : decode cX3_walk 48 = .ok (.iinc 1 1, 3) := by decide +kernel
theorem dX3_walk_51 : decode cX3_walk 51 = .ok (.iload_n 2, 1) := by decide +kernel
theorem dX3_walk_52 : decode cX3_walk 52 = .ok (.iload 6, 2) := by decide +kernel
theorem dX3_walk_54 : decode cX3_walk 54 = .ok (.iconst 1, 1) := by decide +kernel
theorem dX3_walk_55 : decode cX3_walk 55 = .ok (.isub, 1) := by decide +kernel
theorem dX3_walk_56 : decode cX3_walk 56 = .ok (.iconst 2, 1) := by decide +kernel
theorem dX3_walk_57 : decode cX3_walk 57 = .ok (.ishr, 1) := by decide +kernel
theorem dX3_walk_58 : decode cX3_walk 58 = .ok (.iconst 1, 1) := by decide +kernel
theorem dX3_walk_59 : decode cX3_walk 59 = .ok (.iand, 1) := by decide +kernel
theorem dX3_walk_60 : decode cX3_walk 60 = .ok (.iadd, 1) := by decide +kernel
theorem dX3_walk_61 : decode cX3_walk 61 = .ok (.istore_n 2, 1) := by decide +kernel
theorem dX3_walk_62 : decode cX3_walk 62 = .ok (.iload_n 3, 1) := by decide +kernel
theorem dX3_walk_63 : decode cX3_walk 63 = .ok (.iload 6, 2) := by decide +kernel
theorem dX3_walk_65 : decode cX3_walk 65 = .ok (.iconst 1, 1) := by decide +kernel
theorem dX3_walk_66 : decode cX3_walk 66 = .ok (.isub, 1) := by decide +kernel
theorem dX3_walk_67 : decode cX3_walk 67 = .ok (.iconst 1, 1) := by decide +kernel
theorem dX3_walk_68 : decode cX3_walk 68 = .ok (.ishr, 1) := by decide +kernel
theorem dX3_walk_69 : decode cX3_walk 69 = .ok (.iconst 1, 1) := by decide +kernel
theorem dX3_walk_70 : decode cX3_walk 70 = .ok (.iand, 1) := by decide +kernel
theorem dX3_walk_71 : decode cX3_walk 71 = .ok (.iadd, 1) := by decide +kernel
theorem dX3_walk_72 : decode cX3_walk 72 = .ok (.istore_n 3, 1) := by decide +kernel
theorem dX3_walk_73 : decode cX3_walk 73 = .ok (.iload 4, 2) := by decide +kernel
theorem dX3_walk_75 : decode cX3_walk 75 = .ok (.iload 6, 2) := by decide +kernel
theorem dX3_walk_77 : decode cX3_walk 77 = .ok (.iconst 1, 1) := by decide +kernel
theorem dX3_walk_78 : decode cX3_walk 78 = .ok (.isub, 1) := by decide +kernel
theorem dX3_walk_79 : decode cX3_walk 79 = .ok (.iconst 1, 1) := by decide +kernel
theorem dX3_walk_80 : decode cX3_walk 80 = .ok (.iand, 1) := by decide +kernel
theorem dX3_walk_81 : decode cX3_walk 81 = .ok (.iadd, 1) := by decide +kernel
theorem dX3_walk_82 : decode cX3_walk 82 = .ok (.istore 4, 2) := by decide +kernel
theorem dX3_walk_84 : decode cX3_walk 84 = .ok (.iinc 5 1, 3) := by decide +kernel
theorem dX3_walk_87 : decode cX3_walk 87 = .ok (.goto (-75), 3) := by decide +kernel
theorem dX3_walk_90 : decode cX3_walk 90 = .ok (.return_, 1) := by decide +kernel
def bX3_walk_12 (s : Mem) (v1 : Int32) (v2 : Int32) (v3 : Int32) (v4 : Int32) (v5 : Int32) : Option (Mem ⊕ (Int32 × Int32 × Int32 × Int32 × Int32 × Mem)) :=
  if (s.1 5 6) ≤ v5 then some (Sum.inl s) else (fX3_firstBest s v5 v1 v2 v3 v4).bind (fun y1 => gd v5 6 (lt (up2 s 9 v5.toNatClampNeg y1) (fun s3 => if y1 = (0 : Int32) then lt (v5 + (1 : Int32)) (fun x4 => some (Sum.inr (v1, v2, v3, v4, x4, s3))) else lt (v1 + (1 : Int32)) (fun x5 => lt (v2 + (((y1 - (1 : Int32)) >>> ((2 : Int32) &&& 31)) &&& (1 : Int32))) (fun x6 => lt (v3 + (((y1 - (1 : Int32)) >>> ((1 : Int32) &&& 31)) &&& (1 : Int32))) (fun x7 => lt (v4 + ((y1 - (1 : Int32)) &&& (1 : Int32))) (fun x8 => lt (v5 + (1 : Int32)) (fun x9 => some (Sum.inr (x5, x6, x7, x8, x9, s3))))))))))
set_option maxRecDepth 4000 in
theorem jbX3_walk_12 {X : Scr} (d : Nat) (s : Mem) (v1 : Int32) (v2 : Int32) (v3 : Int32) (v4 : Int32) (v5 : Int32) {r : (Mem ⊕ (Int32 × Int32 × Int32 × Int32 × Int32 × Mem))} {w : Option Value} {s' : Mem} (hh : bX3_walk_12 s v1 v2 v3 v4 v5 = some r) (hk : Sum.elim (fun t : Mem => J X MX3_walk (d + 3) 90 [none, none, none, none, none, none, none] [] t w s') (fun a : (Int32 × Int32 × Int32 × Int32 × Int32 × Mem) => J X MX3_walk (d + 3) 12 [some (.ref 5), some (.int a.1), some (.int a.2.1), some (.int a.2.2.1), some (.int a.2.2.2.1), some (.int a.2.2.2.2.1), none] [] a.2.2.2.2.2 w s') r) : J X MX3_walk (d + 3) 12 [some (.ref 5), some (.int v1), some (.int v2), some (.int v3), some (.int v4), some (.int v5), none] [] s w s' := by
  unfold bX3_walk_12 at hh
  refine J_iload (pc := 12) dX3_walk_12 rfl ?_
  refine J_aload_n (pc := 14) dX3_walk_14 rfl ?_
  refine J_getI (pc := 15) (k := 6) flX3_43 so5 fk5_6 dX3_walk_15 ?_
  refine J_icmp_ge (pc := 18) 90 dX3_walk_18 (by decide) (fun c11 => ?_) (fun c11 => ?_)
  · replace hh := (if_pos c11).symm.trans hh
    refine J_drop 0 (L' := [none, some (.int v1), some (.int v2), some (.int v3), some (.int v4), some (.int v5), none]) rfl ?_
    refine J_drop 1 (L' := [none, none, some (.int v2), some (.int v3), some (.int v4), some (.int v5), none]) rfl ?_
    refine J_drop 2 (L' := [none, none, none, some (.int v3), some (.int v4), some (.int v5), none]) rfl ?_
    refine J_drop 3 (L' := [none, none, none, none, some (.int v4), some (.int v5), none]) rfl ?_
    refine J_drop 4 (L' := [none, none, none, none, none, some (.int v5), none]) rfl ?_
    refine J_drop 5 (L' := [none, none, none, none, none, none, none]) rfl ?_
    obtain rfl := Option.some.inj hh
    exact hk
  · replace hh := (if_neg c11).symm.trans hh
    refine J_aload_n (pc := 21) dX3_walk_21 rfl ?_
    refine J_iload (pc := 22) dX3_walk_22 rfl ?_
    refine J_iload_n (pc := 24) dX3_walk_24 rfl ?_
    refine J_iload_n (pc := 25) dX3_walk_25 rfl ?_
    refine J_iload_n (pc := 26) dX3_walk_26 rfl ?_
    refine J_iload (pc := 27) dX3_walk_27 rfl ?_
    obtain ⟨y1, hy1, hh⟩ := bd_some hh
    refine J_callVi (pc := 29) (M' := MX3_firstBest) (a := 5) (rest := []) (As := [.int v5, .int v1, .int v2, .int v3, .int v4]) (L0 := [some (.ref 5), some (.int v5), some (.int v1), some (.int v2), some (.int v3), some (.int v4), none, none]) okX3_firstBest ovX3_firstBest mlX3_131 clX3 so5 rfl rfl (Nat.le_of_ble_eq_true rfl) dX3_walk_29 rfl (Nat.le_of_ble_eq_true rfl) (jX3_firstBest (X := X) d s v5 v1 v2 v3 v4 hy1) ?_
    refine J_istore (pc := 32) (L' := [some (.ref 5), some (.int v1), some (.int v2), some (.int v3), some (.int v4), some (.int v5), some (.int y1)]) dX3_walk_32 rfl (Nat.le_of_ble_eq_true rfl) rfl ?_
    refine J_aload_n (pc := 34) dX3_walk_34 rfl ?_
    refine J_getR (pc := 35) (k := 3) flX3_21 so5 fk5_3 dX3_walk_35 ?_
    refine J_iload (pc := 38) dX3_walk_38 rfl ?_
    refine J_iload (pc := 40) dX3_walk_40 rfl ?_
    obtain ⟨h2, hh⟩ := gd_some hh
    refine J_iastL (pc := 42) dX3_walk_42 sa9 h2 hh (fun s3 hh => ?_)
    refine J_iload (pc := 43) dX3_walk_43 rfl ?_
    refine J_if_eq (pc := 45) 84 dX3_walk_45 (by decide) (fun c10 => ?_) (fun c10 => ?_)
    · replace hh := (if_pos c10).symm.trans hh
      refine J_iincL (pc := 84) (v := v5 + (1 : Int32)) (fun x4 => [some (.ref 5), some (.int v1), some (.int v2), some (.int v3), some (.int v4), some (.int x4), some (.int y1)]) dX3_walk_84 rfl rfl (Nat.le_of_ble_eq_true rfl) (congrArg _ ci_1) (fun _ => rfl) hh (fun x4 hh => ?_)
      refine J_goto (pc := 87) 12 dX3_walk_87 (by decide) ?_
      refine J_drop 6 (L' := [some (.ref 5), some (.int v1), some (.int v2), some (.int v3), some (.int v4), some (.int x4), none]) rfl ?_
      obtain rfl := Option.some.inj hh
      exact hk
    · replace hh := (if_neg c10).symm.trans hh
      refine J_iincL (pc := 48) (v := v1 + (1 : Int32)) (fun x5 => [some (.ref 5), some (.int x5), some (.int v2), some (.int v3), some (.int v4), some (.int v5), some (.int y1)]) dX3_walk_48 rfl rfl (Nat.le_of_ble_eq_true rfl) (congrArg _ ci_1) (fun _ => rfl) hh (fun x5 hh => ?_)
      refine J_iload_n (pc := 51) dX3_walk_51 rfl ?_
      refine J_iload (pc := 52) dX3_walk_52 rfl ?_
      refine J_iconst (pc := 54) dX3_walk_54 ci_1 ?_
      refine J_isub (pc := 55) dX3_walk_55 ?_
      refine J_iconst (pc := 56) dX3_walk_56 ci_2 ?_
      refine J_ishr (pc := 57) dX3_walk_57 ?_
      refine J_iconst (pc := 58) dX3_walk_58 ci_1 ?_
      refine J_iand (pc := 59) dX3_walk_59 ?_
      refine J_iadd (pc := 60) dX3_walk_60 ?_
      refine J_istoreL_n (pc := 61) (fun x6 => [some (.ref 5), some (.int x5), some (.int x6), some (.int v3), some (.int v4), some (.int v5), some (.int y1)]) dX3_walk_61 rfl (Nat.le_of_ble_eq_true rfl) (fun _ => rfl) hh (fun x6 hh => ?_)
      refine J_iload_n (pc := 62) dX3_walk_62 rfl ?_
      refine J_iload (pc := 63) dX3_walk_63 rfl ?_
      refine J_iconst (pc := 65) dX3_walk_65 ci_1 ?_
      refine J_isub (pc := 66) dX3_walk_66 ?_
      refine J_iconst (pc := 67) dX3_walk_67 ci_1 ?_
      refine J_ishr (pc := 68) dX3_walk_68 ?_
      refine J_iconst (pc := 69) dX3_walk_69 ci_1 ?_
      refine J_iand (pc := 70) dX3_walk_70 ?_
      refine J_iadd (pc := 71) dX3_walk_71 ?_
      refine J_istoreL_n (pc := 72) (fun x7 => [some (.ref 5), some (.int x5), some (.int x6), some (.int x7), some (.int v4), some (.int v5), some (.int y1)]) dX3_walk_72 rfl (Nat.le_of_ble_eq_true rfl) (fun _ => rfl) hh (fun x7 hh => ?_)
      refine J_iload (pc := 73) dX3_walk_73 rfl ?_
      refine J_iload (pc := 75) dX3_walk_75 rfl ?_
      refine J_iconst (pc := 77) dX3_walk_77 ci_1 ?_
      refine J_isub (pc := 78) dX3_walk_78 ?_
      refine J_iconst (pc := 79) dX3_walk_79 ci_1 ?_
      refine J_iand (pc := 80) dX3_walk_80 ?_
      refine J_iadd (pc := 81) dX3_walk_81 ?_
      refine J_istoreL (pc := 82) (fun x8 => [some (.ref 5), some (.int x5), some (.int x6), some (.int x7), some (.int x8), some (.int v5), some (.int y1)]) dX3_walk_82 rfl (Nat.le_of_ble_eq_true rfl) (fun _ => rfl) hh (fun x8 hh => ?_)
      refine J_iincL (pc := 84) (v := v5 + (1 : Int32)) (fun x9 => [some (.ref 5), some (.int x5), some (.int x6), some (.int x7), some (.int x8), some (.int x9), some (.int y1)]) dX3_walk_84 rfl rfl (Nat.le_of_ble_eq_true rfl) (congrArg _ ci_1) (fun _ => rfl) hh (fun x9 hh => ?_)
      refine J_goto (pc := 87) 12 dX3_walk_87 (by decide) ?_
      refine J_drop 6 (L' := [some (.ref 5), some (.int x5), some (.int x6), some (.int x7), some (.int x8), some (.int x9), none]) rfl ?_
      obtain rfl := Option.some.inj hh
      exact hk
def fX3_walk (s : Mem)  : Option Mem :=
  (lp (fun a => bX3_walk_12 a.2.2.2.2.2 a.1 a.2.1 a.2.2.1 a.2.2.2.1 a.2.2.2.2.1) 600 ((0 : Int32), (0 : Int32), (0 : Int32), (0 : Int32), (0 : Int32), s)).bind (fun y12 => some y12)
set_option maxRecDepth 4000 in
theorem jjX3_walk {X : Scr} (d : Nat) (s : Mem)  {r : Mem} {w : Option Value} {s' : Mem} (hh : fX3_walk s = some r) (hk : w = none ∧ r = s') : J X MX3_walk (d + 3) 0 [some (.ref 5), none, none, none, none, none, none] [] s w s' := by
  unfold fX3_walk at hh
  refine J_iconst (pc := 0) dX3_walk_0 ci_0 ?_
  refine J_istore_n (pc := 1) (L' := [some (.ref 5), some (.int (0 : Int32)), none, none, none, none, none]) dX3_walk_1 rfl (Nat.le_of_ble_eq_true rfl) rfl ?_
  refine J_iconst (pc := 2) dX3_walk_2 ci_0 ?_
  refine J_istore_n (pc := 3) (L' := [some (.ref 5), some (.int (0 : Int32)), some (.int (0 : Int32)), none, none, none, none]) dX3_walk_3 rfl (Nat.le_of_ble_eq_true rfl) rfl ?_
  refine J_iconst (pc := 4) dX3_walk_4 ci_0 ?_
  refine J_istore_n (pc := 5) (L' := [some (.ref 5), some (.int (0 : Int32)), some (.int (0 : Int32)), some (.int (0 : Int32)), none, none, none]) dX3_walk_5 rfl (Nat.le_of_ble_eq_true rfl) rfl ?_
  refine J_iconst (pc := 6) dX3_walk_6 ci_0 ?_
  refine J_istore (pc := 7) (L' := [some (.ref 5), some (.int (0 : Int32)), some (.int (0 : Int32)), some (.int (0 : Int32)), some (.int (0 : Int32)), none, none]) dX3_walk_7 rfl (Nat.le_of_ble_eq_true rfl) rfl ?_
  refine J_iconst (pc := 9) dX3_walk_9 ci_0 ?_
  refine J_istore (pc := 10) (L' := [some (.ref 5), some (.int (0 : Int32)), some (.int (0 : Int32)), some (.int (0 : Int32)), some (.int (0 : Int32)), some (.int (0 : Int32)), none]) dX3_walk_10 rfl (Nat.le_of_ble_eq_true rfl) rfl ?_
  obtain ⟨y12, hy12, hh⟩ := bd_some hh
  refine J_lp (a := ((0 : Int32), (0 : Int32), (0 : Int32), (0 : Int32), (0 : Int32), s)) (fun a : (Int32 × Int32 × Int32 × Int32 × Int32 × Mem) => J X MX3_walk (d + 3) 12 [some (.ref 5), some (.int a.1), some (.int a.2.1), some (.int a.2.2.1), some (.int a.2.2.2.1), some (.int a.2.2.2.2.1), none] [] a.2.2.2.2.2 w s') (fun t : Mem => J X MX3_walk (d + 3) 90 [none, none, none, none, none, none, none] [] t w s') (fun a q h1 h2 => jbX3_walk_12 d a.2.2.2.2.2 a.1 a.2.1 a.2.2.1 a.2.2.2.1 a.2.2.2.2.1 h1 h2) hy12 ?_
  obtain rfl := Option.some.inj hh
  obtain ⟨rfl, rfl⟩ := hk
  exact J_ret (w := none) ⟨dX3_walk_90, rfl⟩
theorem jX3_walk {X : Scr} (d : Nat) (s : Mem)  {r : Mem} (hh : fX3_walk s = some r) : J X MX3_walk (d + 3) 0 [some (.ref 5), none, none, none, none, none, none] [] s (none) r := jjX3_walk d s hh ⟨rfl, rfl⟩
theorem dX3_finds_0 : decode cX3_finds 0 = .ok (.aload_n 0, 1) := by decide +kernel
theorem dX3_finds_1 : decode cX3_finds 1 = .ok (.iconst 0, 1) := by decide +kernel
theorem dX3_finds_2 : decode cX3_finds 2 = .ok (.putfield 69, 3) := by decide +kernel
theorem dX3_finds_5 : decode cX3_finds 5 = .ok (.aload_n 0, 1) := by decide +kernel
theorem dX3_finds_6 : decode cX3_finds 6 = .ok (.iload_n 1, 1) := by decide +kernel
theorem dX3_finds_7 : decode cX3_finds 7 = .ok (.putfield 77, 3) := by decide +kernel
theorem dX3_finds_10 : decode cX3_finds 10 = .ok (.aload_n 0, 1) := by decide +kernel
theorem dX3_finds_11 : decode cX3_finds 11 = .ok (.iload_n 2, 1) := by decide +kernel
theorem dX3_finds_12 : decode cX3_finds 12 = .ok (.putfield 80, 3) := by decide +kernel
theorem dX3_finds_15 : decode cX3_finds 15 = .ok (.aload_n 0, 1) := by decide +kernel
theorem dX3_finds_16 : decode cX3_finds 16 = .ok (.iload_n 3, 1) := by decide +kernel
theorem dX3_finds_17 : decode cX3_finds 17 = .ok (.putfield 83, 3) := by decide +kernel
theorem dX3_finds_20 : decode cX3_finds 20 = .ok (.aload_n 0, 1) := by decide +kernel
theorem dX3_finds_21 : decode cX3_finds 21 = .ok (.getfield 43, 3) := by decide +kernel
theorem dX3_finds_24 : decode cX3_finds 24 = .ok (.istore 4, 2) := by decide +kernel
theorem dX3_finds_26 : decode cX3_finds 26 = .ok (.iload 4, 2) := by decide +kernel
theorem dX3_finds_28 : decode cX3_finds 28 = .ok (.ifCond .lt 15, 3) := by decide +kernel
theorem dX3_finds_31 : decode cX3_finds 31 = .ok (.aload_n 0, 1) := by decide +kernel
theorem dX3_finds_32 : decode cX3_finds 32 = .ok (.iload 4, 2) := by decide +kernel
theorem dX3_finds_34 : decode cX3_finds 34 = .ok (.invokevirtual 73, 3) := by decide +kernel
theorem dX3_finds_37 : decode cX3_finds 37 = .ok (.iinc 4 (-1), 3) := by decide +kernel
theorem dX3_finds_40 : decode cX3_finds 40 = .ok (.goto (-14), 3) := by decide +kernel
theorem dX3_finds_43 : decode cX3_finds 43 = .ok (.aload_n 0, 1) := by decide +kernel
theorem dX3_finds_44 : decode cX3_finds 44 = .ok (.getfield 11, 3) := by decide +kernel
theorem dX3_finds_47 : decode cX3_finds 47 = .ok (.iconst 0, 1) := by decide +kernel
theorem dX3_finds_48 : decode cX3_finds 48 = .ok (.iaload, 1) := by decide +kernel
theorem dX3_finds_49 : decode cX3_finds 49 = .ok (.ldc 86, 2) := by decide +kernel
theorem dX3_finds_51 : decode cX3_finds 51 = .ok (.if_icmp .ne 5, 3) := by decide +kernel
theorem dX3_finds_54 : decode cX3_finds 54 = .ok (.iconst 0, 1) := by decide +kernel
theorem dX3_finds_55 : decode cX3_finds 55 = .ok (.ireturn, 1) := by decide +kernel
theorem dX3_finds_56 : decode cX3_finds 56 = .ok (.aload_n 0, 1) := by decide +kernel
theorem dX3_finds_57 : decode cX3_finds 57 = .ok (.invokevirtual 87, 3) := by decide +kernel
theorem dX3_finds_60 : decode cX3_finds 60 = .ok (.iconst 1, 1) := by decide +kernel
theorem dX3_finds_61 : decode cX3_finds 61 = .ok (.ireturn, 1) := by decide +kernel
def bX3_finds_26 (s : Mem) (v4 : Int32) : Option (Mem ⊕ (Int32 × Mem)) :=
  if v4 < (0 : Int32) then some (Sum.inl s) else (fX3_fillLayer s v4).bind (fun y6 => lt (v4 + (-1 : Int32)) (fun x7 => some (Sum.inr (x7, y6))))
set_option maxRecDepth 4000 in
theorem jbX3_finds_26 {X : Scr} (d : Nat) (s : Mem) (v4 : Int32) {r : (Mem ⊕ (Int32 × Mem))} {w : Option Value} {s' : Mem} (hh : bX3_finds_26 s v4 = some r) (hk : Sum.elim (fun t : Mem => J X MX3_finds (d + 4) 43 [some (.ref 5), none, none, none, none] [] t w s') (fun a : (Int32 × Mem) => J X MX3_finds (d + 4) 26 [some (.ref 5), none, none, none, some (.int a.1)] [] a.2 w s') r) : J X MX3_finds (d + 4) 26 [some (.ref 5), none, none, none, some (.int v4)] [] s w s' := by
  unfold bX3_finds_26 at hh
  refine J_iload (pc := 26) dX3_finds_26 rfl ?_
  refine J_if_lt (pc := 28) 43 dX3_finds_28 (by decide) (fun c8 => ?_) (fun c8 => ?_)
  · replace hh := (if_pos c8).symm.trans hh
    refine J_drop 4 (L' := [some (.ref 5), none, none, none, none]) rfl ?_
    obtain rfl := Option.some.inj hh
    exact hk
  · replace hh := (if_neg c8).symm.trans hh
    refine J_aload_n (pc := 31) dX3_finds_31 rfl ?_
    refine J_iload (pc := 32) dX3_finds_32 rfl ?_
    obtain ⟨y6, hy6, hh⟩ := bd_some hh
    refine J_callV0 (pc := 34) (M' := MX3_fillLayer) (a := 5) (rest := []) (As := [.int v4]) (L0 := [some (.ref 5), some (.int v4), none, none, none, none, none, none, none]) okX3_fillLayer ovX3_fillLayer mlX3_73 clX3 so5 rfl rfl (Nat.le_of_ble_eq_true rfl) dX3_finds_34 rfl (Nat.le_of_ble_eq_true rfl) (jX3_fillLayer (X := X) d s v4 hy6) ?_
    refine J_iincL (pc := 37) (v := v4 + (-1 : Int32)) (fun x7 => [some (.ref 5), none, none, none, some (.int x7)]) dX3_finds_37 rfl rfl (Nat.le_of_ble_eq_true rfl) (congrArg _ ci_m1) (fun _ => rfl) hh (fun x7 hh => ?_)
    refine J_goto (pc := 40) 26 dX3_finds_40 (by decide) ?_
    obtain rfl := Option.some.inj hh
    exact hk
def fX3_finds (s : Mem) (p0 : Int32) (p1 : Int32) (p2 : Int32) : Option (Int32 × Mem) :=
  lt (up2 s 5 8 (0 : Int32)) (fun s1 => lt (up2 s1 5 9 p0) (fun s2 => lt (up2 s2 5 10 p1) (fun s3 => lt (up2 s3 5 11 p2) (fun s4 => lt (s4.1 5 6) (fun x5 => (lp (fun a => bX3_finds_26 a.2 a.1) 600 (x5, s4)).bind (fun y9 => gd (0 : Int32) 1596 (if (y9.1 6 (0 : Int32).toNatClampNeg) = (-1000000000 : Int32) then some (((0 : Int32), y9)) else (fX3_walk y9).bind (fun y11 => some (((1 : Int32), y11))))))))))
set_option maxRecDepth 4000 in
theorem jjX3_finds {X : Scr} (d : Nat) (s : Mem) (p0 : Int32) (p1 : Int32) (p2 : Int32) {r : (Int32 × Mem)} {w : Option Value} {s' : Mem} (hh : fX3_finds s p0 p1 p2 = some r) (hk : w = some (.int r.1) ∧ r.2 = s') : J X MX3_finds (d + 4) 0 [some (.ref 5), some (.int p0), some (.int p1), some (.int p2), none] [] s w s' := by
  unfold fX3_finds at hh
  refine J_aload_n (pc := 0) dX3_finds_0 rfl ?_
  refine J_iconst (pc := 1) dX3_finds_1 ci_0 ?_
  refine J_putIL (pc := 2) (k := 8) fpX3_69 so5 fk5_8 rfl rfl dX3_finds_2 hh (fun s1 hh => ?_)
  refine J_aload_n (pc := 5) dX3_finds_5 rfl ?_
  refine J_iload_n (pc := 6) dX3_finds_6 rfl ?_
  refine J_putIL (pc := 7) (k := 9) fpX3_77 so5 fk5_9 rfl rfl dX3_finds_7 hh (fun s2 hh => ?_)
  refine J_aload_n (pc := 10) dX3_finds_10 rfl ?_
  refine J_iload_n (pc := 11) dX3_finds_11 rfl ?_
  refine J_putIL (pc := 12) (k := 10) fpX3_80 so5 fk5_10 rfl rfl dX3_finds_12 hh (fun s3 hh => ?_)
  refine J_aload_n (pc := 15) dX3_finds_15 rfl ?_
  refine J_iload_n (pc := 16) dX3_finds_16 rfl ?_
  refine J_putIL (pc := 17) (k := 11) fpX3_83 so5 fk5_11 rfl rfl dX3_finds_17 hh (fun s4 hh => ?_)
  refine J_aload_n (pc := 20) dX3_finds_20 rfl ?_
  refine J_getI (pc := 21) (k := 6) flX3_43 so5 fk5_6 dX3_finds_21 ?_
  refine J_istoreL (pc := 24) (fun x5 => [some (.ref 5), some (.int p0), some (.int p1), some (.int p2), some (.int x5)]) dX3_finds_24 rfl (Nat.le_of_ble_eq_true rfl) (fun _ => rfl) hh (fun x5 hh => ?_)
  refine J_drop 1 (L' := [some (.ref 5), none, some (.int p1), some (.int p2), some (.int x5)]) rfl ?_
  refine J_drop 2 (L' := [some (.ref 5), none, none, some (.int p2), some (.int x5)]) rfl ?_
  refine J_drop 3 (L' := [some (.ref 5), none, none, none, some (.int x5)]) rfl ?_
  obtain ⟨y9, hy9, hh⟩ := bd_some hh
  refine J_lp (a := (x5, s4)) (fun a : (Int32 × Mem) => J X MX3_finds (d + 4) 26 [some (.ref 5), none, none, none, some (.int a.1)] [] a.2 w s') (fun t : Mem => J X MX3_finds (d + 4) 43 [some (.ref 5), none, none, none, none] [] t w s') (fun a q h1 h2 => jbX3_finds_26 d a.2 a.1 h1 h2) hy9 ?_
  refine J_aload_n (pc := 43) dX3_finds_43 rfl ?_
  refine J_getR (pc := 44) (k := 0) flX3_11 so5 fk5_0 dX3_finds_44 ?_
  refine J_iconst (pc := 47) dX3_finds_47 ci_0 ?_
  obtain ⟨h10, hh⟩ := gd_some hh
  refine J_iald (pc := 48) dX3_finds_48 sa6 h10 ?_
  refine J_ldc (pc := 49) kcX3_86 dX3_finds_49 ?_
  refine J_icmp_ne (pc := 51) 56 dX3_finds_51 (by decide) (fun c12 => ?_) (fun c12 => ?_)
  · replace hh := (if_neg c12).symm.trans hh
    refine J_aload_n (pc := 56) dX3_finds_56 rfl ?_
    obtain ⟨y11, hy11, hh⟩ := bd_some hh
    refine J_callV0 (pc := 57) (M' := MX3_walk) (a := 5) (rest := []) (As := []) (L0 := [some (.ref 5), none, none, none, none, none, none]) okX3_walk ovX3_walk mlX3_87 clX3 so5 rfl rfl (Nat.le_of_ble_eq_true rfl) dX3_finds_57 rfl (Nat.le_of_ble_eq_true rfl) (jX3_walk (X := X) d y9 hy11) ?_
    refine J_iconst (pc := 60) dX3_finds_60 ci_1 ?_
    obtain rfl := Option.some.inj hh
    obtain ⟨rfl, rfl⟩ := hk
    exact J_ret (w := some (.int (1 : Int32))) ⟨dX3_finds_61, _, rfl, rfl⟩
  · replace hh := (if_pos c12).symm.trans hh
    refine J_iconst (pc := 54) dX3_finds_54 ci_0 ?_
    obtain rfl := Option.some.inj hh
    obtain ⟨rfl, rfl⟩ := hk
    exact J_ret (w := some (.int (0 : Int32))) ⟨dX3_finds_55, _, rfl, rfl⟩
theorem jX3_finds {X : Scr} (d : Nat) (s : Mem) (p0 : Int32) (p1 : Int32) (p2 : Int32) {r : (Int32 × Mem)} (hh : fX3_finds s p0 p1 p2 = some r) : J X MX3_finds (d + 4) 0 [some (.ref 5), some (.int p0), some (.int p1), some (.int p2), none] [] s (some (.int r.1)) r.2 := jjX3_finds d s p0 p1 p2 hh ⟨rfl, rfl⟩
theorem dX3_seated_0 : decode cX3_seated 0 = .ok (.iconst 0, 1) := by decide +kernel
theorem dX3_seated_1 : decode cX3_seated 1 = .ok (.istore_n 1, 1) := by decide +kernel
theorem dX3_seated_2 : decode cX3_seated 2 = .ok (.iconst 0, 1) := by decide +kernel
theorem dX3_seated_3 : decode cX3_seated 3 = .ok (.istore_n 2, 1) := by decide +kernel
theorem dX3_seated_4 : decode cX3_seated 4 = .ok (.iload_n 2, 1) := by decide +kernel
theorem dX3_seated_5 : decode cX3_seated 5 = .ok (.aload_n 0, 1) := by decide +kernel
theorem dX3_seated_6 : decode cX3_seated 6 = .ok (.getfield 43, 3) := by decide +kernel
theorem dX3_seated_9 : decode cX3_seated 9 = .ok (.if_icmp .ge 21, 3) := by decide +kernel
theorem dX3_seated_12 : decode cX3_seated 12 = .ok (.aload_n 0, 1) := by decide +kernel
theorem dX3_seated_13 : decode cX3_seated 13 = .ok (.getfield 21, 3) := by decide +kernel
theorem dX3_seated_16 : decode cX3_seated 16 = .ok (.iload_n 2, 1) := by decide +kernel
theorem dX3_seated_17 : decode cX3_seated 17 = .ok (.iaload, 1) := by decide +kernel
theorem dX3_seated_18 : decode cX3_seated 18 = .ok (.ifCond .eq 6, 3) := by decide +kernel
theorem dX3_seated_21 : decode cX3_seated 21 = .ok (.iinc 1 1, 3) := by decide +kernel
theorem dX3_seated_24 : decode cX3_seated 24 = .ok (.iinc 2 1, 3) := by decide +kernel
theorem dX3_seated_27 : decode cX3_seated 27 = .ok (.goto (-23), 3) := by decide +kernel
theorem dX3_seated_30 : decode cX3_seated 30 = .ok (.iload_n 1, 1) := by decide +kernel
theorem dX3_seated_31 : decode cX3_seated 31 = .ok (.ireturn, 1) := by decide +kernel
def bX3_seated_4 (s : Mem) (v1 : Int32) (v2 : Int32) : Option (Int32 ⊕ (Int32 × Int32)) :=
  if (s.1 5 6) ≤ v2 then some (Sum.inl v1) else gd v2 6 (if (s.1 9 v2.toNatClampNeg) = (0 : Int32) then lt (v2 + (1 : Int32)) (fun x2 => some (Sum.inr (v1, x2))) else lt (v1 + (1 : Int32)) (fun x3 => lt (v2 + (1 : Int32)) (fun x4 => some (Sum.inr (x3, x4)))))
set_option maxRecDepth 4000 in
theorem jbX3_seated_4 {X : Scr} (d : Nat) (s : Mem) (v1 : Int32) (v2 : Int32) {r : (Int32 ⊕ (Int32 × Int32))} {w : Option Value} {s' : Mem} (hh : bX3_seated_4 s v1 v2 = some r) (hk : Sum.elim (fun t : Int32 => J X MX3_seated (d + 0) 30 [none, some (.int t), none] [] s w s') (fun a : (Int32 × Int32) => J X MX3_seated (d + 0) 4 [some (.ref 5), some (.int a.1), some (.int a.2)] [] s w s') r) : J X MX3_seated (d + 0) 4 [some (.ref 5), some (.int v1), some (.int v2)] [] s w s' := by
  unfold bX3_seated_4 at hh
  refine J_iload_n (pc := 4) dX3_seated_4 rfl ?_
  refine J_aload_n (pc := 5) dX3_seated_5 rfl ?_
  refine J_getI (pc := 6) (k := 6) flX3_43 so5 fk5_6 dX3_seated_6 ?_
  refine J_icmp_ge (pc := 9) 30 dX3_seated_9 (by decide) (fun c6 => ?_) (fun c6 => ?_)
  · replace hh := (if_pos c6).symm.trans hh
    refine J_drop 0 (L' := [none, some (.int v1), some (.int v2)]) rfl ?_
    refine J_drop 2 (L' := [none, some (.int v1), none]) rfl ?_
    obtain rfl := Option.some.inj hh
    exact hk
  · replace hh := (if_neg c6).symm.trans hh
    refine J_aload_n (pc := 12) dX3_seated_12 rfl ?_
    refine J_getR (pc := 13) (k := 3) flX3_21 so5 fk5_3 dX3_seated_13 ?_
    refine J_iload_n (pc := 16) dX3_seated_16 rfl ?_
    obtain ⟨h1, hh⟩ := gd_some hh
    refine J_iald (pc := 17) dX3_seated_17 sa9 h1 ?_
    refine J_if_eq (pc := 18) 24 dX3_seated_18 (by decide) (fun c5 => ?_) (fun c5 => ?_)
    · replace hh := (if_pos c5).symm.trans hh
      refine J_iincL (pc := 24) (v := v2 + (1 : Int32)) (fun x2 => [some (.ref 5), some (.int v1), some (.int x2)]) dX3_seated_24 rfl rfl (Nat.le_of_ble_eq_true rfl) (congrArg _ ci_1) (fun _ => rfl) hh (fun x2 hh => ?_)
      refine J_goto (pc := 27) 4 dX3_seated_27 (by decide) ?_
      obtain rfl := Option.some.inj hh
      exact hk
    · replace hh := (if_neg c5).symm.trans hh
      refine J_iincL (pc := 21) (v := v1 + (1 : Int32)) (fun x3 => [some (.ref 5), some (.int x3), some (.int v2)]) dX3_seated_21 rfl rfl (Nat.le_of_ble_eq_true rfl) (congrArg _ ci_1) (fun _ => rfl) hh (fun x3 hh => ?_)
      refine J_iincL (pc := 24) (v := v2 + (1 : Int32)) (fun x4 => [some (.ref 5), some (.int x3), some (.int x4)]) dX3_seated_24 rfl rfl (Nat.le_of_ble_eq_true rfl) (congrArg _ ci_1) (fun _ => rfl) hh (fun x4 hh => ?_)
      refine J_goto (pc := 27) 4 dX3_seated_27 (by decide) ?_
      obtain rfl := Option.some.inj hh
      exact hk
def fX3_seated (s : Mem)  : Option Int32 :=
  (lp (fun a => bX3_seated_4 s a.1 a.2) 600 ((0 : Int32), (0 : Int32))).bind (fun y7 => some y7)
set_option maxRecDepth 4000 in
theorem jjX3_seated {X : Scr} (d : Nat) (s : Mem)  {r : Int32} {w : Option Value} {s' : Mem} (hh : fX3_seated s = some r) (hk : w = some (.int r) ∧ s = s') : J X MX3_seated (d + 0) 0 [some (.ref 5), none, none] [] s w s' := by
  unfold fX3_seated at hh
  refine J_iconst (pc := 0) dX3_seated_0 ci_0 ?_
  refine J_istore_n (pc := 1) (L' := [some (.ref 5), some (.int (0 : Int32)), none]) dX3_seated_1 rfl (Nat.le_of_ble_eq_true rfl) rfl ?_
  refine J_iconst (pc := 2) dX3_seated_2 ci_0 ?_
  refine J_istore_n (pc := 3) (L' := [some (.ref 5), some (.int (0 : Int32)), some (.int (0 : Int32))]) dX3_seated_3 rfl (Nat.le_of_ble_eq_true rfl) rfl ?_
  obtain ⟨y7, hy7, hh⟩ := bd_some hh
  refine J_lp (a := ((0 : Int32), (0 : Int32))) (fun a : (Int32 × Int32) => J X MX3_seated (d + 0) 4 [some (.ref 5), some (.int a.1), some (.int a.2)] [] s w s') (fun t : Int32 => J X MX3_seated (d + 0) 30 [none, some (.int t), none] [] s w s') (fun a q h1 h2 => jbX3_seated_4 d s a.1 a.2 h1 h2) hy7 ?_
  refine J_iload_n (pc := 30) dX3_seated_30 rfl ?_
  obtain rfl := Option.some.inj hh
  obtain ⟨rfl, rfl⟩ := hk
  exact J_ret (w := some (.int y7)) ⟨dX3_seated_31, _, rfl, rfl⟩
theorem jX3_seated {X : Scr} (d : Nat) (s : Mem)  {r : Int32} (hh : fX3_seated s = some r) : J X MX3_seated (d + 0) 0 [some (.ref 5), none, none] [] s (some (.int r)) s := jjX3_seated d s hh ⟨rfl, rfl⟩
theorem dX3_moved_0 : decode cX3_moved 0 = .ok (.iconst 0, 1) := by decide +kernel
theorem dX3_moved_1 : decode cX3_moved 1 = .ok (.istore_n 1, 1) := by decide +kernel
theorem dX3_moved_2 : decode cX3_moved 2 = .ok (.iconst 0, 1) := by decide +kernel
theorem dX3_moved_3 : decode cX3_moved 3 = .ok (.istore_n 2, 1) := by decide +kernel
theorem dX3_moved_4 : decode cX3_moved 4 = .ok (.iload_n 2, 1) := by decide +kernel
theorem dX3_moved_5 : decode cX3_moved 5 = .ok (.aload_n 0, 1) := by decide +kernel
theorem dX3_moved_6 : decode cX3_moved 6 = .ok (.getfield 43, 3) := by decide +kernel
theorem dX3_moved_9 : decode cX3_moved 9 = .ok (.if_icmp .ge 36, 3) := by decide +kernel
theorem dX3_moved_12 : decode cX3_moved 12 = .ok (.aload_n 0, 1) := by decide +kernel
theorem dX3_moved_13 : decode cX3_moved 13 = .ok (.getfield 18, 3) := by decide +kernel
theorem dX3_moved_16 : decode cX3_moved 16 = .ok (.iload_n 2, 1) := by decide +kernel
theorem dX3_moved_17 : decode cX3_moved 17 = .ok (.iaload, 1) := by decide +kernel
theorem dX3_moved_18 : decode cX3_moved 18 = .ok (.ifCond .eq 21, 3) := by decide +kernel
theorem dX3_moved_21 : decode cX3_moved 21 = .ok (.aload_n 0, 1) := by decide +kernel
theorem dX3_moved_22 : decode cX3_moved 22 = .ok (.getfield 21, 3) := by decide +kernel
theorem dX3_moved_25 : decode cX3_moved 25 = .ok (.iload_n 2, 1) := by decide +kernel
theorem dX3_moved_26 : decode cX3_moved 26 = .ok (.iaload, 1) := by decide +kernel
theorem dX3_moved_27 : decode cX3_moved 27 = .ok (.aload_n 0, 1) := by decide +kernel
theorem dX3_moved_28 : decode cX3_moved 28 = .ok (.getfield 18, 3) := by decide +kernel
theorem dX3_moved_31 : decode cX3_moved 31 = .ok (.iload_n 2, 1) := by decide +kernel
theorem dX3_moved_32 : decode cX3_moved 32 = .ok (.iaload, 1) := by decide +kernel
theorem dX3_moved_33 : decode cX3_moved 33 = .ok (.if_icmp .eq 6, 3) := by decide +kernel
theorem dX3_moved_36 : decode cX3_moved 36 = .ok (.iinc 1 1, 3) := by decide +kernel
theorem dX3_moved_39 : decode cX3_moved 39 = .ok (.iinc 2 1, 3) := by decide +kernel
theorem dX3_moved_42 : decode cX3_moved 42 = .ok (.goto (-38), 3) := by decide +kernel
theorem dX3_moved_45 : decode cX3_moved 45 = .ok (.iload_n 1, 1) := by decide +kernel
theorem dX3_moved_46 : decode cX3_moved 46 = .ok (.ireturn, 1) := by decide +kernel
def bX3_moved_4 (s : Mem) (v1 : Int32) (v2 : Int32) : Option (Int32 ⊕ (Int32 × Int32)) :=
  if (s.1 5 6) ≤ v2 then some (Sum.inl v1) else gd v2 6 (if (s.1 8 v2.toNatClampNeg) = (0 : Int32) then lt (v2 + (1 : Int32)) (fun x2 => some (Sum.inr (v1, x2))) else gd v2 6 (gd v2 6 (if (s.1 9 v2.toNatClampNeg) = (s.1 8 v2.toNatClampNeg) then lt (v2 + (1 : Int32)) (fun x5 => some (Sum.inr (v1, x5))) else lt (v1 + (1 : Int32)) (fun x6 => lt (v2 + (1 : Int32)) (fun x7 => some (Sum.inr (x6, x7)))))))
set_option maxRecDepth 4000 in
theorem jbX3_moved_4 {X : Scr} (d : Nat) (s : Mem) (v1 : Int32) (v2 : Int32) {r : (Int32 ⊕ (Int32 × Int32))} {w : Option Value} {s' : Mem} (hh : bX3_moved_4 s v1 v2 = some r) (hk : Sum.elim (fun t : Int32 => J X MX3_moved (d + 0) 45 [none, some (.int t), none] [] s w s') (fun a : (Int32 × Int32) => J X MX3_moved (d + 0) 4 [some (.ref 5), some (.int a.1), some (.int a.2)] [] s w s') r) : J X MX3_moved (d + 0) 4 [some (.ref 5), some (.int v1), some (.int v2)] [] s w s' := by
  unfold bX3_moved_4 at hh
  refine J_iload_n (pc := 4) dX3_moved_4 rfl ?_
  refine J_aload_n (pc := 5) dX3_moved_5 rfl ?_
  refine J_getI (pc := 6) (k := 6) flX3_43 so5 fk5_6 dX3_moved_6 ?_
  refine J_icmp_ge (pc := 9) 45 dX3_moved_9 (by decide) (fun c10 => ?_) (fun c10 => ?_)
  · replace hh := (if_pos c10).symm.trans hh
    refine J_drop 0 (L' := [none, some (.int v1), some (.int v2)]) rfl ?_
    refine J_drop 2 (L' := [none, some (.int v1), none]) rfl ?_
    obtain rfl := Option.some.inj hh
    exact hk
  · replace hh := (if_neg c10).symm.trans hh
    refine J_aload_n (pc := 12) dX3_moved_12 rfl ?_
    refine J_getR (pc := 13) (k := 2) flX3_18 so5 fk5_2 dX3_moved_13 ?_
    refine J_iload_n (pc := 16) dX3_moved_16 rfl ?_
    obtain ⟨h1, hh⟩ := gd_some hh
    refine J_iald (pc := 17) dX3_moved_17 sa8 h1 ?_
    refine J_if_eq (pc := 18) 39 dX3_moved_18 (by decide) (fun c9 => ?_) (fun c9 => ?_)
    · replace hh := (if_pos c9).symm.trans hh
      refine J_iincL (pc := 39) (v := v2 + (1 : Int32)) (fun x2 => [some (.ref 5), some (.int v1), some (.int x2)]) dX3_moved_39 rfl rfl (Nat.le_of_ble_eq_true rfl) (congrArg _ ci_1) (fun _ => rfl) hh (fun x2 hh => ?_)
      refine J_goto (pc := 42) 4 dX3_moved_42 (by decide) ?_
      obtain rfl := Option.some.inj hh
      exact hk
    · replace hh := (if_neg c9).symm.trans hh
      refine J_aload_n (pc := 21) dX3_moved_21 rfl ?_
      refine J_getR (pc := 22) (k := 3) flX3_21 so5 fk5_3 dX3_moved_22 ?_
      refine J_iload_n (pc := 25) dX3_moved_25 rfl ?_
      obtain ⟨h3, hh⟩ := gd_some hh
      refine J_iald (pc := 26) dX3_moved_26 sa9 h3 ?_
      refine J_aload_n (pc := 27) dX3_moved_27 rfl ?_
      refine J_getR (pc := 28) (k := 2) flX3_18 so5 fk5_2 dX3_moved_28 ?_
      refine J_iload_n (pc := 31) dX3_moved_31 rfl ?_
      obtain ⟨h4, hh⟩ := gd_some hh
      refine J_iald (pc := 32) dX3_moved_32 sa8 h4 ?_
      refine J_icmp_eq (pc := 33) 39 dX3_moved_33 (by decide) (fun c8 => ?_) (fun c8 => ?_)
      · replace hh := (if_pos c8).symm.trans hh
        refine J_iincL (pc := 39) (v := v2 + (1 : Int32)) (fun x5 => [some (.ref 5), some (.int v1), some (.int x5)]) dX3_moved_39 rfl rfl (Nat.le_of_ble_eq_true rfl) (congrArg _ ci_1) (fun _ => rfl) hh (fun x5 hh => ?_)
        refine J_goto (pc := 42) 4 dX3_moved_42 (by decide) ?_
        obtain rfl := Option.some.inj hh
        exact hk
      · replace hh := (if_neg c8).symm.trans hh
        refine J_iincL (pc := 36) (v := v1 + (1 : Int32)) (fun x6 => [some (.ref 5), some (.int x6), some (.int v2)]) dX3_moved_36 rfl rfl (Nat.le_of_ble_eq_true rfl) (congrArg _ ci_1) (fun _ => rfl) hh (fun x6 hh => ?_)
        refine J_iincL (pc := 39) (v := v2 + (1 : Int32)) (fun x7 => [some (.ref 5), some (.int x6), some (.int x7)]) dX3_moved_39 rfl rfl (Nat.le_of_ble_eq_true rfl) (congrArg _ ci_1) (fun _ => rfl) hh (fun x7 hh => ?_)
        refine J_goto (pc := 42) 4 dX3_moved_42 (by decide) ?_
        obtain rfl := Option.some.inj hh
        exact hk
def fX3_moved (s : Mem)  : Option Int32 :=
  (lp (fun a => bX3_moved_4 s a.1 a.2) 600 ((0 : Int32), (0 : Int32))).bind (fun y11 => some y11)
set_option maxRecDepth 4000 in
theorem jjX3_moved {X : Scr} (d : Nat) (s : Mem)  {r : Int32} {w : Option Value} {s' : Mem} (hh : fX3_moved s = some r) (hk : w = some (.int r) ∧ s = s') : J X MX3_moved (d + 0) 0 [some (.ref 5), none, none] [] s w s' := by
  unfold fX3_moved at hh
  refine J_iconst (pc := 0) dX3_moved_0 ci_0 ?_
  refine J_istore_n (pc := 1) (L' := [some (.ref 5), some (.int (0 : Int32)), none]) dX3_moved_1 rfl (Nat.le_of_ble_eq_true rfl) rfl ?_
  refine J_iconst (pc := 2) dX3_moved_2 ci_0 ?_
  refine J_istore_n (pc := 3) (L' := [some (.ref 5), some (.int (0 : Int32)), some (.int (0 : Int32))]) dX3_moved_3 rfl (Nat.le_of_ble_eq_true rfl) rfl ?_
  obtain ⟨y11, hy11, hh⟩ := bd_some hh
  refine J_lp (a := ((0 : Int32), (0 : Int32))) (fun a : (Int32 × Int32) => J X MX3_moved (d + 0) 4 [some (.ref 5), some (.int a.1), some (.int a.2)] [] s w s') (fun t : Int32 => J X MX3_moved (d + 0) 45 [none, some (.int t), none] [] s w s') (fun a q h1 h2 => jbX3_moved_4 d s a.1 a.2 h1 h2) hy11 ?_
  refine J_iload_n (pc := 45) dX3_moved_45 rfl ?_
  obtain rfl := Option.some.inj hh
  obtain ⟨rfl, rfl⟩ := hk
  exact J_ret (w := some (.int y11)) ⟨dX3_moved_46, _, rfl, rfl⟩
theorem jX3_moved {X : Scr} (d : Nat) (s : Mem)  {r : Int32} (hh : fX3_moved s = some r) : J X MX3_moved (d + 0) 0 [some (.ref 5), none, none] [] s (some (.int r)) s := jjX3_moved d s hh ⟨rfl, rfl⟩
theorem dX3_becomesSo_0 : decode cX3_becomesSo 0 = .ok (.iconst 0, 1) := by decide +kernel
theorem dX3_becomesSo_1 : decode cX3_becomesSo 1 = .ok (.istore_n 3, 1) := by decide +kernel
theorem dX3_becomesSo_2 : decode cX3_becomesSo 2 = .ok (.iload_n 3, 1) := by decide +kernel
theorem dX3_becomesSo_3 : decode cX3_becomesSo 3 = .ok (.aload_n 0, 1) := by decide +kernel
theorem dX3_becomesSo_4 : decode cX3_becomesSo 4 = .ok (.getfield 43, 3) := by decide +kernel
theorem dX3_becomesSo_7 : decode cX3_becomesSo 7 = .ok (.if_icmp .ge 24, 3) := by decide +kernel
theorem dX3_becomesSo_10 : decode cX3_becomesSo 10 = .ok (.aload_n 1, 1) := by decide +kernel
theorem dX3_becomesSo_11 : decode cX3_becomesSo 11 = .ok (.iload_n 3, 1) := by decide +kernel
theorem dX3_becomesSo_12 : decode cX3_becomesSo 12 = .ok (.iload_n 2, 1) := by decide +kernel
theorem dX3_becomesSo_13 : decode cX3_becomesSo 13 = .ok (.aload_n 0, 1) := by decide +kernel
theorem dX3_becomesSo_14 : decode cX3_becomesSo 14 = .ok (.getfield 21, 3) := by decide +kernel
theorem dX3_becomesSo_17 : decode cX3_becomesSo 17 = .ok (.iload_n 3, 1) := by decide +kernel
theorem dX3_becomesSo_18 : decode cX3_becomesSo 18 = .ok (.iaload, 1) := by decide +kernel
theorem dX3_becomesSo_19 : decode cX3_becomesSo 19 = .ok (.iconst 1, 1) := by decide +kernel
theorem dX3_becomesSo_20 : decode cX3_becomesSo 20 = .ok (.isub, 1) := by decide +kernel
theorem dX3_becomesSo_21 : decode cX3_becomesSo 21 = .ok (.invokevirtual 90, 3) := by decide +kernel
theorem dX3_becomesSo_24 : decode cX3_becomesSo 24 = .ok (.pop, 1) := by decide +kernel
theorem dX3_becomesSo_25 : decode cX3_becomesSo 25 = .ok (.iinc 3 1, 3) := by decide +kernel
theorem dX3_becomesSo_28 : decode cX3_becomesSo 28 = .ok (.goto (-26), 3) := by decide +kernel
theorem dX3_becomesSo_31 : decode cX3_becomesSo 31 = .ok (.return_, 1) := by decide +kernel
def bX3_becomesSo_2 (s : Mem) (v2 : Int32) (v3 : Int32) : Option (Mem ⊕ (Int32 × Mem)) :=
  if (s.1 5 6) ≤ v3 then some (Sum.inl s) else gd v3 6 ((fX0_sitsNow s v3 v2 ((s.1 9 v3.toNatClampNeg) - (1 : Int32))).bind (fun y2 => lt (v3 + (1 : Int32)) (fun x3 => some (Sum.inr (x3, y2.2)))))
set_option maxRecDepth 4000 in
theorem jbX3_becomesSo_2 {X : Scr} (d : Nat) (s : Mem) (v2 : Int32) (v3 : Int32) {r : (Mem ⊕ (Int32 × Mem))} {w : Option Value} {s' : Mem} (hh : bX3_becomesSo_2 s v2 v3 = some r) (hk : Sum.elim (fun t : Mem => J X MX3_becomesSo (d + 1) 31 [none, none, none, none] [] t w s') (fun a : (Int32 × Mem) => J X MX3_becomesSo (d + 1) 2 [some (.ref 5), some (.ref 1), some (.int v2), some (.int a.1)] [] a.2 w s') r) : J X MX3_becomesSo (d + 1) 2 [some (.ref 5), some (.ref 1), some (.int v2), some (.int v3)] [] s w s' := by
  unfold bX3_becomesSo_2 at hh
  refine J_iload_n (pc := 2) dX3_becomesSo_2 rfl ?_
  refine J_aload_n (pc := 3) dX3_becomesSo_3 rfl ?_
  refine J_getI (pc := 4) (k := 6) flX3_43 so5 fk5_6 dX3_becomesSo_4 ?_
  refine J_icmp_ge (pc := 7) 31 dX3_becomesSo_7 (by decide) (fun c4 => ?_) (fun c4 => ?_)
  · replace hh := (if_pos c4).symm.trans hh
    refine J_drop 0 (L' := [none, some (.ref 1), some (.int v2), some (.int v3)]) rfl ?_
    refine J_drop 1 (L' := [none, none, some (.int v2), some (.int v3)]) rfl ?_
    refine J_drop 2 (L' := [none, none, none, some (.int v3)]) rfl ?_
    refine J_drop 3 (L' := [none, none, none, none]) rfl ?_
    obtain rfl := Option.some.inj hh
    exact hk
  · replace hh := (if_neg c4).symm.trans hh
    refine J_aload_n (pc := 10) dX3_becomesSo_10 rfl ?_
    refine J_iload_n (pc := 11) dX3_becomesSo_11 rfl ?_
    refine J_iload_n (pc := 12) dX3_becomesSo_12 rfl ?_
    refine J_aload_n (pc := 13) dX3_becomesSo_13 rfl ?_
    refine J_getR (pc := 14) (k := 3) flX3_21 so5 fk5_3 dX3_becomesSo_14 ?_
    refine J_iload_n (pc := 17) dX3_becomesSo_17 rfl ?_
    obtain ⟨h1, hh⟩ := gd_some hh
    refine J_iald (pc := 18) dX3_becomesSo_18 sa9 h1 ?_
    refine J_iconst (pc := 19) dX3_becomesSo_19 ci_1 ?_
    refine J_isub (pc := 20) dX3_becomesSo_20 ?_
    obtain ⟨y2, hy2, hh⟩ := bd_some hh
    refine J_callVi (pc := 21) (M' := MX0_sitsNow) (a := 1) (rest := []) (As := [.int v3, .int v2, .int ((s.1 9 v3.toNatClampNeg) - (1 : Int32))]) (L0 := [some (.ref 1), some (.int v3), some (.int v2), some (.int ((s.1 9 v3.toNatClampNeg) - (1 : Int32))), none, none]) okX0_sitsNow ovX0_sitsNow mlX3_90 clX0 so1 rfl rfl (Nat.le_of_ble_eq_true rfl) dX3_becomesSo_21 rfl (Nat.le_of_ble_eq_true rfl) (jX0_sitsNow (X := X) d s v3 v2 ((s.1 9 v3.toNatClampNeg) - (1 : Int32)) hy2) ?_
    refine J_pop (pc := 24) dX3_becomesSo_24 rfl ?_
    refine J_iincL (pc := 25) (v := v3 + (1 : Int32)) (fun x3 => [some (.ref 5), some (.ref 1), some (.int v2), some (.int x3)]) dX3_becomesSo_25 rfl rfl (Nat.le_of_ble_eq_true rfl) (congrArg _ ci_1) (fun _ => rfl) hh (fun x3 hh => ?_)
    refine J_goto (pc := 28) 2 dX3_becomesSo_28 (by decide) ?_
    obtain rfl := Option.some.inj hh
    exact hk
def fX3_becomesSo (s : Mem) (p1 : Int32) : Option Mem :=
  (lp (fun a => bX3_becomesSo_2 a.2 p1 a.1) 600 ((0 : Int32), s)).bind (fun y5 => some y5)
set_option maxRecDepth 4000 in
theorem jjX3_becomesSo {X : Scr} (d : Nat) (s : Mem) (p1 : Int32) {r : Mem} {w : Option Value} {s' : Mem} (hh : fX3_becomesSo s p1 = some r) (hk : w = none ∧ r = s') : J X MX3_becomesSo (d + 1) 0 [some (.ref 5), some (.ref 1), some (.int p1), none] [] s w s' := by
  unfold fX3_becomesSo at hh
  refine J_iconst (pc := 0) dX3_becomesSo_0 ci_0 ?_
  refine J_istore_n (pc := 1) (L' := [some (.ref 5), some (.ref 1), some (.int p1), some (.int (0 : Int32))]) dX3_becomesSo_1 rfl (Nat.le_of_ble_eq_true rfl) rfl ?_
  obtain ⟨y5, hy5, hh⟩ := bd_some hh
  refine J_lp (a := ((0 : Int32), s)) (fun a : (Int32 × Mem) => J X MX3_becomesSo (d + 1) 2 [some (.ref 5), some (.ref 1), some (.int p1), some (.int a.1)] [] a.2 w s') (fun t : Mem => J X MX3_becomesSo (d + 1) 31 [none, none, none, none] [] t w s') (fun a q h1 h2 => jbX3_becomesSo_2 d a.2 p1 a.1 h1 h2) hy5 ?_
  obtain rfl := Option.some.inj hh
  obtain ⟨rfl, rfl⟩ := hk
  exact J_ret (w := none) ⟨dX3_becomesSo_31, rfl⟩
theorem jX3_becomesSo {X : Scr} (d : Nat) (s : Mem) (p1 : Int32) {r : Mem} (hh : fX3_becomesSo s p1 = some r) : J X MX3_becomesSo (d + 1) 0 [some (.ref 5), some (.ref 1), some (.int p1), none] [] s (none) r := jjX3_becomesSo d s p1 hh ⟨rfl, rfl⟩
