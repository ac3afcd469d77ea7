theorem dX0_copyTo_0 : decode cX0_copyTo 0 = .ok (.aload_n 0, 1) := by decide +kernel
theorem dX0_copyTo_1 : decode cX0_copyTo 1 = .ok (.getfield 11, 3) := by decide +kernel
theorem dX0_copyTo_4 : decode cX0_copyTo 4 = .ok (.iconst 0, 1) := by decide +kernel
theorem dX0_copyTo_5 : decode cX0_copyTo 5 = .ok (.aload_n 1, 1) := by decide +kernel
theorem dX0_copyTo_6 : decode cX0_copyTo 6 = .ok (.iload_n 2, 1) := by decide +kernel
theorem dX0_copyTo_7 : decode cX0_copyTo 7 = .ok (.sipush 171, 3) := by decide +kernel
theorem dX0_copyTo_10 : decode cX0_copyTo 10 = .ok (.invokestatic 15, 3) := by decide +kernel
theorem dX0_copyTo_13 : decode cX0_copyTo 13 = .ok (.return_, 1) := by decide +kernel
def fX0_copyTo (s : Mem) (p1 : Int32) : Option Mem :=
  gcp (0 : Int32) p1 (171 : Int32) 171 5301 (lt (upR s 4 (va_cpy (s.1 2) (s.1 4) (0 : Int32).toNatClampNeg p1.toNatClampNeg (171 : Int32).toNatClampNeg)) (fun s1 => some s1))
set_option maxRecDepth 4000 in
theorem jjX0_copyTo {X : Scr} (d : Nat) (s : Mem) (p1 : Int32) {r : Mem} {w : Option Value} {s' : Mem} (hh : fX0_copyTo s p1 = some r) (hk : w = none ∧ r = s') : J X MX0_copyTo (d + 1) 0 [some (.ref 1), some (.ref 4), some (.int p1)] [] s w s' := by
  unfold fX0_copyTo at hh
  refine J_aload_n (pc := 0) dX0_copyTo_0 rfl ?_
  refine J_getR (pc := 1) (k := 0) flX0_11 so1 fk1_0 dX0_copyTo_1 ?_
  refine J_iconst (pc := 4) dX0_copyTo_4 ci_0 ?_
  refine J_aload_n (pc := 5) dX0_copyTo_5 rfl ?_
  refine J_iload_n (pc := 6) dX0_copyTo_6 rfl ?_
  refine J_sipush (pc := 7) dX0_copyTo_7 cs_171 ?_
  obtain ⟨hz2, hh⟩ := gcp_some hh
  refine J_copyIL (pc := 10) cpX0_15 sa2 sa4 (Nat.le_of_ble_eq_true rfl) hz2 dX0_copyTo_10 hh (fun s1 hh => ?_)
  obtain rfl := Option.some.inj hh
  obtain ⟨rfl, rfl⟩ := hk
  exact J_ret (w := none) ⟨dX0_copyTo_13, rfl⟩
theorem jX0_copyTo {X : Scr} (d : Nat) (s : Mem) (p1 : Int32) {r : Mem} (hh : fX0_copyTo s p1 = some r) : J X MX0_copyTo (d + 1) 0 [some (.ref 1), some (.ref 4), some (.int p1)] [] s (none) r := jjX0_copyTo d s p1 hh ⟨rfl, rfl⟩
theorem dX0_copyFrom_0 : decode cX0_copyFrom 0 = .ok (.aload_n 1, 1) := by decide +kernel
theorem dX0_copyFrom_1 : decode cX0_copyFrom 1 = .ok (.iload_n 2, 1) := by decide +kernel
theorem dX0_copyFrom_2 : decode cX0_copyFrom 2 = .ok (.aload_n 0, 1) := by decide +kernel
theorem dX0_copyFrom_3 : decode cX0_copyFrom 3 = .ok (.getfield 11, 3) := by decide +kernel
theorem dX0_copyFrom_6 : decode cX0_copyFrom 6 = .ok (.iconst 0, 1) := by decide +kernel
theorem dX0_copyFrom_7 : decode cX0_copyFrom 7 = .ok (.sipush 171, 3) := by decide +kernel
theorem dX0_copyFrom_10 : decode cX0_copyFrom 10 = .ok (.invokestatic 15, 3) := by decide +kernel
theorem dX0_copyFrom_13 : decode cX0_copyFrom 13 = .ok (.return_, 1) := by decide +kernel
def fX0_copyFrom (s : Mem) (p1 : Int32) : Option Mem :=
  gcp p1 (0 : Int32) (171 : Int32) 5301 171 (lt (upR s 2 (va_cpy (s.1 4) (s.1 2) p1.toNatClampNeg (0 : Int32).toNatClampNeg (171 : Int32).toNatClampNeg)) (fun s1 => some s1))
set_option maxRecDepth 4000 in
theorem jjX0_copyFrom {X : Scr} (d : Nat) (s : Mem) (p1 : Int32) {r : Mem} {w : Option Value} {s' : Mem} (hh : fX0_copyFrom s p1 = some r) (hk : w = none ∧ r = s') : J X MX0_copyFrom (d + 1) 0 [some (.ref 1), some (.ref 4), some (.int p1)] [] s w s' := by
  unfold fX0_copyFrom at hh
  refine J_aload_n (pc := 0) dX0_copyFrom_0 rfl ?_
  refine J_iload_n (pc := 1) dX0_copyFrom_1 rfl ?_
  refine J_aload_n (pc := 2) dX0_copyFrom_2 rfl ?_
  refine J_getR (pc := 3) (k := 0) flX0_11 so1 fk1_0 dX0_copyFrom_3 ?_
  refine J_iconst (pc := 6) dX0_copyFrom_6 ci_0 ?_
  refine J_sipush (pc := 7) dX0_copyFrom_7 cs_171 ?_
  obtain ⟨hz2, hh⟩ := gcp_some hh
  refine J_copyIL (pc := 10) cpX0_15 sa4 sa2 (Nat.le_of_ble_eq_true rfl) hz2 dX0_copyFrom_10 hh (fun s1 hh => ?_)
  obtain rfl := Option.some.inj hh
  obtain ⟨rfl, rfl⟩ := hk
  exact J_ret (w := none) ⟨dX0_copyFrom_13, rfl⟩
theorem jX0_copyFrom {X : Scr} (d : Nat) (s : Mem) (p1 : Int32) {r : Mem} (hh : fX0_copyFrom s p1 = some r) : J X MX0_copyFrom (d + 1) 0 [some (.ref 1), some (.ref 4), some (.int p1)] [] s (none) r := jjX0_copyFrom d s p1 hh ⟨rfl, rfl⟩
theorem dX0_ofSection_0 : decode cX0_ofSection 0 = .ok (.aload_n 0, 1) := by decide +kernel
theorem dX0_ofSection_1 : decode cX0_ofSection 1 = .ok (.getfield 11, 3) := by decide +kernel
theorem dX0_ofSection_4 : decode cX0_ofSection 4 = .ok (.bipush 24, 2) := by decide +kernel
theorem dX0_ofSection_6 : decode cX0_ofSection 6 = .ok (.iload_n 1, 1) := by decide +kernel
theorem dX0_ofSection_7 : decode cX0_ofSection 7 = .ok (.imul, 1) := by decide +kernel
theorem dX0_ofSection_8 : decode cX0_ofSection 8 = .ok (.bipush 8, 2) := by decide +kernel
theorem dX0_ofSection_10 : decode cX0_ofSection 10 = .ok (.iload_n 2, 1) := by decide +kernel
theorem dX0_ofSection_11 : decode cX0_ofSection 11 = .ok (.imul, 1) := by decide +kernel
theorem dX0_ofSection_12 : decode cX0_ofSection 12 = .ok (.iadd, 1) := by decide +kernel
theorem dX0_ofSection_13 : decode cX0_ofSection 13 = .ok (.iconst 4, 1) := by decide +kernel
theorem dX0_ofSection_14 : decode cX0_ofSection 14 = .ok (.iload_n 3, 1) := by decide +kernel
theorem dX0_ofSection_15 : decode cX0_ofSection 15 = .ok (.imul, 1) := by decide +kernel
theorem dX0_ofSection_16 : decode cX0_ofSection 16 = .ok (.iadd, 1) := by decide +kernel
theorem dX0_ofSection_17 : decode cX0_ofSection 17 = .ok (.iload 4, 2) := by decide +kernel
theorem dX0_ofSection_19 : decode cX0_ofSection 19 = .ok (.iadd, 1) := by decide +kernel
theorem dX0_ofSection_20 : decode cX0_ofSection 20 = .ok (.iaload, 1) := by decide +kernel
theorem dX0_ofSection_21 : decode cX0_ofSection 21 = .ok (.ireturn, 1) := by decide +kernel
def fX0_ofSection (s : Mem) (p0 : Int32) (p1 : Int32) (p2 : Int32) (p3 : Int32) : Option Int32 :=
  gd (((((24 : Int32) * p0) + ((8 : Int32) * p1)) + ((4 : Int32) * p2)) + p3) 171 (some ((s.1 2 (((((24 : Int32) * p0) + ((8 : Int32) * p1)) + ((4 : Int32) * p2)) + p3).toNatClampNeg)))
set_option maxRecDepth 4000 in
theorem jjX0_ofSection {X : Scr} (d : Nat) (s : Mem) (p0 : Int32) (p1 : Int32) (p2 : Int32) (p3 : Int32) {r : Int32} {w : Option Value} {s' : Mem} (hh : fX0_ofSection s p0 p1 p2 p3 = some r) (hk : w = some (.int r) ∧ s = s') : J X MX0_ofSection (d + 0) 0 [some (.ref 1), some (.int p0), some (.int p1), some (.int p2), some (.int p3)] [] s w s' := by
  unfold fX0_ofSection at hh
  refine J_aload_n (pc := 0) dX0_ofSection_0 rfl ?_
  refine J_getR (pc := 1) (k := 0) flX0_11 so1 fk1_0 dX0_ofSection_1 ?_
  refine J_bipush (pc := 4) dX0_ofSection_4 cb_24 ?_
  refine J_iload_n (pc := 6) dX0_ofSection_6 rfl ?_
  refine J_imul (pc := 7) dX0_ofSection_7 ?_
  refine J_bipush (pc := 8) dX0_ofSection_8 cb_8 ?_
  refine J_iload_n (pc := 10) dX0_ofSection_10 rfl ?_
  refine J_imul (pc := 11) dX0_ofSection_11 ?_
  refine J_iadd (pc := 12) dX0_ofSection_12 ?_
  refine J_iconst (pc := 13) dX0_ofSection_13 ci_4 ?_
  refine J_iload_n (pc := 14) dX0_ofSection_14 rfl ?_
  refine J_imul (pc := 15) dX0_ofSection_15 ?_
  refine J_iadd (pc := 16) dX0_ofSection_16 ?_
  refine J_iload (pc := 17) dX0_ofSection_17 rfl ?_
  refine J_iadd (pc := 19) dX0_ofSection_19 ?_
  obtain ⟨h1, hh⟩ := gd_some hh
  refine J_iald (pc := 20) dX0_ofSection_20 sa2 h1 ?_
  obtain rfl := Option.some.inj hh
  obtain ⟨rfl, rfl⟩ := hk
  exact J_ret (w := some (.int (s.1 2 (((((24 : Int32) * p0) + ((8 : Int32) * p1)) + ((4 : Int32) * p2)) + p3).toNatClampNeg))) ⟨dX0_ofSection_21, _, rfl, rfl⟩
theorem jX0_ofSection {X : Scr} (d : Nat) (s : Mem) (p0 : Int32) (p1 : Int32) (p2 : Int32) (p3 : Int32) {r : Int32} (hh : fX0_ofSection s p0 p1 p2 p3 = some r) : J X MX0_ofSection (d + 0) 0 [some (.ref 1), some (.int p0), some (.int p1), some (.int p2), some (.int p3)] [] s (some (.int r)) s := jjX0_ofSection d s p0 p1 p2 p3 hh ⟨rfl, rfl⟩
theorem dX0_isOpen_0 : decode cX0_isOpen 0 = .ok (.aload_n 0, 1) := by decide +kernel
theorem dX0_isOpen_1 : decode cX0_isOpen 1 = .ok (.getfield 11, 3) := by decide +kernel
theorem dX0_isOpen_4 : decode cX0_isOpen 4 = .ok (.bipush 24, 2) := by decide +kernel
theorem dX0_isOpen_6 : decode cX0_isOpen 6 = .ok (.iload_n 1, 1) := by decide +kernel
theorem dX0_isOpen_7 : decode cX0_isOpen 7 = .ok (.imul, 1) := by decide +kernel
theorem dX0_isOpen_8 : decode cX0_isOpen 8 = .ok (.bipush 8, 2) := by decide +kernel
theorem dX0_isOpen_10 : decode cX0_isOpen 10 = .ok (.iload_n 2, 1) := by decide +kernel
theorem dX0_isOpen_11 : decode cX0_isOpen 11 = .ok (.imul, 1) := by decide +kernel
theorem dX0_isOpen_12 : decode cX0_isOpen 12 = .ok (.iadd, 1) := by decide +kernel
theorem dX0_isOpen_13 : decode cX0_isOpen 13 = .ok (.iconst 4, 1) := by decide +kernel
theorem dX0_isOpen_14 : decode cX0_isOpen 14 = .ok (.iload_n 3, 1) := by decide +kernel
theorem dX0_isOpen_15 : decode cX0_isOpen 15 = .ok (.imul, 1) := by decide +kernel
theorem dX0_isOpen_16 : decode cX0_isOpen 16 = .ok (.iadd, 1) := by decide +kernel
theorem dX0_isOpen_17 : decode cX0_isOpen 17 = .ok (.iconst 0, 1) := by decide +kernel
theorem dX0_isOpen_18 : decode cX0_isOpen 18 = .ok (.iadd, 1) := by decide +kernel
theorem dX0_isOpen_19 : decode cX0_isOpen 19 = .ok (.iaload, 1) := by decide +kernel
theorem dX0_isOpen_20 : decode cX0_isOpen 20 = .ok (.iconst 1, 1) := by decide +kernel
theorem dX0_isOpen_21 : decode cX0_isOpen 21 = .ok (.if_icmp .ne 7, 3) := by decide +kernel
theorem dX0_isOpen_24 : decode cX0_isOpen 24 = .ok (.iconst 1, 1) := by decide +kernel
theorem dX0_isOpen_25 : decode cX0_isOpen 25 = .ok (.goto 4, 3) := by decide +kernel
theorem dX0_isOpen_28 : decode cX0_isOpen 28 = .ok (.iconst 0, 1) := by decide +kernel
theorem dX0_isOpen_29 : decode cX0_isOpen 29 = .ok (.ireturn, 1) := by decide +kernel
def fX0_isOpen (s : Mem) (p0 : Int32) (p1 : Int32) (p2 : Int32) : Option Int32 :=
  gd (((((24 : Int32) * p0) + ((8 : Int32) * p1)) + ((4 : Int32) * p2)) + (0 : Int32)) 171 (if (s.1 2 (((((24 : Int32) * p0) + ((8 : Int32) * p1)) + ((4 : Int32) * p2)) + (0 : Int32)).toNatClampNeg) = (1 : Int32) then some (1 : Int32) else some (0 : Int32))
set_option maxRecDepth 4000 in
theorem jjX0_isOpen {X : Scr} (d : Nat) (s : Mem) (p0 : Int32) (p1 : Int32) (p2 : Int32) {r : Int32} {w : Option Value} {s' : Mem} (hh : fX0_isOpen s p0 p1 p2 = some r) (hk : w = some (.int r) ∧ s = s') : J X MX0_isOpen (d + 0) 0 [some (.ref 1), some (.int p0), some (.int p1), some (.int p2)] [] s w s' := by
  unfold fX0_isOpen at hh
  refine J_aload_n (pc := 0) dX0_isOpen_0 rfl ?_
  refine J_getR (pc := 1) (k := 0) flX0_11 so1 fk1_0 dX0_isOpen_1 ?_
  refine J_bipush (pc := 4) dX0_isOpen_4 cb_24 ?_
  refine J_iload_n (pc := 6) dX0_isOpen_6 rfl ?_
  refine J_imul (pc := 7) dX0_isOpen_7 ?_
  refine J_bipush (pc := 8) dX0_isOpen_8 cb_8 ?_
  refine J_iload_n (pc := 10) dX0_isOpen_10 rfl ?_
  refine J_imul (pc := 11) dX0_isOpen_11 ?_
  refine J_iadd (pc := 12) dX0_isOpen_12 ?_
  refine J_iconst (pc := 13) dX0_isOpen_13 ci_4 ?_
  refine J_iload_n (pc := 14) dX0_isOpen_14 rfl ?_
  refine J_imul (pc := 15) dX0_isOpen_15 ?_
  refine J_iadd (pc := 16) dX0_isOpen_16 ?_
  refine J_iconst (pc := 17) dX0_isOpen_17 ci_0 ?_
  refine J_iadd (pc := 18) dX0_isOpen_18 ?_
  obtain ⟨h1, hh⟩ := gd_some hh
  refine J_iald (pc := 19) dX0_isOpen_19 sa2 h1 ?_
  refine J_iconst (pc := 20) dX0_isOpen_20 ci_1 ?_
  refine J_icmp_ne (pc := 21) 28 dX0_isOpen_21 (by decide) (fun c2 => ?_) (fun c2 => ?_)
  · replace hh := (if_neg c2).symm.trans hh
    refine J_iconst (pc := 28) dX0_isOpen_28 ci_0 ?_
    obtain rfl := Option.some.inj hh
    obtain ⟨rfl, rfl⟩ := hk
    exact J_ret (w := some (.int (0 : Int32))) ⟨dX0_isOpen_29, _, rfl, rfl⟩
  · replace hh := (if_pos c2).symm.trans hh
    refine J_iconst (pc := 24) dX0_isOpen_24 ci_1 ?_
    refine J_goto (pc := 25) 29 dX0_isOpen_25 (by decide) ?_
    obtain rfl := Option.some.inj hh
    obtain ⟨rfl, rfl⟩ := hk
    exact J_ret (w := some (.int (1 : Int32))) ⟨dX0_isOpen_29, _, rfl, rfl⟩
theorem jX0_isOpen {X : Scr} (d : Nat) (s : Mem) (p0 : Int32) (p1 : Int32) (p2 : Int32) {r : Int32} (hh : fX0_isOpen s p0 p1 p2 = some r) : J X MX0_isOpen (d + 0) 0 [some (.ref 1), some (.int p0), some (.int p1), some (.int p2)] [] s (some (.int r)) s := jjX0_isOpen d s p0 p1 p2 hh ⟨rfl, rfl⟩
theorem dX0_hoursOf_0 : decode cX0_hoursOf 0 = .ok (.aload_n 0, 1) := by decide +kernel
theorem dX0_hoursOf_1 : decode cX0_hoursOf 1 = .ok (.getfield 11, 3) := by decide +kernel
theorem dX0_hoursOf_4 : decode cX0_hoursOf 4 = .ok (.sipush 139, 3) := by decide +kernel
theorem dX0_hoursOf_7 : decode cX0_hoursOf 7 = .ok (.bipush 8, 2) := by decide +kernel
theorem dX0_hoursOf_9 : decode cX0_hoursOf 9 = .ok (.iload_n 1, 1) := by decide +kernel
theorem dX0_hoursOf_10 : decode cX0_hoursOf 10 = .ok (.imul, 1) := by decide +kernel
theorem dX0_hoursOf_11 : decode cX0_hoursOf 11 = .ok (.iadd, 1) := by decide +kernel
theorem dX0_hoursOf_12 : decode cX0_hoursOf 12 = .ok (.iload_n 2, 1) := by decide +kernel
theorem dX0_hoursOf_13 : decode cX0_hoursOf 13 = .ok (.iadd, 1) := by decide +kernel
theorem dX0_hoursOf_14 : decode cX0_hoursOf 14 = .ok (.iaload, 1) := by decide +kernel
theorem dX0_hoursOf_15 : decode cX0_hoursOf 15 = .ok (.ireturn, 1) := by decide +kernel
def fX0_hoursOf (s : Mem) (p0 : Int32) (p1 : Int32) : Option Int32 :=
  gd (((139 : Int32) + ((8 : Int32) * p0)) + p1) 171 (some ((s.1 2 (((139 : Int32) + ((8 : Int32) * p0)) + p1).toNatClampNeg)))
set_option maxRecDepth 4000 in
theorem jjX0_hoursOf {X : Scr} (d : Nat) (s : Mem) (p0 : Int32) (p1 : Int32) {r : Int32} {w : Option Value} {s' : Mem} (hh : fX0_hoursOf s p0 p1 = some r) (hk : w = some (.int r) ∧ s = s') : J X MX0_hoursOf (d + 0) 0 [some (.ref 1), some (.int p0), some (.int p1)] [] s w s' := by
  unfold fX0_hoursOf at hh
  refine J_aload_n (pc := 0) dX0_hoursOf_0 rfl ?_
  refine J_getR (pc := 1) (k := 0) flX0_11 so1 fk1_0 dX0_hoursOf_1 ?_
  refine J_sipush (pc := 4) dX0_hoursOf_4 cs_139 ?_
  refine J_bipush (pc := 7) dX0_hoursOf_7 cb_8 ?_
  refine J_iload_n (pc := 9) dX0_hoursOf_9 rfl ?_
  refine J_imul (pc := 10) dX0_hoursOf_10 ?_
  refine J_iadd (pc := 11) dX0_hoursOf_11 ?_
  refine J_iload_n (pc := 12) dX0_hoursOf_12 rfl ?_
  refine J_iadd (pc := 13) dX0_hoursOf_13 ?_
  obtain ⟨h1, hh⟩ := gd_some hh
  refine J_iald (pc := 14) dX0_hoursOf_14 sa2 h1 ?_
  obtain rfl := Option.some.inj hh
  obtain ⟨rfl, rfl⟩ := hk
  exact J_ret (w := some (.int (s.1 2 (((139 : Int32) + ((8 : Int32) * p0)) + p1).toNatClampNeg))) ⟨dX0_hoursOf_15, _, rfl, rfl⟩
theorem jX0_hoursOf {X : Scr} (d : Nat) (s : Mem) (p0 : Int32) (p1 : Int32) {r : Int32} (hh : fX0_hoursOf s p0 p1 = some r) : J X MX0_hoursOf (d + 0) 0 [some (.ref 1), some (.int p0), some (.int p1)] [] s (some (.int r)) s := jjX0_hoursOf d s p0 p1 hh ⟨rfl, rfl⟩
theorem dX0_pupils_0 : decode cX0_pupils 0 = .ok (.aload_n 0, 1) := by decide +kernel
theorem dX0_pupils_1 : decode cX0_pupils 1 = .ok (.getfield 11, 3) := by decide +kernel
theorem dX0_pupils_4 : decode cX0_pupils 4 = .ok (.sipush 138, 3) := by decide +kernel
theorem dX0_pupils_7 : decode cX0_pupils 7 = .ok (.iaload, 1) := by decide +kernel
theorem dX0_pupils_8 : decode cX0_pupils 8 = .ok (.ireturn, 1) := by decide +kernel
def fX0_pupils (s : Mem)  : Option Int32 :=
  gd (138 : Int32) 171 (some ((s.1 2 (138 : Int32).toNatClampNeg)))
set_option maxRecDepth 4000 in
theorem jjX0_pupils {X : Scr} (d : Nat) (s : Mem)  {r : Int32} {w : Option Value} {s' : Mem} (hh : fX0_pupils s = some r) (hk : w = some (.int r) ∧ s = s') : J X MX0_pupils (d + 0) 0 [some (.ref 1)] [] s w s' := by
  unfold fX0_pupils at hh
  refine J_aload_n (pc := 0) dX0_pupils_0 rfl ?_
  refine J_getR (pc := 1) (k := 0) flX0_11 so1 fk1_0 dX0_pupils_1 ?_
  refine J_sipush (pc := 4) dX0_pupils_4 cs_138 ?_
  obtain ⟨h1, hh⟩ := gd_some hh
  refine J_iald (pc := 7) dX0_pupils_7 sa2 h1 ?_
  obtain rfl := Option.some.inj hh
  obtain ⟨rfl, rfl⟩ := hk
  exact J_ret (w := some (.int (s.1 2 (138 : Int32).toNatClampNeg))) ⟨dX0_pupils_8, _, rfl, rfl⟩
theorem jX0_pupils {X : Scr} (d : Nat) (s : Mem)  {r : Int32} (hh : fX0_pupils s = some r) : J X MX0_pupils (d + 0) 0 [some (.ref 1)] [] s (some (.int r)) s := jjX0_pupils d s hh ⟨rfl, rfl⟩
theorem dX0_ofPupil_0 : decode cX0_ofPupil 0 = .ok (.aload_n 0, 1) := by decide +kernel
theorem dX0_ofPupil_1 : decode cX0_ofPupil 1 = .ok (.getfield 11, 3) := by decide +kernel
theorem dX0_ofPupil_4 : decode cX0_ofPupil 4 = .ok (.bipush 96, 2) := by decide +kernel
theorem dX0_ofPupil_6 : decode cX0_ofPupil 6 = .ok (.bipush 7, 2) := by decide +kernel
theorem dX0_ofPupil_8 : decode cX0_ofPupil 8 = .ok (.iload_n 1, 1) := by decide +kernel
theorem dX0_ofPupil_9 : decode cX0_ofPupil 9 = .ok (.imul, 1) := by decide +kernel
theorem dX0_ofPupil_10 : decode cX0_ofPupil 10 = .ok (.iadd, 1) := by decide +kernel
theorem dX0_ofPupil_11 : decode cX0_ofPupil 11 = .ok (.iload_n 2, 1) := by decide +kernel
theorem dX0_ofPupil_12 : decode cX0_ofPupil 12 = .ok (.iadd, 1) := by decide +kernel
theorem dX0_ofPupil_13 : decode cX0_ofPupil 13 = .ok (.iaload, 1) := by decide +kernel
theorem dX0_ofPupil_14 : decode cX0_ofPupil 14 = .ok (.ireturn, 1) := by decide +kernel
def fX0_ofPupil (s : Mem) (p0 : Int32) (p1 : Int32) : Option Int32 :=
  gd (((96 : Int32) + ((7 : Int32) * p0)) + p1) 171 (some ((s.1 2 (((96 : Int32) + ((7 : Int32) * p0)) + p1).toNatClampNeg)))
set_option maxRecDepth 4000 in
theorem jjX0_ofPupil {X : Scr} (d : Nat) (s : Mem) (p0 : Int32) (p1 : Int32) {r : Int32} {w : Option Value} {s' : Mem} (hh : fX0_ofPupil s p0 p1 = some r) (hk : w = some (.int r) ∧ s = s') : J X MX0_ofPupil (d + 0) 0 [some (.ref 1), some (.int p0), some (.int p1)] [] s w s' := by
  unfold fX0_ofPupil at hh
  refine J_aload_n (pc := 0) dX0_ofPupil_0 rfl ?_
  refine J_getR (pc := 1) (k := 0) flX0_11 so1 fk1_0 dX0_ofPupil_1 ?_
  refine J_bipush (pc := 4) dX0_ofPupil_4 cb_96 ?_
  refine J_bipush (pc := 6) dX0_ofPupil_6 cb_7 ?_
  refine J_iload_n (pc := 8) dX0_ofPupil_8 rfl ?_
  refine J_imul (pc := 9) dX0_ofPupil_9 ?_
  refine J_iadd (pc := 10) dX0_ofPupil_10 ?_
  refine J_iload_n (pc := 11) dX0_ofPupil_11 rfl ?_
  refine J_iadd (pc := 12) dX0_ofPupil_12 ?_
  obtain ⟨h1, hh⟩ := gd_some hh
  refine J_iald (pc := 13) dX0_ofPupil_13 sa2 h1 ?_
  obtain rfl := Option.some.inj hh
  obtain ⟨rfl, rfl⟩ := hk
  exact J_ret (w := some (.int (s.1 2 (((96 : Int32) + ((7 : Int32) * p0)) + p1).toNatClampNeg))) ⟨dX0_ofPupil_14, _, rfl, rfl⟩
theorem jX0_ofPupil {X : Scr} (d : Nat) (s : Mem) (p0 : Int32) (p1 : Int32) {r : Int32} (hh : fX0_ofPupil s p0 p1 = some r) : J X MX0_ofPupil (d + 0) 0 [some (.ref 1), some (.int p0), some (.int p1)] [] s (some (.int r)) s := jjX0_ofPupil d s p0 p1 hh ⟨rfl, rfl⟩
theorem dX0_wishes_0 : decode cX0_wishes 0 = .ok (.aload_n 0, 1) := by decide +kernel
theorem dX0_wishes_1 : decode cX0_wishes 1 = .ok (.getfield 11, 3) := by decide +kernel
theorem dX0_wishes_4 : decode cX0_wishes 4 = .ok (.bipush 96, 2) := by decide +kernel
theorem dX0_wishes_6 : decode cX0_wishes 6 = .ok (.bipush 7, 2) := by decide +kernel
theorem dX0_wishes_8 : decode cX0_wishes 8 = .ok (.iload_n 1, 1) := by decide +kernel
theorem dX0_wishes_9 : decode cX0_wishes 9 = .ok (.imul, 1) := by decide +kernel
theorem dX0_wishes_10 : decode cX0_wishes 10 = .ok (.iadd, 1) := by decide +kernel
theorem dX0_wishes_11 : decode cX0_wishes 11 = .ok (.iconst 2, 1) := by decide +kernel
theorem dX0_wishes_12 : decode cX0_wishes 12 = .ok (.iadd, 1) := by decide +kernel
theorem dX0_wishes_13 : decode cX0_wishes 13 = .ok (.iaload, 1) := by decide +kernel
theorem dX0_wishes_14 : decode cX0_wishes 14 = .ok (.iload_n 2, 1) := by decide +kernel
theorem dX0_wishes_15 : decode cX0_wishes 15 = .ok (.ishr, 1) := by decide +kernel
theorem dX0_wishes_16 : decode cX0_wishes 16 = .ok (.iconst 1, 1) := by decide +kernel
theorem dX0_wishes_17 : decode cX0_wishes 17 = .ok (.iand, 1) := by decide +kernel
theorem dX0_wishes_18 : decode cX0_wishes 18 = .ok (.iconst 1, 1) := by decide +kernel
theorem dX0_wishes_19 : decode cX0_wishes 19 = .ok (.if_icmp .ne 7, 3) := by decide +kernel
theorem dX0_wishes_22 : decode cX0_wishes 22 = .ok (.iconst 1, 1) := by decide +kernel
theorem dX0_wishes_23 : decode cX0_wishes 23 = .ok (.goto 4, 3) := by decide +kernel
theorem dX0_wishes_26 : decode cX0_wishes 26 = .ok (.iconst 0, 1) := by decide +kernel
theorem dX0_wishes_27 : decode cX0_wishes 27 = .ok (.ireturn, 1) := by decide +kernel
def fX0_wishes (s : Mem) (p0 : Int32) (p1 : Int32) : Option Int32 :=
  gd (((96 : Int32) + ((7 : Int32) * p0)) + (2 : Int32)) 171 (if (((s.1 2 (((96 : Int32) + ((7 : Int32) * p0)) + (2 : Int32)).toNatClampNeg) >>> (p1 &&& 31)) &&& (1 : Int32)) = (1 : Int32) then some (1 : Int32) else some (0 : Int32))
set_option maxRecDepth 4000 in
theorem jjX0_wishes {X : Scr} (d : Nat) (s : Mem) (p0 : Int32) (p1 : Int32) {r : Int32} {w : Option Value} {s' : Mem} (hh : fX0_wishes s p0 p1 = some r) (hk : w = some (.int r) ∧ s = s') : J X MX0_wishes (d + 0) 0 [some (.ref 1), some (.int p0), some (.int p1)] [] s w s' := by
  unfold fX0_wishes at hh
  refine J_aload_n (pc := 0) dX0_wishes_0 rfl ?_
  refine J_getR (pc := 1) (k := 0) flX0_11 so1 fk1_0 dX0_wishes_1 ?_
  refine J_bipush (pc := 4) dX0_wishes_4 cb_96 ?_
  refine J_bipush (pc := 6) dX0_wishes_6 cb_7 ?_
  refine J_iload_n (pc := 8) dX0_wishes_8 rfl ?_
  refine J_imul (pc := 9) dX0_wishes_9 ?_
  refine J_iadd (pc := 10) dX0_wishes_10 ?_
  refine J_iconst (pc := 11) dX0_wishes_11 ci_2 ?_
  refine J_iadd (pc := 12) dX0_wishes_12 ?_
  obtain ⟨h1, hh⟩ := gd_some hh
  refine J_iald (pc := 13) dX0_wishes_13 sa2 h1 ?_
  refine J_iload_n (pc := 14) dX0_wishes_14 rfl ?_
  refine J_ishr (pc := 15) dX0_wishes_15 ?_
  refine J_iconst (pc := 16) dX0_wishes_16 ci_1 ?_
  refine J_iand (pc := 17) dX0_wishes_17 ?_
  refine J_iconst (pc := 18) dX0_wishes_18 ci_1 ?_
  refine J_icmp_ne (pc := 19) 26 dX0_wishes_19 (by decide) (fun c2 => ?_) (fun c2 => ?_)
  · replace hh := (if_neg c2).symm.trans hh
    refine J_iconst (pc := 26) dX0_wishes_26 ci_0 ?_
    obtain rfl := Option.some.inj hh
    obtain ⟨rfl, rfl⟩ := hk
    exact J_ret (w := some (.int (0 : Int32))) ⟨dX0_wishes_27, _, rfl, rfl⟩
  · replace hh := (if_pos c2).symm.trans hh
    refine J_iconst (pc := 22) dX0_wishes_22 ci_1 ?_
    refine J_goto (pc := 23) 27 dX0_wishes_23 (by decide) ?_
    obtain rfl := Option.some.inj hh
    obtain ⟨rfl, rfl⟩ := hk
    exact J_ret (w := some (.int (1 : Int32))) ⟨dX0_wishes_27, _, rfl, rfl⟩
theorem jX0_wishes {X : Scr} (d : Nat) (s : Mem) (p0 : Int32) (p1 : Int32) {r : Int32} (hh : fX0_wishes s p0 p1 = some r) : J X MX0_wishes (d + 0) 0 [some (.ref 1), some (.int p0), some (.int p1)] [] s (some (.int r)) s := jjX0_wishes d s p0 p1 hh ⟨rfl, rfl⟩
theorem dX0_sits_0 : decode cX0_sits 0 = .ok (.aload_n 0, 1) := by decide +kernel
theorem dX0_sits_1 : decode cX0_sits 1 = .ok (.getfield 11, 3) := by decide +kernel
theorem dX0_sits_4 : decode cX0_sits 4 = .ok (.bipush 96, 2) := by decide +kernel
theorem dX0_sits_6 : decode cX0_sits 6 = .ok (.bipush 7, 2) := by decide +kernel
theorem dX0_sits_8 : decode cX0_sits 8 = .ok (.iload_n 1, 1) := by decide +kernel
theorem dX0_sits_9 : decode cX0_sits 9 = .ok (.imul, 1) := by decide +kernel
theorem dX0_sits_10 : decode cX0_sits 10 = .ok (.iadd, 1) := by decide +kernel
theorem dX0_sits_11 : decode cX0_sits 11 = .ok (.iconst 3, 1) := by decide +kernel
theorem dX0_sits_12 : decode cX0_sits 12 = .ok (.iadd, 1) := by decide +kernel
theorem dX0_sits_13 : decode cX0_sits 13 = .ok (.iload_n 2, 1) := by decide +kernel
theorem dX0_sits_14 : decode cX0_sits 14 = .ok (.iadd, 1) := by decide +kernel
theorem dX0_sits_15 : decode cX0_sits 15 = .ok (.iaload, 1) := by decide +kernel
theorem dX0_sits_16 : decode cX0_sits 16 = .ok (.ireturn, 1) := by decide +kernel
def fX0_sits (s : Mem) (p0 : Int32) (p1 : Int32) : Option Int32 :=
  gd ((((96 : Int32) + ((7 : Int32) * p0)) + (3 : Int32)) + p1) 171 (some ((s.1 2 ((((96 : Int32) + ((7 : Int32) * p0)) + (3 : Int32)) + p1).toNatClampNeg)))
set_option maxRecDepth 4000 in
theorem jjX0_sits {X : Scr} (d : Nat) (s : Mem) (p0 : Int32) (p1 : Int32) {r : Int32} {w : Option Value} {s' : Mem} (hh : fX0_sits s p0 p1 = some r) (hk : w = some (.int r) ∧ s = s') : J X MX0_sits (d + 0) 0 [some (.ref 1), some (.int p0), some (.int p1)] [] s w s' := by
  unfold fX0_sits at hh
  refine J_aload_n (pc := 0) dX0_sits_0 rfl ?_
  refine J_getR (pc := 1) (k := 0) flX0_11 so1 fk1_0 dX0_sits_1 ?_
  refine J_bipush (pc := 4) dX0_sits_4 cb_96 ?_
  refine J_bipush (pc := 6) dX0_sits_6 cb_7 ?_
  refine J_iload_n (pc := 8) dX0_sits_8 rfl ?_
  refine J_imul (pc := 9) dX0_sits_9 ?_
  refine J_iadd (pc := 10) dX0_sits_10 ?_
  refine J_iconst (pc := 11) dX0_sits_11 ci_3 ?_
  refine J_iadd (pc := 12) dX0_sits_12 ?_
  refine J_iload_n (pc := 13) dX0_sits_13 rfl ?_
  refine J_iadd (pc := 14) dX0_sits_14 ?_
  obtain ⟨h1, hh⟩ := gd_some hh
  refine J_iald (pc := 15) dX0_sits_15 sa2 h1 ?_
  obtain rfl := Option.some.inj hh
  obtain ⟨rfl, rfl⟩ := hk
  exact J_ret (w := some (.int (s.1 2 ((((96 : Int32) + ((7 : Int32) * p0)) + (3 : Int32)) + p1).toNatClampNeg))) ⟨dX0_sits_16, _, rfl, rfl⟩
theorem jX0_sits {X : Scr} (d : Nat) (s : Mem) (p0 : Int32) (p1 : Int32) {r : Int32} (hh : fX0_sits s p0 p1 = some r) : J X MX0_sits (d + 0) 0 [some (.ref 1), some (.int p0), some (.int p1)] [] s (some (.int r)) s := jjX0_sits d s p0 p1 hh ⟨rfl, rfl⟩
theorem dX0_sitsNow_0 : decode cX0_sitsNow 0 = .ok (.bipush 96, 2) := by decide +kernel
theorem dX0_sitsNow_2 : decode cX0_sitsNow 2 = .ok (.bipush 7, 2) := by decide +kernel
theorem dX0_sitsNow_4 : decode cX0_sitsNow 4 = .ok (.iload_n 1, 1) := by decide +kernel
theorem dX0_sitsNow_5 : decode cX0_sitsNow 5 = .ok (.imul, 1) := by decide +kernel
theorem dX0_sitsNow_6 : decode cX0_sitsNow 6 = .ok (.iadd, 1) := by decide +kernel
theorem dX0_sitsNow_7 : decode cX0_sitsNow 7 = .ok (.iconst 3, 1) := by decide +kernel
theorem dX0_sitsNow_8 : decode cX0_sitsNow 8 = .ok (.iadd, 1) := by decide +kernel
theorem dX0_sitsNow_9 : decode cX0_sitsNow 9 = .ok (.iload_n 2, 1) := by decide +kernel
theorem dX0_sitsNow_10 : decode cX0_sitsNow 10 = .ok (.iadd, 1) := by decide +kernel
theorem dX0_sitsNow_11 : decode cX0_sitsNow 11 = .ok (.istore 4, 2) := by decide +kernel
theorem dX0_sitsNow_13 : decode cX0_sitsNow 13 = .ok (.aload_n 0, 1) := by decide +kernel
theorem dX0_sitsNow_14 : decode cX0_sitsNow 14 = .ok (.getfield 11, 3) := by decide +kernel
theorem dX0_sitsNow_17 : decode cX0_sitsNow 17 = .ok (.iload 4, 2) := by decide +kernel
theorem dX0_sitsNow_19 : decode cX0_sitsNow 19 = .ok (.iaload, 1) := by decide +kernel
theorem dX0_sitsNow_20 : decode cX0_sitsNow 20 = .ok (.istore 5, 2) := by decide +kernel
theorem dX0_sitsNow_22 : decode cX0_sitsNow 22 = .ok (.aload_n 0, 1) := by decide +kernel
theorem dX0_sitsNow_23 : decode cX0_sitsNow 23 = .ok (.getfield 11, 3) := by decide +kernel
theorem dX0_sitsNow_26 : decode cX0_sitsNow 26 = .ok (.iload 4, 2) := by decide +kernel
theorem dX0_sitsNow_28 : decode cX0_sitsNow 28 = .ok (.iload_n 3, 1) := by decide +kernel
theorem dX0_sitsNow_29 : decode cX0_sitsNow 29 = .ok (.iastore, 1) := by decide +kernel
theorem dX0_sitsNow_30 : decode cX0_sitsNow 30 = .ok (.iload 5, 2) := by decide +kernel
theorem dX0_sitsNow_32 : decode cX0_sitsNow 32 = .ok (.ireturn, 1) := by decide +kernel
def fX0_sitsNow (s : Mem) (p0 : Int32) (p1 : Int32) (p2 : Int32) : Option (Int32 × Mem) :=
  lt ((((96 : Int32) + ((7 : Int32) * p0)) + (3 : Int32)) + p1) (fun x1 => gd x1 171 (lt (s.1 2 x1.toNatClampNeg) (fun x3 => gd x1 171 (lt (up2 s 2 x1.toNatClampNeg p2) (fun s5 => some ((x3, s5)))))))
set_option maxRecDepth 4000 in
theorem jjX0_sitsNow {X : Scr} (d : Nat) (s : Mem) (p0 : Int32) (p1 : Int32) (p2 : Int32) {r : (Int32 × Mem)} {w : Option Value} {s' : Mem} (hh : fX0_sitsNow s p0 p1 p2 = some r) (hk : w = some (.int r.1) ∧ r.2 = s') : J X MX0_sitsNow (d + 0) 0 [some (.ref 1), some (.int p0), some (.int p1), some (.int p2), none, none] [] s w s' := by
  unfold fX0_sitsNow at hh
  refine J_bipush (pc := 0) dX0_sitsNow_0 cb_96 ?_
  refine J_bipush (pc := 2) dX0_sitsNow_2 cb_7 ?_
  refine J_iload_n (pc := 4) dX0_sitsNow_4 rfl ?_
  refine J_imul (pc := 5) dX0_sitsNow_5 ?_
  refine J_iadd (pc := 6) dX0_sitsNow_6 ?_
  refine J_iconst (pc := 7) dX0_sitsNow_7 ci_3 ?_
  refine J_iadd (pc := 8) dX0_sitsNow_8 ?_
  refine J_iload_n (pc := 9) dX0_sitsNow_9 rfl ?_
  refine J_iadd (pc := 10) dX0_sitsNow_10 ?_
  refine J_istoreL (pc := 11) (fun x1 => [some (.ref 1), some (.int p0), some (.int p1), some (.int p2), some (.int x1), none]) dX0_sitsNow_11 rfl (Nat.le_of_ble_eq_true rfl) (fun _ => rfl) hh (fun x1 hh => ?_)
  refine J_aload_n (pc := 13) dX0_sitsNow_13 rfl ?_
  refine J_getR (pc := 14) (k := 0) flX0_11 so1 fk1_0 dX0_sitsNow_14 ?_
  refine J_iload (pc := 17) dX0_sitsNow_17 rfl ?_
  obtain ⟨h2, hh⟩ := gd_some hh
  refine J_iald (pc := 19) dX0_sitsNow_19 sa2 h2 ?_
  refine J_istoreL (pc := 20) (fun x3 => [some (.ref 1), some (.int p0), some (.int p1), some (.int p2), some (.int x1), some (.int x3)]) dX0_sitsNow_20 rfl (Nat.le_of_ble_eq_true rfl) (fun _ => rfl) hh (fun x3 hh => ?_)
  refine J_aload_n (pc := 22) dX0_sitsNow_22 rfl ?_
  refine J_getR (pc := 23) (k := 0) flX0_11 so1 fk1_0 dX0_sitsNow_23 ?_
  refine J_iload (pc := 26) dX0_sitsNow_26 rfl ?_
  refine J_iload_n (pc := 28) dX0_sitsNow_28 rfl ?_
  obtain ⟨h4, hh⟩ := gd_some hh
  refine J_iastL (pc := 29) dX0_sitsNow_29 sa2 h4 hh (fun s5 hh => ?_)
  refine J_iload (pc := 30) dX0_sitsNow_30 rfl ?_
  obtain rfl := Option.some.inj hh
  obtain ⟨rfl, rfl⟩ := hk
  exact J_ret (w := some (.int x3)) ⟨dX0_sitsNow_32, _, rfl, rfl⟩
theorem jX0_sitsNow {X : Scr} (d : Nat) (s : Mem) (p0 : Int32) (p1 : Int32) (p2 : Int32) {r : (Int32 × Mem)} (hh : fX0_sitsNow s p0 p1 p2 = some r) : J X MX0_sitsNow (d + 0) 0 [some (.ref 1), some (.int p0), some (.int p1), some (.int p2), none, none] [] s (some (.int r.1)) r.2 := jjX0_sitsNow d s p0 p1 p2 hh ⟨rfl, rfl⟩
theorem dX0_partOf_0 : decode cX0_partOf 0 = .ok (.iload_n 0, 1) := by decide +kernel
theorem dX0_partOf_1 : decode cX0_partOf 1 = .ok (.iconst 2, 1) := by decide +kernel
theorem dX0_partOf_2 : decode cX0_partOf 2 = .ok (.iload_n 1, 1) := by decide +kernel
theorem dX0_partOf_3 : decode cX0_partOf 3 = .ok (.isub, 1) := by decide +kernel
theorem dX0_partOf_4 : decode cX0_partOf 4 = .ok (.ishr, 1) := by decide +kernel
theorem dX0_partOf_5 : decode cX0_partOf 5 = .ok (.iconst 1, 1) := by decide +kernel
theorem dX0_partOf_6 : decode cX0_partOf 6 = .ok (.iand, 1) := by decide +kernel
theorem dX0_partOf_7 : decode cX0_partOf 7 = .ok (.ireturn, 1) := by decide +kernel
def fX0_partOf (p0 : Int32) (p1 : Int32) : Option Int32 :=
  some (((p0 >>> (((2 : Int32) - p1) &&& 31)) &&& (1 : Int32)))
set_option maxRecDepth 4000 in
theorem jjX0_partOf {X : Scr} (d : Nat) {s : Mem} (p0 : Int32) (p1 : Int32) {r : Int32} {w : Option Value} {s' : Mem} (hh : fX0_partOf p0 p1 = some r) (hk : w = some (.int r) ∧ s = s') : J X MX0_partOf (d + 0) 0 [some (.int p0), some (.int p1)] [] s w s' := by
  unfold fX0_partOf at hh
  refine J_iload_n (pc := 0) dX0_partOf_0 rfl ?_
  refine J_iconst (pc := 1) dX0_partOf_1 ci_2 ?_
  refine J_iload_n (pc := 2) dX0_partOf_2 rfl ?_
  refine J_isub (pc := 3) dX0_partOf_3 ?_
  refine J_ishr (pc := 4) dX0_partOf_4 ?_
  refine J_iconst (pc := 5) dX0_partOf_5 ci_1 ?_
  refine J_iand (pc := 6) dX0_partOf_6 ?_
  obtain rfl := Option.some.inj hh
  obtain ⟨rfl, rfl⟩ := hk
  exact J_ret (w := some (.int ((p0 >>> (((2 : Int32) - p1) &&& 31)) &&& (1 : Int32)))) ⟨dX0_partOf_7, _, rfl, rfl⟩
theorem jX0_partOf {X : Scr} (d : Nat) (s : Mem) (p0 : Int32) (p1 : Int32) {r : Int32} (hh : fX0_partOf p0 p1 = some r) : J X MX0_partOf (d + 0) 0 [some (.int p0), some (.int p1)] [] s (some (.int r)) s := jjX0_partOf d p0 p1 hh ⟨rfl, rfl⟩
theorem dX0_counts_0 : decode cX0_counts 0 = .ok (.bipush 24, 2) := by decide +kernel
theorem dX0_counts_2 : decode cX0_counts 2 = .ok (.iload_n 1, 1) := by decide +kernel
theorem dX0_counts_3 : decode cX0_counts 3 = .ok (.imul, 1) := by decide +kernel
theorem dX0_counts_4 : decode cX0_counts 4 = .ok (.bipush 8, 2) := by decide +kernel
theorem dX0_counts_6 : decode cX0_counts 6 = .ok (.iload_n 2, 1) := by decide +kernel
theorem dX0_counts_7 : decode cX0_counts 7 = .ok (.imul, 1) := by decide +kernel
theorem dX0_counts_8 : decode cX0_counts 8 = .ok (.iadd, 1) := by decide +kernel
theorem dX0_counts_9 : decode cX0_counts 9 = .ok (.iconst 0, 1) := by decide +kernel
theorem dX0_counts_10 : decode cX0_counts 10 = .ok (.iadd, 1) := by decide +kernel
theorem dX0_counts_11 : decode cX0_counts 11 = .ok (.istore_n 3, 1) := by decide +kernel
theorem dX0_counts_12 : decode cX0_counts 12 = .ok (.iload_n 2, 1) := by decide +kernel
theorem dX0_counts_13 : decode cX0_counts 13 = .ok (.ifCond .eq 25, 3) := by decide +kernel
theorem dX0_counts_16 : decode cX0_counts 16 = .ok (.aload_n 0, 1) := by decide +kernel
theorem dX0_counts_17 : decode cX0_counts 17 = .ok (.getfield 11, 3) := by decide +kernel
theorem dX0_counts_20 : decode cX0_counts 20 = .ok (.iload_n 3, 1) := by decide +kernel
theorem dX0_counts_21 : decode cX0_counts 21 = .ok (.iaload, 1) := by decide +kernel
theorem dX0_counts_22 : decode cX0_counts 22 = .ok (.iconst 1, 1) := by decide +kernel
theorem dX0_counts_23 : decode cX0_counts 23 = .ok (.if_icmp .eq 15, 3) := by decide +kernel
theorem dX0_counts_26 : decode cX0_counts 26 = .ok (.aload_n 0, 1) := by decide +kernel
theorem dX0_counts_27 : decode cX0_counts 27 = .ok (.getfield 11, 3) := by decide +kernel
theorem dX0_counts_30 : decode cX0_counts 30 = .ok (.iload_n 3, 1) := by decide +kernel
theorem dX0_counts_31 : decode cX0_counts 31 = .ok (.iconst 4, 1) := by decide +kernel
theorem dX0_counts_32 : decode cX0_counts 32 = .ok (.iadd, 1) := by decide +kernel
theorem dX0_counts_33 : decode cX0_counts 33 = .ok (.iaload, 1) := by decide +kernel
theorem dX0_counts_34 : decode cX0_counts 34 = .ok (.iconst 1, 1) := by decide +kernel
theorem dX0_counts_35 : decode cX0_counts 35 = .ok (.if_icmp .ne 7, 3) := by decide +kernel
theorem dX0_counts_38 : decode cX0_counts 38 = .ok (.iconst 1, 1) := by decide +kernel
theorem dX0_counts_39 : decode cX0_counts 39 = .ok (.goto 4, 3) := by decide +kernel
theorem dX0_counts_42 : decode cX0_counts 42 = .ok (.iconst 0, 1) := by decide +kernel
theorem dX0_counts_43 : decode cX0_counts 43 = .ok (.ireturn, 1) := by decide +kernel
def fX0_counts (s : Mem) (p0 : Int32) (p1 : Int32) : Option Int32 :=
  lt ((((24 : Int32) * p0) + ((8 : Int32) * p1)) + (0 : Int32)) (fun x1 => if p1 = (0 : Int32) then some (1 : Int32) else gd x1 171 (if (s.1 2 x1.toNatClampNeg) = (1 : Int32) then some (1 : Int32) else gd (x1 + (4 : Int32)) 171 (if (s.1 2 (x1 + (4 : Int32)).toNatClampNeg) = (1 : Int32) then some (1 : Int32) else some (0 : Int32))))
set_option maxRecDepth 4000 in
theorem jjX0_counts {X : Scr} (d : Nat) (s : Mem) (p0 : Int32) (p1 : Int32) {r : Int32} {w : Option Value} {s' : Mem} (hh : fX0_counts s p0 p1 = some r) (hk : w = some (.int r) ∧ s = s') : J X MX0_counts (d + 0) 0 [some (.ref 1), some (.int p0), some (.int p1), none] [] s w s' := by
  unfold fX0_counts at hh
  refine J_bipush (pc := 0) dX0_counts_0 cb_24 ?_
  refine J_iload_n (pc := 2) dX0_counts_2 rfl ?_
  refine J_imul (pc := 3) dX0_counts_3 ?_
  refine J_bipush (pc := 4) dX0_counts_4 cb_8 ?_
  refine J_iload_n (pc := 6) dX0_counts_6 rfl ?_
  refine J_imul (pc := 7) dX0_counts_7 ?_
  refine J_iadd (pc := 8) dX0_counts_8 ?_
  refine J_iconst (pc := 9) dX0_counts_9 ci_0 ?_
  refine J_iadd (pc := 10) dX0_counts_10 ?_
  refine J_istoreL_n (pc := 11) (fun x1 => [some (.ref 1), some (.int p0), some (.int p1), some (.int x1)]) dX0_counts_11 rfl (Nat.le_of_ble_eq_true rfl) (fun _ => rfl) hh (fun x1 hh => ?_)
  refine J_iload_n (pc := 12) dX0_counts_12 rfl ?_
  refine J_if_eq (pc := 13) 38 dX0_counts_13 (by decide) (fun c6 => ?_) (fun c6 => ?_)
  · replace hh := (if_pos c6).symm.trans hh
    refine J_iconst (pc := 38) dX0_counts_38 ci_1 ?_
    refine J_goto (pc := 39) 43 dX0_counts_39 (by decide) ?_
    obtain rfl := Option.some.inj hh
    obtain ⟨rfl, rfl⟩ := hk
    exact J_ret (w := some (.int (1 : Int32))) ⟨dX0_counts_43, _, rfl, rfl⟩
  · replace hh := (if_neg c6).symm.trans hh
    refine J_aload_n (pc := 16) dX0_counts_16 rfl ?_
    refine J_getR (pc := 17) (k := 0) flX0_11 so1 fk1_0 dX0_counts_17 ?_
    refine J_iload_n (pc := 20) dX0_counts_20 rfl ?_
    obtain ⟨h2, hh⟩ := gd_some hh
    refine J_iald (pc := 21) dX0_counts_21 sa2 h2 ?_
    refine J_iconst (pc := 22) dX0_counts_22 ci_1 ?_
    refine J_icmp_eq (pc := 23) 38 dX0_counts_23 (by decide) (fun c5 => ?_) (fun c5 => ?_)
    · replace hh := (if_pos c5).symm.trans hh
      refine J_iconst (pc := 38) dX0_counts_38 ci_1 ?_
      refine J_goto (pc := 39) 43 dX0_counts_39 (by decide) ?_
      obtain rfl := Option.some.inj hh
      obtain ⟨rfl, rfl⟩ := hk
      exact J_ret (w := some (.int (1 : Int32))) ⟨dX0_counts_43, _, rfl, rfl⟩
    · replace hh := (if_neg c5).symm.trans hh
      refine J_aload_n (pc := 26) dX0_counts_26 rfl ?_
      refine J_getR (pc := 27) (k := 0) flX0_11 so1 fk1_0 dX0_counts_27 ?_
      refine J_iload_n (pc := 30) dX0_counts_30 rfl ?_
      refine J_iconst (pc := 31) dX0_counts_31 ci_4 ?_
      refine J_iadd (pc := 32) dX0_counts_32 ?_
      obtain ⟨h3, hh⟩ := gd_some hh
      refine J_iald (pc := 33) dX0_counts_33 sa2 h3 ?_
      refine J_iconst (pc := 34) dX0_counts_34 ci_1 ?_
      refine J_icmp_ne (pc := 35) 42 dX0_counts_35 (by decide) (fun c4 => ?_) (fun c4 => ?_)
      · replace hh := (if_neg c4).symm.trans hh
        refine J_iconst (pc := 42) dX0_counts_42 ci_0 ?_
        obtain rfl := Option.some.inj hh
        obtain ⟨rfl, rfl⟩ := hk
        exact J_ret (w := some (.int (0 : Int32))) ⟨dX0_counts_43, _, rfl, rfl⟩
      · replace hh := (if_pos c4).symm.trans hh
        refine J_iconst (pc := 38) dX0_counts_38 ci_1 ?_
        refine J_goto (pc := 39) 43 dX0_counts_39 (by decide) ?_
        obtain rfl := Option.some.inj hh
        obtain ⟨rfl, rfl⟩ := hk
        exact J_ret (w := some (.int (1 : Int32))) ⟨dX0_counts_43, _, rfl, rfl⟩
theorem jX0_counts {X : Scr} (d : Nat) (s : Mem) (p0 : Int32) (p1 : Int32) {r : Int32} (hh : fX0_counts s p0 p1 = some r) : J X MX0_counts (d + 0) 0 [some (.ref 1), some (.int p0), some (.int p1), none] [] s (some (.int r)) s := jjX0_counts d s p0 p1 hh ⟨rfl, rfl⟩
theorem dX0_goesWith_0 : decode cX0_goesWith 0 = .ok (.aload_n 0, 1) := by decide +kernel
theorem dX0_goesWith_1 : decode cX0_goesWith 1 = .ok (.iload_n 1, 1) := by decide +kernel
theorem dX0_goesWith_2 : decode cX0_goesWith 2 = .ok (.iload_n 2, 1) := by decide +kernel
theorem dX0_goesWith_3 : decode cX0_goesWith 3 = .ok (.iload_n 3, 1) := by decide +kernel
theorem dX0_goesWith_4 : decode cX0_goesWith 4 = .ok (.iconst 3, 1) := by decide +kernel
theorem dX0_goesWith_5 : decode cX0_goesWith 5 = .ok (.invokevirtual 51, 3) := by decide +kernel
theorem dX0_goesWith_8 : decode cX0_goesWith 8 = .ok (.istore 5, 2) := by decide +kernel
theorem dX0_goesWith_10 : decode cX0_goesWith 10 = .ok (.aload_n 0, 1) := by decide +kernel
theorem dX0_goesWith_11 : decode cX0_goesWith 11 = .ok (.iload_n 1, 1) := by decide +kernel
theorem dX0_goesWith_12 : decode cX0_goesWith 12 = .ok (.iload_n 2, 1) := by decide +kernel
theorem dX0_goesWith_13 : decode cX0_goesWith 13 = .ok (.iload_n 3, 1) := by decide +kernel
theorem dX0_goesWith_14 : decode cX0_goesWith 14 = .ok (.invokevirtual 43, 3) := by decide +kernel
theorem dX0_goesWith_17 : decode cX0_goesWith 17 = .ok (.ifCond .eq 20, 3) := by decide +kernel
theorem dX0_goesWith_20 : decode cX0_goesWith 20 = .ok (.iload 5, 2) := by decide +kernel
theorem dX0_goesWith_22 : decode cX0_goesWith 22 = .ok (.iconst (-1), 1) := by decide +kernel
theorem dX0_goesWith_23 : decode cX0_goesWith 23 = .ok (.if_icmp .eq 10, 3) := by decide +kernel
theorem dX0_goesWith_26 : decode cX0_goesWith 26 = .ok (.iload 5, 2) := by decide +kernel
theorem dX0_goesWith_28 : decode cX0_goesWith 28 = .ok (.iload 4, 2) := by decide +kernel
theorem dX0_goesWith_30 : decode cX0_goesWith 30 = .ok (.if_icmp .ne 7, 3) := by decide +kernel
theorem dX0_goesWith_33 : decode cX0_goesWith 33 = .ok (.iconst 1, 1) := by decide +kernel
theorem dX0_goesWith_34 : decode cX0_goesWith 34 = .ok (.goto 4, 3) := by decide +kernel
theorem dX0_goesWith_37 : decode cX0_goesWith 37 = .ok (.iconst 0, 1) := by decide +kernel
theorem dX0_goesWith_38 : decode cX0_goesWith 38 = .ok (.ireturn, 1) := by decide +kernel
def fX0_goesWith (s : Mem) (p0 : Int32) (p1 : Int32) (p2 : Int32) (p3 : Int32) : Option Int32 :=
  (fX0_ofSection s p0 p1 p2 (3 : Int32)).bind (fun y1 => (fX0_isOpen s p0 p1 p2).bind (fun y2 => if y2 = (0 : Int32) then some (0 : Int32) else if y1 = (-1 : Int32) then some (1 : Int32) else if y1 = p3 then some (1 : Int32) else some (0 : Int32)))
set_option maxRecDepth 4000 in
theorem jjX0_goesWith {X : Scr} (d : Nat) (s : Mem) (p0 : Int32) (p1 : Int32) (p2 : Int32) (p3 : Int32) {r : Int32} {w : Option Value} {s' : Mem} (hh : fX0_goesWith s p0 p1 p2 p3 = some r) (hk : w = some (.int r) ∧ s = s') : J X MX0_goesWith (d + 1) 0 [some (.ref 1), some (.int p0), some (.int p1), some (.int p2), some (.int p3), none] [] s w s' := by
  unfold fX0_goesWith at hh
  refine J_aload_n (pc := 0) dX0_goesWith_0 rfl ?_
  refine J_iload_n (pc := 1) dX0_goesWith_1 rfl ?_
  refine J_iload_n (pc := 2) dX0_goesWith_2 rfl ?_
  refine J_iload_n (pc := 3) dX0_goesWith_3 rfl ?_
  refine J_iconst (pc := 4) dX0_goesWith_4 ci_3 ?_
  obtain ⟨y1, hy1, hh⟩ := bd_some hh
  refine J_callVi (pc := 5) (M' := MX0_ofSection) (a := 1) (rest := []) (As := [.int p0, .int p1, .int p2, .int (3 : Int32)]) (L0 := [some (.ref 1), some (.int p0), some (.int p1), some (.int p2), some (.int (3 : Int32))]) okX0_ofSection ovX0_ofSection mlX0_51 clX0 so1 rfl rfl (Nat.le_of_ble_eq_true rfl) dX0_goesWith_5 rfl (Nat.le_of_ble_eq_true rfl) (jX0_ofSection (X := X) d s p0 p1 p2 (3 : Int32) hy1) ?_
  refine J_istore (pc := 8) (L' := [some (.ref 1), some (.int p0), some (.int p1), some (.int p2), some (.int p3), some (.int y1)]) dX0_goesWith_8 rfl (Nat.le_of_ble_eq_true rfl) rfl ?_
  refine J_aload_n (pc := 10) dX0_goesWith_10 rfl ?_
  refine J_iload_n (pc := 11) dX0_goesWith_11 rfl ?_
  refine J_iload_n (pc := 12) dX0_goesWith_12 rfl ?_
  refine J_iload_n (pc := 13) dX0_goesWith_13 rfl ?_
  obtain ⟨y2, hy2, hh⟩ := bd_some hh
  refine J_callVi (pc := 14) (M' := MX0_isOpen) (a := 1) (rest := []) (As := [.int p0, .int p1, .int p2]) (L0 := [some (.ref 1), some (.int p0), some (.int p1), some (.int p2)]) okX0_isOpen ovX0_isOpen mlX0_43 clX0 so1 rfl rfl (Nat.le_of_ble_eq_true rfl) dX0_goesWith_14 rfl (Nat.le_of_ble_eq_true rfl) (jX0_isOpen (X := X) d s p0 p1 p2 hy2) ?_
  refine J_if_eq (pc := 17) 37 dX0_goesWith_17 (by decide) (fun c5 => ?_) (fun c5 => ?_)
  · replace hh := (if_pos c5).symm.trans hh
    refine J_iconst (pc := 37) dX0_goesWith_37 ci_0 ?_
    obtain rfl := Option.some.inj hh
    obtain ⟨rfl, rfl⟩ := hk
    exact J_ret (w := some (.int (0 : Int32))) ⟨dX0_goesWith_38, _, rfl, rfl⟩
  · replace hh := (if_neg c5).symm.trans hh
    refine J_iload (pc := 20) dX0_goesWith_20 rfl ?_
    refine J_iconst (pc := 22) dX0_goesWith_22 ci_m1 ?_
    refine J_icmp_eq (pc := 23) 33 dX0_goesWith_23 (by decide) (fun c4 => ?_) (fun c4 => ?_)
    · replace hh := (if_pos c4).symm.trans hh
      refine J_iconst (pc := 33) dX0_goesWith_33 ci_1 ?_
      refine J_goto (pc := 34) 38 dX0_goesWith_34 (by decide) ?_
      obtain rfl := Option.some.inj hh
      obtain ⟨rfl, rfl⟩ := hk
      exact J_ret (w := some (.int (1 : Int32))) ⟨dX0_goesWith_38, _, rfl, rfl⟩
    · replace hh := (if_neg c4).symm.trans hh
      refine J_iload (pc := 26) dX0_goesWith_26 rfl ?_
      refine J_iload (pc := 28) dX0_goesWith_28 rfl ?_
      refine J_icmp_ne (pc := 30) 37 dX0_goesWith_30 (by decide) (fun c3 => ?_) (fun c3 => ?_)
      · replace hh := (if_neg c3).symm.trans hh
        refine J_iconst (pc := 37) dX0_goesWith_37 ci_0 ?_
        obtain rfl := Option.some.inj hh
        obtain ⟨rfl, rfl⟩ := hk
        exact J_ret (w := some (.int (0 : Int32))) ⟨dX0_goesWith_38, _, rfl, rfl⟩
      · replace hh := (if_pos c3).symm.trans hh
        refine J_iconst (pc := 33) dX0_goesWith_33 ci_1 ?_
        refine J_goto (pc := 34) 38 dX0_goesWith_34 (by decide) ?_
        obtain rfl := Option.some.inj hh
        obtain ⟨rfl, rfl⟩ := hk
        exact J_ret (w := some (.int (1 : Int32))) ⟨dX0_goesWith_38, _, rfl, rfl⟩
theorem jX0_goesWith {X : Scr} (d : Nat) (s : Mem) (p0 : Int32) (p1 : Int32) (p2 : Int32) (p3 : Int32) {r : Int32} (hh : fX0_goesWith s p0 p1 p2 p3 = some r) : J X MX0_goesWith (d + 1) 0 [some (.ref 1), some (.int p0), some (.int p1), some (.int p2), some (.int p3), none] [] s (some (.int r)) s := jjX0_goesWith d s p0 p1 p2 p3 hh ⟨rfl, rfl⟩
theorem dX0_lawfulHours_0 : decode cX0_lawfulHours 0 = .ok (.iload_n 2, 1) := by decide +kernel
theorem dX0_lawfulHours_1 : decode cX0_lawfulHours 1 = .ok (.iconst 0, 1) := by decide +kernel
theorem dX0_lawfulHours_2 : decode cX0_lawfulHours 2 = .ok (.invokestatic 71, 3) := by decide +kernel
theorem dX0_lawfulHours_5 : decode cX0_lawfulHours 5 = .ok (.istore_n 3, 1) := by decide +kernel
theorem dX0_lawfulHours_6 : decode cX0_lawfulHours 6 = .ok (.aload_n 0, 1) := by decide +kernel
theorem dX0_lawfulHours_7 : decode cX0_lawfulHours 7 = .ok (.iload_n 1, 1) := by decide +kernel
theorem dX0_lawfulHours_8 : decode cX0_lawfulHours 8 = .ok (.iconst 0, 1) := by decide +kernel
theorem dX0_lawfulHours_9 : decode cX0_lawfulHours 9 = .ok (.iload_n 3, 1) := by decide +kernel
theorem dX0_lawfulHours_10 : decode cX0_lawfulHours 10 = .ok (.invokevirtual 43, 3) := by decide +kernel
theorem dX0_lawfulHours_13 : decode cX0_lawfulHours 13 = .ok (.ifCond .ne 5, 3) := by decide +kernel
theorem dX0_lawfulHours_16 : decode cX0_lawfulHours 16 = .ok (.iconst (-1), 1) := by decide +kernel
theorem dX0_lawfulHours_17 : decode cX0_lawfulHours 17 = .ok (.ireturn, 1) := by decide +kernel
theorem dX0_lawfulHours_18 : decode cX0_lawfulHours 18 = .ok (.aload_n 0, 1) := by decide +kernel
theorem dX0_lawfulHours_19 : decode cX0_lawfulHours 19 = .ok (.iload_n 1, 1) := by decide +kernel
theorem dX0_lawfulHours_20 : decode cX0_lawfulHours 20 = .ok (.iconst 0, 1) := by decide +kernel
theorem dX0_lawfulHours_21 : decode cX0_lawfulHours 21 = .ok (.iload_n 3, 1) := by decide +kernel
theorem dX0_lawfulHours_22 : decode cX0_lawfulHours 22 = .ok (.iconst 1, 1) := by decide +kernel
theorem dX0_lawfulHours_23 : decode cX0_lawfulHours 23 = .ok (.invokevirtual 51, 3) := by decide +kernel
theorem dX0_lawfulHours_26 : decode cX0_lawfulHours 26 = .ok (.istore 4, 2) := by decide +kernel
theorem dX0_lawfulHours_28 : decode cX0_lawfulHours 28 = .ok (.iconst 1, 1) := by decide +kernel
theorem dX0_lawfulHours_29 : decode cX0_lawfulHours 29 = .ok (.istore 5, 2) := by decide +kernel
theorem dX0_lawfulHours_31 : decode cX0_lawfulHours 31 = .ok (.iload 5, 2) := by decide +kernel
theorem dX0_lawfulHours_33 : decode cX0_lawfulHours 33 = .ok (.iconst 3, 1) := by decide +kernel
theorem dX0_lawfulHours_34 : decode cX0_lawfulHours 34 = .ok (.if_icmp .ge 84, 3) := by decide +kernel
theorem dX0_lawfulHours_37 : decode cX0_lawfulHours 37 = .ok (.iload_n 2, 1) := by decide +kernel
theorem dX0_lawfulHours_38 : decode cX0_lawfulHours 38 = .ok (.iload 5, 2) := by decide +kernel
theorem dX0_lawfulHours_40 : decode cX0_lawfulHours 40 = .ok (.invokestatic 71, 3) := by decide +kernel
theorem dX0_lawfulHours_43 : decode cX0_lawfulHours 43 = .ok (.istore 6, 2) := by decide +kernel
theorem dX0_lawfulHours_45 : decode cX0_lawfulHours 45 = .ok (.iconst 0, 1) := by decide +kernel
theorem dX0_lawfulHours_46 : decode cX0_lawfulHours 46 = .ok (.istore 7, 2) := by decide +kernel
theorem dX0_lawfulHours_48 : decode cX0_lawfulHours 48 = .ok (.aload_n 0, 1) := by decide +kernel
theorem dX0_lawfulHours_49 : decode cX0_lawfulHours 49 = .ok (.iload_n 1, 1) := by decide +kernel
theorem dX0_lawfulHours_50 : decode cX0_lawfulHours 50 = .ok (.iload 5, 2) := by decide +kernel
theorem dX0_lawfulHours_52 : decode cX0_lawfulHours 52 = .ok (.invokevirtual 74, 3) := by decide +kernel
theorem dX0_lawfulHours_55 : decode cX0_lawfulHours 55 = .ok (.ifCond .eq 33, 3) := by decide +kernel
theorem dX0_lawfulHours_58 : decode cX0_lawfulHours 58 = .ok (.aload_n 0, 1) := by decide +kernel
theorem dX0_lawfulHours_59 : decode cX0_lawfulHours 59 = .ok (.iload_n 1, 1) := by decide +kernel
theorem dX0_lawfulHours_60 : decode cX0_lawfulHours 60 = .ok (.iload 5, 2) := by decide +kernel
theorem dX0_lawfulHours_62 : decode cX0_lawfulHours 62 = .ok (.iload 6, 2) := by decide +kernel
theorem dX0_lawfulHours_64 : decode cX0_lawfulHours 64 = .ok (.iload_n 3, 1) := by decide +kernel
theorem dX0_lawfulHours_65 : decode cX0_lawfulHours 65 = .ok (.invokevirtual 77, 3) := by decide +kernel
theorem dX0_lawfulHours_68 : decode cX0_lawfulHours 68 = .ok (.ifCond .ne 5, 3) := by decide +kernel
theorem dX0_lawfulHours_71 : decode cX0_lawfulHours 71 = .ok (.iconst (-1), 1) := by decide +kernel
theorem dX0_lawfulHours_72 : decode cX0_lawfulHours 72 = .ok (.ireturn, 1) := by decide +kernel
theorem dX0_lawfulHours_73 : decode cX0_lawfulHours 73 = .ok (.aload_n 0, 1) := by decide +kernel
theorem dX0_lawfulHours_74 : decode cX0_lawfulHours 74 = .ok (.iload_n 1, 1) := by decide +kernel
theorem dX0_lawfulHours_75 : decode cX0_lawfulHours 75 = .ok (.iload 5, 2) := by decide +kernel
theorem dX0_lawfulHours_77 : decode cX0_lawfulHours 77 = .ok (.iload 6, 2) := by decide +kernel
theorem dX0_lawfulHours_79 : decode cX0_lawfulHours 79 = .ok (.iconst 1, 1) := by decide +kernel
theorem dX0_lawfulHours_80 : decode cX0_lawfulHours 80 = .ok (.invokevirtual 51, 3) := by decide +kernel
theorem dX0_lawfulHours_83 : decode cX0_lawfulHours 83 = .ok (.istore 7, 2) := by decide +kernel
theorem dX0_lawfulHours_85 : decode cX0_lawfulHours 85 = .ok (.goto 10, 3) := by decide +kernel
theorem dX0_lawfulHours_88 : decode cX0_lawfulHours 88 = .ok (.iload 6, 2) := by decide +kernel
theorem dX0_lawfulHours_90 : decode cX0_lawfulHours 90 = .ok (.ifCond .eq 5, 3) := by decide +kernel
theorem dX0_lawfulHours_93 : decode cX0_lawfulHours 93 = .ok (.iconst (-1), 1) := by decide +kernel
theorem dX0_lawfulHours_94 : decode cX0_lawfulHours 94 = .ok (.ireturn, 1) := by decide +kernel
theorem dX0_lawfulHours_95 : decode cX0_lawfulHours 95 = .ok (.iload 4, 2) := by decide +kernel
theorem dX0_lawfulHours_97 : decode cX0_lawfulHours 97 = .ok (.iload 7, 2) := by decide +kernel
theorem dX0_lawfulHours_99 : decode cX0_lawfulHours 99 = .ok (.iand, 1) := by decide +kernel
theorem dX0_lawfulHours_100 : decode cX0_lawfulHours 100 = .ok (.ifCond .eq 5, 3) := by decide +kernel
theorem dX0_lawfulHours_103 : decode cX0_lawfulHours 103 = .ok (.iconst (-1), 1) := by decide +kernel
theorem dX0_lawfulHours_104 : decode cX0_lawfulHours 104 = .ok (.ireturn, 1) := by decide +kernel
theorem dX0_lawfulHours_105 : decode cX0_lawfulHours 105 = .ok (.iload 4, 2) := by decide +kernel
theorem dX0_lawfulHours_107 : decode cX0_lawfulHours 107 = .ok (.iload 7, 2) := by decide +kernel
theorem dX0_lawfulHours_109 : decode cX0_lawfulHours 109 = .ok (.ior, 1) := by decide +kernel
theorem dX0_lawfulHours_110 : decode cX0_lawfulHours 110 = .ok (.istore 4, 2) := by decide +kernel
theorem dX0_lawfulHours_112 : decode cX0_lawfulHours 112 = .ok (.iinc 5 1, 3) := by decide +kernel
theorem dX0_lawfulHours_115 : decode cX0_lawfulHours 115 = .ok (.goto (-84), 3) := by decide +kernel
theorem dX0_lawfulHours_118 : decode cX0_lawfulHours 118 = .ok (.iload 4, 2) := by decide +kernel
theorem dX0_lawfulHours_120 : decode cX0_lawfulHours 120 = .ok (.ireturn, 1) := by decide +kernel
def gX0_lawfulHours_95 (s : Mem) (v1 : Int32) (v2 : Int32) (v3 : Int32) (v4 : Int32) (v5 : Int32) (v7 : Int32) : Option ((Int32 ⊕ Int32) ⊕ (Int32 × Int32)) :=
  if (v4 &&& v7) = (0 : Int32) then lt (v4 ||| v7) (fun x6 => lt (v5 + (1 : Int32)) (fun x7 => some (Sum.inr (x6, x7)))) else some (Sum.inl (Sum.inl (-1 : Int32)))
set_option maxRecDepth 4000 in
theorem jgX0_lawfulHours_95 {X : Scr} (d : Nat) (s : Mem) (v1 : Int32) (v2 : Int32) (v3 : Int32) (v4 : Int32) (v5 : Int32) (v7 : Int32) {r : ((Int32 ⊕ Int32) ⊕ (Int32 × Int32))} {w : Option Value} {s' : Mem} (hh : gX0_lawfulHours_95 s v1 v2 v3 v4 v5 v7 = some r) (hk : Sum.elim (Sum.elim (fun q : Int32 => w = some (.int q) ∧ s = s') (fun t : Int32 => J X MX0_lawfulHours (d + 2) 118 [none, none, none, none, some (.int t), none, none, none] [] s w s')) (fun a : (Int32 × Int32) => J X MX0_lawfulHours (d + 2) 31 [some (.ref 1), some (.int v1), some (.int v2), some (.int v3), some (.int a.1), some (.int a.2), none, none] [] s w s') r) : J X MX0_lawfulHours (d + 2) 95 [some (.ref 1), some (.int v1), some (.int v2), some (.int v3), some (.int v4), some (.int v5), none, some (.int v7)] [] s w s' := by
  unfold gX0_lawfulHours_95 at hh
  refine J_iload (pc := 95) dX0_lawfulHours_95 rfl ?_
  refine J_iload (pc := 97) dX0_lawfulHours_97 rfl ?_
  refine J_iand (pc := 99) dX0_lawfulHours_99 ?_
  refine J_if_eq (pc := 100) 105 dX0_lawfulHours_100 (by decide) (fun c8 => ?_) (fun c8 => ?_)
  · replace hh := (if_pos c8).symm.trans hh
    refine J_iload (pc := 105) dX0_lawfulHours_105 rfl ?_
    refine J_iload (pc := 107) dX0_lawfulHours_107 rfl ?_
    refine J_ior (pc := 109) dX0_lawfulHours_109 ?_
    refine J_istoreL (pc := 110) (fun x6 => [some (.ref 1), some (.int v1), some (.int v2), some (.int v3), some (.int x6), some (.int v5), none, some (.int v7)]) dX0_lawfulHours_110 rfl (Nat.le_of_ble_eq_true rfl) (fun _ => rfl) hh (fun x6 hh => ?_)
    refine J_iincL (pc := 112) (v := v5 + (1 : Int32)) (fun x7 => [some (.ref 1), some (.int v1), some (.int v2), some (.int v3), some (.int x6), some (.int x7), none, some (.int v7)]) dX0_lawfulHours_112 rfl rfl (Nat.le_of_ble_eq_true rfl) (congrArg _ ci_1) (fun _ => rfl) hh (fun x7 hh => ?_)
    refine J_goto (pc := 115) 31 dX0_lawfulHours_115 (by decide) ?_
    refine J_drop 7 (L' := [some (.ref 1), some (.int v1), some (.int v2), some (.int v3), some (.int x6), some (.int x7), none, none]) rfl ?_
    obtain rfl := Option.some.inj hh
    exact hk
  · replace hh := (if_neg c8).symm.trans hh
    refine J_iconst (pc := 103) dX0_lawfulHours_103 ci_m1 ?_
    obtain rfl := Option.some.inj hh
    obtain ⟨rfl, rfl⟩ := hk
    exact J_ret (w := some (.int (-1 : Int32))) ⟨dX0_lawfulHours_104, _, rfl, rfl⟩
def bX0_lawfulHours_31 (s : Mem) (v1 : Int32) (v2 : Int32) (v3 : Int32) (v4 : Int32) (v5 : Int32) : Option ((Int32 ⊕ Int32) ⊕ (Int32 × Int32)) :=
  if (3 : Int32) ≤ v5 then some (Sum.inl (Sum.inr v4)) else (fX0_partOf v2 v5).bind (fun y4 => (fX0_counts s v1 v5).bind (fun y5 => if y5 = (0 : Int32) then if y4 = (0 : Int32) then gX0_lawfulHours_95 s v1 v2 v3 v4 v5 (0 : Int32) else some (Sum.inl (Sum.inl (-1 : Int32))) else (fX0_goesWith s v1 v5 y4 v3).bind (fun y10 => if y10 = (0 : Int32) then some (Sum.inl (Sum.inl (-1 : Int32))) else (fX0_ofSection s v1 v5 y4 (1 : Int32)).bind (fun y11 => gX0_lawfulHours_95 s v1 v2 v3 v4 v5 y11))))
set_option maxRecDepth 4000 in
theorem jbX0_lawfulHours_31 {X : Scr} (d : Nat) (s : Mem) (v1 : Int32) (v2 : Int32) (v3 : Int32) (v4 : Int32) (v5 : Int32) {r : ((Int32 ⊕ Int32) ⊕ (Int32 × Int32))} {w : Option Value} {s' : Mem} (hh : bX0_lawfulHours_31 s v1 v2 v3 v4 v5 = some r) (hk : Sum.elim (Sum.elim (fun q : Int32 => w = some (.int q) ∧ s = s') (fun t : Int32 => J X MX0_lawfulHours (d + 2) 118 [none, none, none, none, some (.int t), none, none, none] [] s w s')) (fun a : (Int32 × Int32) => J X MX0_lawfulHours (d + 2) 31 [some (.ref 1), some (.int v1), some (.int v2), some (.int v3), some (.int a.1), some (.int a.2), none, none] [] s w s') r) : J X MX0_lawfulHours (d + 2) 31 [some (.ref 1), some (.int v1), some (.int v2), some (.int v3), some (.int v4), some (.int v5), none, none] [] s w s' := by
  unfold bX0_lawfulHours_31 at hh
  refine J_iload (pc := 31) dX0_lawfulHours_31 rfl ?_
  refine J_iconst (pc := 33) dX0_lawfulHours_33 ci_3 ?_
  refine J_icmp_ge (pc := 34) 118 dX0_lawfulHours_34 (by decide) (fun c14 => ?_) (fun c14 => ?_)
  · replace hh := (if_pos c14).symm.trans hh
    refine J_drop 0 (L' := [none, some (.int v1), some (.int v2), some (.int v3), some (.int v4), some (.int v5), none, none]) rfl ?_
    refine J_drop 1 (L' := [none, none, some (.int v2), some (.int v3), some (.int v4), some (.int v5), none, none]) rfl ?_
    refine J_drop 2 (L' := [none, none, none, some (.int v3), some (.int v4), some (.int v5), none, none]) rfl ?_
    refine J_drop 3 (L' := [none, none, none, none, some (.int v4), some (.int v5), none, none]) rfl ?_
    refine J_drop 5 (L' := [none, none, none, none, some (.int v4), none, none, none]) rfl ?_
    obtain rfl := Option.some.inj hh
    exact hk
  · replace hh := (if_neg c14).symm.trans hh
    refine J_iload_n (pc := 37) dX0_lawfulHours_37 rfl ?_
    refine J_iload (pc := 38) dX0_lawfulHours_38 rfl ?_
    obtain ⟨y4, hy4, hh⟩ := bd_some hh
    refine J_callSi (pc := 40) (M' := MX0_partOf) (rest := []) (As := [.int v2, .int v5]) (L0 := [some (.int v2), some (.int v5)]) okX0_partOf osX0_partOf mlX0_71 rfl rfl (Nat.le_of_ble_eq_true rfl) dX0_lawfulHours_40 rfl (Nat.le_of_ble_eq_true rfl) (jX0_partOf (X := X) (d + 1) s v2 v5 hy4) ?_
    refine J_istore (pc := 43) (L' := [some (.ref 1), some (.int v1), some (.int v2), some (.int v3), some (.int v4), some (.int v5), some (.int y4), none]) dX0_lawfulHours_43 rfl (Nat.le_of_ble_eq_true rfl) rfl ?_
    refine J_iconst (pc := 45) dX0_lawfulHours_45 ci_0 ?_
    refine J_istore (pc := 46) (L' := [some (.ref 1), some (.int v1), some (.int v2), some (.int v3), some (.int v4), some (.int v5), some (.int y4), some (.int (0 : Int32))]) dX0_lawfulHours_46 rfl (Nat.le_of_ble_eq_true rfl) rfl ?_
    refine J_aload_n (pc := 48) dX0_lawfulHours_48 rfl ?_
    refine J_iload_n (pc := 49) dX0_lawfulHours_49 rfl ?_
    refine J_iload (pc := 50) dX0_lawfulHours_50 rfl ?_
    obtain ⟨y5, hy5, hh⟩ := bd_some hh
    refine J_callVi (pc := 52) (M' := MX0_counts) (a := 1) (rest := []) (As := [.int v1, .int v5]) (L0 := [some (.ref 1), some (.int v1), some (.int v5), none]) okX0_counts ovX0_counts mlX0_74 clX0 so1 rfl rfl (Nat.le_of_ble_eq_true rfl) dX0_lawfulHours_52 rfl (Nat.le_of_ble_eq_true rfl) (jX0_counts (X := X) (d + 1) s v1 v5 hy5) ?_
    refine J_if_eq (pc := 55) 88 dX0_lawfulHours_55 (by decide) (fun c13 => ?_) (fun c13 => ?_)
    · replace hh := (if_pos c13).symm.trans hh
      refine J_iload (pc := 88) dX0_lawfulHours_88 rfl ?_
      refine J_if_eq (pc := 90) 95 dX0_lawfulHours_90 (by decide) (fun c9 => ?_) (fun c9 => ?_)
      · replace hh := (if_pos c9).symm.trans hh
        refine J_drop 6 (L' := [some (.ref 1), some (.int v1), some (.int v2), some (.int v3), some (.int v4), some (.int v5), none, some (.int (0 : Int32))]) rfl ?_
        exact jgX0_lawfulHours_95 d s v1 v2 v3 v4 v5 (0 : Int32) hh hk
      · replace hh := (if_neg c9).symm.trans hh
        refine J_iconst (pc := 93) dX0_lawfulHours_93 ci_m1 ?_
        obtain rfl := Option.some.inj hh
        obtain ⟨rfl, rfl⟩ := hk
        exact J_ret (w := some (.int (-1 : Int32))) ⟨dX0_lawfulHours_94, _, rfl, rfl⟩
    · replace hh := (if_neg c13).symm.trans hh
      refine J_aload_n (pc := 58) dX0_lawfulHours_58 rfl ?_
      refine J_iload_n (pc := 59) dX0_lawfulHours_59 rfl ?_
      refine J_iload (pc := 60) dX0_lawfulHours_60 rfl ?_
      refine J_iload (pc := 62) dX0_lawfulHours_62 rfl ?_
      refine J_iload_n (pc := 64) dX0_lawfulHours_64 rfl ?_
      obtain ⟨y10, hy10, hh⟩ := bd_some hh
      refine J_callVi (pc := 65) (M' := MX0_goesWith) (a := 1) (rest := []) (As := [.int v1, .int v5, .int y4, .int v3]) (L0 := [some (.ref 1), some (.int v1), some (.int v5), some (.int y4), some (.int v3), none]) okX0_goesWith ovX0_goesWith mlX0_77 clX0 so1 rfl rfl (Nat.le_of_ble_eq_true rfl) dX0_lawfulHours_65 rfl (Nat.le_of_ble_eq_true rfl) (jX0_goesWith (X := X) d s v1 v5 y4 v3 hy10) ?_
      refine J_if_ne (pc := 68) 73 dX0_lawfulHours_68 (by decide) (fun c12 => ?_) (fun c12 => ?_)
      · replace hh := (if_neg c12).symm.trans hh
        refine J_aload_n (pc := 73) dX0_lawfulHours_73 rfl ?_
        refine J_iload_n (pc := 74) dX0_lawfulHours_74 rfl ?_
        refine J_iload (pc := 75) dX0_lawfulHours_75 rfl ?_
        refine J_iload (pc := 77) dX0_lawfulHours_77 rfl ?_
        refine J_iconst (pc := 79) dX0_lawfulHours_79 ci_1 ?_
        obtain ⟨y11, hy11, hh⟩ := bd_some hh
        refine J_callVi (pc := 80) (M' := MX0_ofSection) (a := 1) (rest := []) (As := [.int v1, .int v5, .int y4, .int (1 : Int32)]) (L0 := [some (.ref 1), some (.int v1), some (.int v5), some (.int y4), some (.int (1 : Int32))]) okX0_ofSection ovX0_ofSection mlX0_51 clX0 so1 rfl rfl (Nat.le_of_ble_eq_true rfl) dX0_lawfulHours_80 rfl (Nat.le_of_ble_eq_true rfl) (jX0_ofSection (X := X) (d + 1) s v1 v5 y4 (1 : Int32) hy11) ?_
        refine J_istore (pc := 83) (L' := [some (.ref 1), some (.int v1), some (.int v2), some (.int v3), some (.int v4), some (.int v5), some (.int y4), some (.int y11)]) dX0_lawfulHours_83 rfl (Nat.le_of_ble_eq_true rfl) rfl ?_
        refine J_goto (pc := 85) 95 dX0_lawfulHours_85 (by decide) ?_
        refine J_drop 6 (L' := [some (.ref 1), some (.int v1), some (.int v2), some (.int v3), some (.int v4), some (.int v5), none, some (.int y11)]) rfl ?_
        exact jgX0_lawfulHours_95 d s v1 v2 v3 v4 v5 y11 hh hk
      · replace hh := (if_pos c12).symm.trans hh
        refine J_iconst (pc := 71) dX0_lawfulHours_71 ci_m1 ?_
        obtain rfl := Option.some.inj hh
        obtain ⟨rfl, rfl⟩ := hk
        exact J_ret (w := some (.int (-1 : Int32))) ⟨dX0_lawfulHours_72, _, rfl, rfl⟩
def fX0_lawfulHours (s : Mem) (p0 : Int32) (p1 : Int32) : Option Int32 :=
  (fX0_partOf p1 (0 : Int32)).bind (fun y1 => (fX0_isOpen s p0 (0 : Int32) y1).bind (fun y2 => if y2 = (0 : Int32) then some (-1 : Int32) else (fX0_ofSection s p0 (0 : Int32) y1 (1 : Int32)).bind (fun y3 => (lp (fun a => bX0_lawfulHours_31 s p0 p1 y1 a.1 a.2) 600 (y3, (1 : Int32))).bind (fun y15 => Sum.elim (fun q17 => some q17) (fun t16 => some t16) y15))))
set_option maxRecDepth 4000 in
theorem jjX0_lawfulHours {X : Scr} (d : Nat) (s : Mem) (p0 : Int32) (p1 : Int32) {r : Int32} {w : Option Value} {s' : Mem} (hh : fX0_lawfulHours s p0 p1 = some r) (hk : w = some (.int r) ∧ s = s') : J X MX0_lawfulHours (d + 2) 0 [some (.ref 1), some (.int p0), some (.int p1), none, none, none, none, none] [] s w s' := by
  unfold fX0_lawfulHours at hh
  refine J_iload_n (pc := 0) dX0_lawfulHours_0 rfl ?_
  refine J_iconst (pc := 1) dX0_lawfulHours_1 ci_0 ?_
  obtain ⟨y1, hy1, hh⟩ := bd_some hh
  refine J_callSi (pc := 2) (M' := MX0_partOf) (rest := []) (As := [.int p1, .int (0 : Int32)]) (L0 := [some (.int p1), some (.int (0 : Int32))]) okX0_partOf osX0_partOf mlX0_71 rfl rfl (Nat.le_of_ble_eq_true rfl) dX0_lawfulHours_2 rfl (Nat.le_of_ble_eq_true rfl) (jX0_partOf (X := X) (d + 1) s p1 (0 : Int32) hy1) ?_
  refine J_istore_n (pc := 5) (L' := [some (.ref 1), some (.int p0), some (.int p1), some (.int y1), none, none, none, none]) dX0_lawfulHours_5 rfl (Nat.le_of_ble_eq_true rfl) rfl ?_
  refine J_aload_n (pc := 6) dX0_lawfulHours_6 rfl ?_
  refine J_iload_n (pc := 7) dX0_lawfulHours_7 rfl ?_
  refine J_iconst (pc := 8) dX0_lawfulHours_8 ci_0 ?_
  refine J_iload_n (pc := 9) dX0_lawfulHours_9 rfl ?_
  obtain ⟨y2, hy2, hh⟩ := bd_some hh
  refine J_callVi (pc := 10) (M' := MX0_isOpen) (a := 1) (rest := []) (As := [.int p0, .int (0 : Int32), .int y1]) (L0 := [some (.ref 1), some (.int p0), some (.int (0 : Int32)), some (.int y1)]) okX0_isOpen ovX0_isOpen mlX0_43 clX0 so1 rfl rfl (Nat.le_of_ble_eq_true rfl) dX0_lawfulHours_10 rfl (Nat.le_of_ble_eq_true rfl) (jX0_isOpen (X := X) (d + 1) s p0 (0 : Int32) y1 hy2) ?_
  refine J_if_ne (pc := 13) 18 dX0_lawfulHours_13 (by decide) (fun c18 => ?_) (fun c18 => ?_)
  · replace hh := (if_neg c18).symm.trans hh
    refine J_aload_n (pc := 18) dX0_lawfulHours_18 rfl ?_
    refine J_iload_n (pc := 19) dX0_lawfulHours_19 rfl ?_
    refine J_iconst (pc := 20) dX0_lawfulHours_20 ci_0 ?_
    refine J_iload_n (pc := 21) dX0_lawfulHours_21 rfl ?_
    refine J_iconst (pc := 22) dX0_lawfulHours_22 ci_1 ?_
    obtain ⟨y3, hy3, hh⟩ := bd_some hh
    refine J_callVi (pc := 23) (M' := MX0_ofSection) (a := 1) (rest := []) (As := [.int p0, .int (0 : Int32), .int y1, .int (1 : Int32)]) (L0 := [some (.ref 1), some (.int p0), some (.int (0 : Int32)), some (.int y1), some (.int (1 : Int32))]) okX0_ofSection ovX0_ofSection mlX0_51 clX0 so1 rfl rfl (Nat.le_of_ble_eq_true rfl) dX0_lawfulHours_23 rfl (Nat.le_of_ble_eq_true rfl) (jX0_ofSection (X := X) (d + 1) s p0 (0 : Int32) y1 (1 : Int32) hy3) ?_
    refine J_istore (pc := 26) (L' := [some (.ref 1), some (.int p0), some (.int p1), some (.int y1), some (.int y3), none, none, none]) dX0_lawfulHours_26 rfl (Nat.le_of_ble_eq_true rfl) rfl ?_
    refine J_iconst (pc := 28) dX0_lawfulHours_28 ci_1 ?_
    refine J_istore (pc := 29) (L' := [some (.ref 1), some (.int p0), some (.int p1), some (.int y1), some (.int y3), some (.int (1 : Int32)), none, none]) dX0_lawfulHours_29 rfl (Nat.le_of_ble_eq_true rfl) rfl ?_
    obtain ⟨y15, hy15, hh⟩ := bd_some hh
    refine J_lp (a := (y3, (1 : Int32))) (fun a : (Int32 × Int32) => J X MX0_lawfulHours (d + 2) 31 [some (.ref 1), some (.int p0), some (.int p1), some (.int y1), some (.int a.1), some (.int a.2), none, none] [] s w s') (Sum.elim (fun q : Int32 => w = some (.int q) ∧ s = s') (fun t : Int32 => J X MX0_lawfulHours (d + 2) 118 [none, none, none, none, some (.int t), none, none, none] [] s w s')) (fun a q h1 h2 => jbX0_lawfulHours_31 d s p0 p1 y1 a.1 a.2 h1 h2) hy15 ?_
    cases y15 with
    | inl q17 =>
      obtain rfl := Option.some.inj hh
      exact hk
    | inr t16 =>
      skip
      replace hh : (some t16) = some r := hh
      refine J_iload (pc := 118) dX0_lawfulHours_118 rfl ?_
      obtain rfl := Option.some.inj hh
      obtain ⟨rfl, rfl⟩ := hk
      exact J_ret (w := some (.int t16)) ⟨dX0_lawfulHours_120, _, rfl, rfl⟩
  · replace hh := (if_pos c18).symm.trans hh
    refine J_iconst (pc := 16) dX0_lawfulHours_16 ci_m1 ?_
    obtain rfl := Option.some.inj hh
    obtain ⟨rfl, rfl⟩ := hk
    exact J_ret (w := some (.int (-1 : Int32))) ⟨dX0_lawfulHours_17, _, rfl, rfl⟩
theorem jX0_lawfulHours {X : Scr} (d : Nat) (s : Mem) (p0 : Int32) (p1 : Int32) {r : Int32} (hh : fX0_lawfulHours s p0 p1 = some r) : J X MX0_lawfulHours (d + 2) 0 [some (.ref 1), some (.int p0), some (.int p1), none, none, none, none, none] [] s (some (.int r)) s := jjX0_lawfulHours d s p0 p1 hh ⟨rfl, rfl⟩
theorem dX0_findLawful_0 : decode cX0_findLawful 0 = .ok (.iconst 0, 1) := by decide +kernel
theorem dX0_findLawful_1 : decode cX0_findLawful 1 = .ok (.istore_n 2, 1) := by decide +kernel
theorem dX0_findLawful_2 : decode cX0_findLawful 2 = .ok (.iload_n 2, 1) := by decide +kernel
theorem dX0_findLawful_3 : decode cX0_findLawful 3 = .ok (.bipush 8, 2) := by decide +kernel
theorem dX0_findLawful_5 : decode cX0_findLawful 5 = .ok (.if_icmp .ge 30, 3) := by decide +kernel
theorem dX0_findLawful_8 : decode cX0_findLawful 8 = .ok (.aload_n 0, 1) := by decide +kernel
theorem dX0_findLawful_9 : decode cX0_findLawful 9 = .ok (.getfield 11, 3) := by decide +kernel
theorem dX0_findLawful_12 : decode cX0_findLawful 12 = .ok (.sipush 139, 3) := by decide +kernel
theorem dX0_findLawful_15 : decode cX0_findLawful 15 = .ok (.bipush 8, 2) := by decide +kernel
theorem dX0_findLawful_17 : decode cX0_findLawful 17 = .ok (.iload_n 1, 1) := by decide +kernel
theorem dX0_findLawful_18 : decode cX0_findLawful 18 = .ok (.imul, 1) := by decide +kernel
theorem dX0_findLawful_19 : decode cX0_findLawful 19 = .ok (.iadd, 1) := by decide +kernel
theorem dX0_findLawful_20 : decode cX0_findLawful 20 = .ok (.iload_n 2, 1) := by decide +kernel
theorem dX0_findLawful_21 : decode cX0_findLawful 21 = .ok (.iadd, 1) := by decide +kernel
theorem dX0_findLawful_22 : decode cX0_findLawful 22 = .ok (.aload_n 0, 1) := by decide +kernel
theorem dX0_findLawful_23 : decode cX0_findLawful 23 = .ok (.iload_n 1, 1) := by decide +kernel
theorem dX0_findLawful_24 : decode cX0_findLawful 24 = .ok (.iload_n 2, 1) := by decide +kernel
theorem dX0_findLawful_25 : decode cX0_findLawful 25 = .ok (.invokevirtual 68, 3) := by decide +kernel
theorem dX0_findLawful_28 : decode cX0_findLawful 28 = .ok (.iastore, 1) := by decide +kernel
theorem dX0_findLawful_29 : decode cX0_findLawful 29 = .ok (.iinc 2 1, 3) := by decide +kernel
theorem dX0_findLawful_32 : decode cX0_findLawful 32 = .ok (.goto (-30), 3) := by decide +kernel
theorem dX0_findLawful_35 : decode cX0_findLawful 35 = .ok (.return_, 1) := by decide +kernel
def bX0_findLawful_2 (s : Mem) (v1 : Int32) (v2 : Int32) : Option (Mem ⊕ (Int32 × Mem)) :=
  if (8 : Int32) ≤ v2 then some (Sum.inl s) else (fX0_lawfulHours s v1 v2).bind (fun y1 => gd (((139 : Int32) + ((8 : Int32) * v1)) + v2) 171 (lt (up2 s 2 (((139 : Int32) + ((8 : Int32) * v1)) + v2).toNatClampNeg y1) (fun s3 => lt (v2 + (1 : Int32)) (fun x4 => some (Sum.inr (x4, s3))))))
set_option maxRecDepth 4000 in
theorem jbX0_findLawful_2 {X : Scr} (d : Nat) (s : Mem) (v1 : Int32) (v2 : Int32) {r : (Mem ⊕ (Int32 × Mem))} {w : Option Value} {s' : Mem} (hh : bX0_findLawful_2 s v1 v2 = some r) (hk : Sum.elim (fun t : Mem => J X MX0_findLawful (d + 3) 35 [none, none, none] [] t w s') (fun a : (Int32 × Mem) => J X MX0_findLawful (d + 3) 2 [some (.ref 1), some (.int v1), some (.int a.1)] [] a.2 w s') r) : J X MX0_findLawful (d + 3) 2 [some (.ref 1), some (.int v1), some (.int v2)] [] s w s' := by
  unfold bX0_findLawful_2 at hh
  refine J_iload_n (pc := 2) dX0_findLawful_2 rfl ?_
  refine J_bipush (pc := 3) dX0_findLawful_3 cb_8 ?_
  refine J_icmp_ge (pc := 5) 35 dX0_findLawful_5 (by decide) (fun c5 => ?_) (fun c5 => ?_)
  · replace hh := (if_pos c5).symm.trans hh
    refine J_drop 0 (L' := [none, some (.int v1), some (.int v2)]) rfl ?_
    refine J_drop 1 (L' := [none, none, some (.int v2)]) rfl ?_
    refine J_drop 2 (L' := [none, none, none]) rfl ?_
    obtain rfl := Option.some.inj hh
    exact hk
  · replace hh := (if_neg c5).symm.trans hh
    refine J_aload_n (pc := 8) dX0_findLawful_8 rfl ?_
    refine J_getR (pc := 9) (k := 0) flX0_11 so1 fk1_0 dX0_findLawful_9 ?_
    refine J_sipush (pc := 12) dX0_findLawful_12 cs_139 ?_
    refine J_bipush (pc := 15) dX0_findLawful_15 cb_8 ?_
    refine J_iload_n (pc := 17) dX0_findLawful_17 rfl ?_
    refine J_imul (pc := 18) dX0_findLawful_18 ?_
    refine J_iadd (pc := 19) dX0_findLawful_19 ?_
    refine J_iload_n (pc := 20) dX0_findLawful_20 rfl ?_
    refine J_iadd (pc := 21) dX0_findLawful_21 ?_
    refine J_aload_n (pc := 22) dX0_findLawful_22 rfl ?_
    refine J_iload_n (pc := 23) dX0_findLawful_23 rfl ?_
    refine J_iload_n (pc := 24) dX0_findLawful_24 rfl ?_
    obtain ⟨y1, hy1, hh⟩ := bd_some hh
    refine J_callVi (pc := 25) (M' := MX0_lawfulHours) (a := 1) (rest := [.int (((139 : Int32) + ((8 : Int32) * v1)) + v2), .ref 2]) (As := [.int v1, .int v2]) (L0 := [some (.ref 1), some (.int v1), some (.int v2), none, none, none, none, none]) okX0_lawfulHours ovX0_lawfulHours mlX0_68 clX0 so1 rfl rfl (Nat.le_of_ble_eq_true rfl) dX0_findLawful_25 rfl (Nat.le_of_ble_eq_true rfl) (jX0_lawfulHours (X := X) d s v1 v2 hy1) ?_
    obtain ⟨h2, hh⟩ := gd_some hh
    refine J_iastL (pc := 28) dX0_findLawful_28 sa2 h2 hh (fun s3 hh => ?_)
    refine J_iincL (pc := 29) (v := v2 + (1 : Int32)) (fun x4 => [some (.ref 1), some (.int v1), some (.int x4)]) dX0_findLawful_29 rfl rfl (Nat.le_of_ble_eq_true rfl) (congrArg _ ci_1) (fun _ => rfl) hh (fun x4 hh => ?_)
    refine J_goto (pc := 32) 2 dX0_findLawful_32 (by decide) ?_
    obtain rfl := Option.some.inj hh
    exact hk
def fX0_findLawful (s : Mem) (p0 : Int32) : Option Mem :=
  (lp (fun a => bX0_findLawful_2 a.2 p0 a.1) 600 ((0 : Int32), s)).bind (fun y6 => some y6)
set_option maxRecDepth 4000 in
theorem jjX0_findLawful {X : Scr} (d : Nat) (s : Mem) (p0 : Int32) {r : Mem} {w : Option Value} {s' : Mem} (hh : fX0_findLawful s p0 = some r) (hk : w = none ∧ r = s') : J X MX0_findLawful (d + 3) 0 [some (.ref 1), some (.int p0), none] [] s w s' := by
  unfold fX0_findLawful at hh
  refine J_iconst (pc := 0) dX0_findLawful_0 ci_0 ?_
  refine J_istore_n (pc := 1) (L' := [some (.ref 1), some (.int p0), some (.int (0 : Int32))]) dX0_findLawful_1 rfl (Nat.le_of_ble_eq_true rfl) rfl ?_
  obtain ⟨y6, hy6, hh⟩ := bd_some hh
  refine J_lp (a := ((0 : Int32), s)) (fun a : (Int32 × Mem) => J X MX0_findLawful (d + 3) 2 [some (.ref 1), some (.int p0), some (.int a.1)] [] a.2 w s') (fun t : Mem => J X MX0_findLawful (d + 3) 35 [none, none, none] [] t w s') (fun a q h1 h2 => jbX0_findLawful_2 d a.2 p0 a.1 h1 h2) hy6 ?_
  obtain rfl := Option.some.inj hh
  obtain ⟨rfl, rfl⟩ := hk
  exact J_ret (w := none) ⟨dX0_findLawful_35, rfl⟩
theorem jX0_findLawful {X : Scr} (d : Nat) (s : Mem) (p0 : Int32) {r : Mem} (hh : fX0_findLawful s p0 = some r) : J X MX0_findLawful (d + 3) 0 [some (.ref 1), some (.int p0), none] [] s (none) r := jjX0_findLawful d s p0 hh ⟨rfl, rfl⟩
theorem dX0_busy_0 : decode cX0_busy 0 = .ok (.iconst 0, 1) := by decide +kernel
theorem dX0_busy_1 : decode cX0_busy 1 = .ok (.istore_n 3, 1) := by decide +kernel
theorem dX0_busy_2 : decode cX0_busy 2 = .ok (.iconst 0, 1) := by decide +kernel
theorem dX0_busy_3 : decode cX0_busy 3 = .ok (.istore 4, 2) := by decide +kernel
theorem dX0_busy_5 : decode cX0_busy 5 = .ok (.iload 4, 2) := by decide +kernel
theorem dX0_busy_7 : decode cX0_busy 7 = .ok (.iconst 4, 1) := by decide +kernel
theorem dX0_busy_8 : decode cX0_busy 8 = .ok (.if_icmp .ge 40, 3) := by decide +kernel
theorem dX0_busy_11 : decode cX0_busy 11 = .ok (.aload_n 0, 1) := by decide +kernel
theorem dX0_busy_12 : decode cX0_busy 12 = .ok (.iload_n 1, 1) := by decide +kernel
theorem dX0_busy_13 : decode cX0_busy 13 = .ok (.iload 4, 2) := by decide +kernel
theorem dX0_busy_15 : decode cX0_busy 15 = .ok (.invokevirtual 36, 3) := by decide +kernel
theorem dX0_busy_18 : decode cX0_busy 18 = .ok (.istore 5, 2) := by decide +kernel
theorem dX0_busy_20 : decode cX0_busy 20 = .ok (.iload 4, 2) := by decide +kernel
theorem dX0_busy_22 : decode cX0_busy 22 = .ok (.iload_n 2, 1) := by decide +kernel
theorem dX0_busy_23 : decode cX0_busy 23 = .ok (.if_icmp .eq 19, 3) := by decide +kernel
theorem dX0_busy_26 : decode cX0_busy 26 = .ok (.iload 5, 2) := by decide +kernel
theorem dX0_busy_28 : decode cX0_busy 28 = .ok (.ifCond .lt 14, 3) := by decide +kernel
theorem dX0_busy_31 : decode cX0_busy 31 = .ok (.iload_n 3, 1) := by decide +kernel
theorem dX0_busy_32 : decode cX0_busy 32 = .ok (.aload_n 0, 1) := by decide +kernel
theorem dX0_busy_33 : decode cX0_busy 33 = .ok (.iload 4, 2) := by decide +kernel
theorem dX0_busy_35 : decode cX0_busy 35 = .ok (.iload 5, 2) := by decide +kernel
theorem dX0_busy_37 : decode cX0_busy 37 = .ok (.invokevirtual 54, 3) := by decide +kernel
theorem dX0_busy_40 : decode cX0_busy 40 = .ok (.ior, 1) := by decide +kernel
theorem dX0_busy_41 : decode cX0_busy 41 = .ok (.istore_n 3, 1) := by decide +kernel
theorem dX0_busy_42 : decode cX0_busy 42 = .ok (.iinc 4 1, 3) := by decide +kernel
theorem dX0_busy_45 : decode cX0_busy 45 = .ok (.goto (-40), 3) := by decide +kernel
theorem dX0_busy_48 : decode cX0_busy 48 = .ok (.iload_n 3, 1) := by decide +kernel
theorem dX0_busy_49 : decode cX0_busy 49 = .ok (.ireturn, 1) := by decide +kernel
def bX0_busy_5 (s : Mem) (v1 : Int32) (v2 : Int32) (v3 : Int32) (v4 : Int32) : Option (Int32 ⊕ (Int32 × Int32)) :=
  if (4 : Int32) ≤ v4 then some (Sum.inl v3) else (fX0_sits s v1 v4).bind (fun y1 => if v4 = v2 then lt (v4 + (1 : Int32)) (fun x2 => some (Sum.inr (v3, x2))) else if y1 < (0 : Int32) then lt (v4 + (1 : Int32)) (fun x3 => some (Sum.inr (v3, x3))) else (fX0_hoursOf s v4 y1).bind (fun y4 => lt (v3 ||| y4) (fun x5 => lt (v4 + (1 : Int32)) (fun x6 => some (Sum.inr (x5, x6))))))
set_option maxRecDepth 4000 in
theorem jbX0_busy_5 {X : Scr} (d : Nat) (s : Mem) (v1 : Int32) (v2 : Int32) (v3 : Int32) (v4 : Int32) {r : (Int32 ⊕ (Int32 × Int32))} {w : Option Value} {s' : Mem} (hh : bX0_busy_5 s v1 v2 v3 v4 = some r) (hk : Sum.elim (fun t : Int32 => J X MX0_busy (d + 1) 48 [none, none, none, some (.int t), none, none] [] s w s') (fun a : (Int32 × Int32) => J X MX0_busy (d + 1) 5 [some (.ref 1), some (.int v1), some (.int v2), some (.int a.1), some (.int a.2), none] [] s w s') r) : J X MX0_busy (d + 1) 5 [some (.ref 1), some (.int v1), some (.int v2), some (.int v3), some (.int v4), none] [] s w s' := by
  unfold bX0_busy_5 at hh
  refine J_iload (pc := 5) dX0_busy_5 rfl ?_
  refine J_iconst (pc := 7) dX0_busy_7 ci_4 ?_
  refine J_icmp_ge (pc := 8) 48 dX0_busy_8 (by decide) (fun c9 => ?_) (fun c9 => ?_)
  · replace hh := (if_pos c9).symm.trans hh
    refine J_drop 0 (L' := [none, some (.int v1), some (.int v2), some (.int v3), some (.int v4), none]) rfl ?_
    refine J_drop 1 (L' := [none, none, some (.int v2), some (.int v3), some (.int v4), none]) rfl ?_
    refine J_drop 2 (L' := [none, none, none, some (.int v3), some (.int v4), none]) rfl ?_
    refine J_drop 4 (L' := [none, none, none, some (.int v3), none, none]) rfl ?_
    obtain rfl := Option.some.inj hh
    exact hk
  · replace hh := (if_neg c9).symm.trans hh
    refine J_aload_n (pc := 11) dX0_busy_11 rfl ?_
    refine J_iload_n (pc := 12) dX0_busy_12 rfl ?_
    refine J_iload (pc := 13) dX0_busy_13 rfl ?_
    obtain ⟨y1, hy1, hh⟩ := bd_some hh
    refine J_callVi (pc := 15) (M' := MX0_sits) (a := 1) (rest := []) (As := [.int v1, .int v4]) (L0 := [some (.ref 1), some (.int v1), some (.int v4)]) okX0_sits ovX0_sits mlX0_36 clX0 so1 rfl rfl (Nat.le_of_ble_eq_true rfl) dX0_busy_15 rfl (Nat.le_of_ble_eq_true rfl) (jX0_sits (X := X) d s v1 v4 hy1) ?_
    refine J_istore (pc := 18) (L' := [some (.ref 1), some (.int v1), some (.int v2), some (.int v3), some (.int v4), some (.int y1)]) dX0_busy_18 rfl (Nat.le_of_ble_eq_true rfl) rfl ?_
    refine J_iload (pc := 20) dX0_busy_20 rfl ?_
    refine J_iload_n (pc := 22) dX0_busy_22 rfl ?_
    refine J_icmp_eq (pc := 23) 42 dX0_busy_23 (by decide) (fun c8 => ?_) (fun c8 => ?_)
    · replace hh := (if_pos c8).symm.trans hh
      refine J_iincL (pc := 42) (v := v4 + (1 : Int32)) (fun x2 => [some (.ref 1), some (.int v1), some (.int v2), some (.int v3), some (.int x2), some (.int y1)]) dX0_busy_42 rfl rfl (Nat.le_of_ble_eq_true rfl) (congrArg _ ci_1) (fun _ => rfl) hh (fun x2 hh => ?_)
      refine J_goto (pc := 45) 5 dX0_busy_45 (by decide) ?_
      refine J_drop 5 (L' := [some (.ref 1), some (.int v1), some (.int v2), some (.int v3), some (.int x2), none]) rfl ?_
      obtain rfl := Option.some.inj hh
      exact hk
    · replace hh := (if_neg c8).symm.trans hh
      refine J_iload (pc := 26) dX0_busy_26 rfl ?_
      refine J_if_lt (pc := 28) 42 dX0_busy_28 (by decide) (fun c7 => ?_) (fun c7 => ?_)
      · replace hh := (if_pos c7).symm.trans hh
        refine J_iincL (pc := 42) (v := v4 + (1 : Int32)) (fun x3 => [some (.ref 1), some (.int v1), some (.int v2), some (.int v3), some (.int x3), some (.int y1)]) dX0_busy_42 rfl rfl (Nat.le_of_ble_eq_true rfl) (congrArg _ ci_1) (fun _ => rfl) hh (fun x3 hh => ?_)
        refine J_goto (pc := 45) 5 dX0_busy_45 (by decide) ?_
        refine J_drop 5 (L' := [some (.ref 1), some (.int v1), some (.int v2), some (.int v3), some (.int x3), none]) rfl ?_
        obtain rfl := Option.some.inj hh
        exact hk
      · replace hh := (if_neg c7).symm.trans hh
        refine J_iload_n (pc := 31) dX0_busy_31 rfl ?_
        refine J_aload_n (pc := 32) dX0_busy_32 rfl ?_
        refine J_iload (pc := 33) dX0_busy_33 rfl ?_
        refine J_iload (pc := 35) dX0_busy_35 rfl ?_
        obtain ⟨y4, hy4, hh⟩ := bd_some hh
        refine J_callVi (pc := 37) (M' := MX0_hoursOf) (a := 1) (rest := [.int v3]) (As := [.int v4, .int y1]) (L0 := [some (.ref 1), some (.int v4), some (.int y1)]) okX0_hoursOf ovX0_hoursOf mlX0_54 clX0 so1 rfl rfl (Nat.le_of_ble_eq_true rfl) dX0_busy_37 rfl (Nat.le_of_ble_eq_true rfl) (jX0_hoursOf (X := X) d s v4 y1 hy4) ?_
        refine J_ior (pc := 40) dX0_busy_40 ?_
        refine J_istoreL_n (pc := 41) (fun x5 => [some (.ref 1), some (.int v1), some (.int v2), some (.int x5), some (.int v4), some (.int y1)]) dX0_busy_41 rfl (Nat.le_of_ble_eq_true rfl) (fun _ => rfl) hh (fun x5 hh => ?_)
        refine J_iincL (pc := 42) (v := v4 + (1 : Int32)) (fun x6 => [some (.ref 1), some (.int v1), some (.int v2), some (.int x5), some (.int x6), some (.int y1)]) dX0_busy_42 rfl rfl (Nat.le_of_ble_eq_true rfl) (congrArg _ ci_1) (fun _ => rfl) hh (fun x6 hh => ?_)
        refine J_goto (pc := 45) 5 dX0_busy_45 (by decide) ?_
        refine J_drop 5 (L' := [some (.ref 1), some (.int v1), some (.int v2), some (.int x5), some (.int x6), none]) rfl ?_
        obtain rfl := Option.some.inj hh
        exact hk
def fX0_busy (s : Mem) (p0 : Int32) (p1 : Int32) : Option Int32 :=
  (lp (fun a => bX0_busy_5 s p0 p1 a.1 a.2) 600 ((0 : Int32), (0 : Int32))).bind (fun y10 => some y10)
set_option maxRecDepth 4000 in
theorem jjX0_busy {X : Scr} (d : Nat) (s : Mem) (p0 : Int32) (p1 : Int32) {r : Int32} {w : Option Value} {s' : Mem} (hh : fX0_busy s p0 p1 = some r) (hk : w = some (.int r) ∧ s = s') : J X MX0_busy (d + 1) 0 [some (.ref 1), some (.int p0), some (.int p1), none, none, none] [] s w s' := by
  unfold fX0_busy at hh
  refine J_iconst (pc := 0) dX0_busy_0 ci_0 ?_
  refine J_istore_n (pc := 1) (L' := [some (.ref 1), some (.int p0), some (.int p1), some (.int (0 : Int32)), none, none]) dX0_busy_1 rfl (Nat.le_of_ble_eq_true rfl) rfl ?_
  refine J_iconst (pc := 2) dX0_busy_2 ci_0 ?_
  refine J_istore (pc := 3) (L' := [some (.ref 1), some (.int p0), some (.int p1), some (.int (0 : Int32)), some (.int (0 : Int32)), none]) dX0_busy_3 rfl (Nat.le_of_ble_eq_true rfl) rfl ?_
  obtain ⟨y10, hy10, hh⟩ := bd_some hh
  refine J_lp (a := ((0 : Int32), (0 : Int32))) (fun a : (Int32 × Int32) => J X MX0_busy (d + 1) 5 [some (.ref 1), some (.int p0), some (.int p1), some (.int a.1), some (.int a.2), none] [] s w s') (fun t : Int32 => J X MX0_busy (d + 1) 48 [none, none, none, some (.int t), none, none] [] s w s') (fun a q h1 h2 => jbX0_busy_5 d s p0 p1 a.1 a.2 h1 h2) hy10 ?_
  refine J_iload_n (pc := 48) dX0_busy_48 rfl ?_
  obtain rfl := Option.some.inj hh
  obtain ⟨rfl, rfl⟩ := hk
  exact J_ret (w := some (.int y10)) ⟨dX0_busy_49, _, rfl, rfl⟩
theorem jX0_busy {X : Scr} (d : Nat) (s : Mem) (p0 : Int32) (p1 : Int32) {r : Int32} (hh : fX0_busy s p0 p1 = some r) : J X MX0_busy (d + 1) 0 [some (.ref 1), some (.int p0), some (.int p1), none, none, none] [] s (some (.int r)) s := jjX0_busy d s p0 p1 hh ⟨rfl, rfl⟩
theorem dX0_freeSet_0 : decode cX0_freeSet 0 = .ok (.aload_n 0, 1) := by decide +kernel
theorem dX0_freeSet_1 : decode cX0_freeSet 1 = .ok (.iload_n 1, 1) := by decide +kernel
theorem dX0_freeSet_2 : decode cX0_freeSet 2 = .ok (.iconst 1, 1) := by decide +kernel
theorem dX0_freeSet_3 : decode cX0_freeSet 3 = .ok (.invokevirtual 61, 3) := by decide +kernel
theorem dX0_freeSet_6 : decode cX0_freeSet 6 = .ok (.aload_n 0, 1) := by decide +kernel
theorem dX0_freeSet_7 : decode cX0_freeSet 7 = .ok (.iload_n 1, 1) := by decide +kernel
theorem dX0_freeSet_8 : decode cX0_freeSet 8 = .ok (.iload_n 2, 1) := by decide +kernel
theorem dX0_freeSet_9 : decode cX0_freeSet 9 = .ok (.invokevirtual 90, 3) := by decide +kernel
theorem dX0_freeSet_12 : decode cX0_freeSet 12 = .ok (.ior, 1) := by decide +kernel
theorem dX0_freeSet_13 : decode cX0_freeSet 13 = .ok (.istore_n 3, 1) := by decide +kernel
theorem dX0_freeSet_14 : decode cX0_freeSet 14 = .ok (.iconst 0, 1) := by decide +kernel
theorem dX0_freeSet_15 : decode cX0_freeSet 15 = .ok (.istore 4, 2) := by decide +kernel
theorem dX0_freeSet_17 : decode cX0_freeSet 17 = .ok (.iconst 0, 1) := by decide +kernel
theorem dX0_freeSet_18 : decode cX0_freeSet 18 = .ok (.istore 5, 2) := by decide +kernel
theorem dX0_freeSet_20 : decode cX0_freeSet 20 = .ok (.iload 5, 2) := by decide +kernel
theorem dX0_freeSet_22 : decode cX0_freeSet 22 = .ok (.bipush 8, 2) := by decide +kernel
theorem dX0_freeSet_24 : decode cX0_freeSet 24 = .ok (.if_icmp .ge 39, 3) := by decide +kernel
theorem dX0_freeSet_27 : decode cX0_freeSet 27 = .ok (.aload_n 0, 1) := by decide +kernel
theorem dX0_freeSet_28 : decode cX0_freeSet 28 = .ok (.iload_n 2, 1) := by decide +kernel
theorem dX0_freeSet_29 : decode cX0_freeSet 29 = .ok (.iload 5, 2) := by decide +kernel
theorem dX0_freeSet_31 : decode cX0_freeSet 31 = .ok (.invokevirtual 54, 3) := by decide +kernel
theorem dX0_freeSet_34 : decode cX0_freeSet 34 = .ok (.istore 6, 2) := by decide +kernel
theorem dX0_freeSet_36 : decode cX0_freeSet 36 = .ok (.iload 6, 2) := by decide +kernel
theorem dX0_freeSet_38 : decode cX0_freeSet 38 = .ok (.ifCond .lt 19, 3) := by decide +kernel
theorem dX0_freeSet_41 : decode cX0_freeSet 41 = .ok (.iload 6, 2) := by decide +kernel
theorem dX0_freeSet_43 : decode cX0_freeSet 43 = .ok (.iload_n 3, 1) := by decide +kernel
theorem dX0_freeSet_44 : decode cX0_freeSet 44 = .ok (.iand, 1) := by decide +kernel
theorem dX0_freeSet_45 : decode cX0_freeSet 45 = .ok (.ifCond .ne 12, 3) := by decide +kernel
theorem dX0_freeSet_48 : decode cX0_freeSet 48 = .ok (.iload 4, 2) := by decide +kernel
theorem dX0_freeSet_50 : decode cX0_freeSet 50 = .ok (.iconst 1, 1) := by decide +kernel
theorem dX0_freeSet_51 : decode cX0_freeSet 51 = .ok (.iload 5, 2) := by decide +kernel
theorem dX0_freeSet_53 : decode cX0_freeSet 53 = .ok (.ishl, 1) := by decide +kernel
theorem dX0_freeSet_54 : decode cX0_freeSet 54 = .ok (.ior, 1) := by decide +kernel
theorem dX0_freeSet_55 : decode cX0_freeSet 55 = .ok (.istore 4, 2) := by decide +kernel
theorem dX0_freeSet_57 : decode cX0_freeSet 57 = .ok (.iinc 5 1, 3) := by decide +kernel
theorem dX0_freeSet_60 : decode cX0_freeSet 60 = .ok (.goto (-40), 3) := by decide +kernel
theorem dX0_freeSet_63 : decode cX0_freeSet 63 = .ok (.iload 4, 2) := by decide +kernel
theorem dX0_freeSet_65 : decode cX0_freeSet 65 = .ok (.ireturn, 1) := by decide +kernel
def bX0_freeSet_20 (s : Mem) (v2 : Int32) (v3 : Int32) (v4 : Int32) (v5 : Int32) : Option (Int32 ⊕ (Int32 × Int32)) :=
  if (8 : Int32) ≤ v5 then some (Sum.inl v4) else (fX0_hoursOf s v2 v5).bind (fun y4 => if y4 < (0 : Int32) then lt (v5 + (1 : Int32)) (fun x5 => some (Sum.inr (v4, x5))) else if (y4 &&& v3) = (0 : Int32) then lt (v4 ||| ((1 : Int32) <<< (v5 &&& 31))) (fun x7 => lt (v5 + (1 : Int32)) (fun x8 => some (Sum.inr (x7, x8)))) else lt (v5 + (1 : Int32)) (fun x6 => some (Sum.inr (v4, x6))))
set_option maxRecDepth 4000 in
theorem jbX0_freeSet_20 {X : Scr} (d : Nat) (s : Mem) (v2 : Int32) (v3 : Int32) (v4 : Int32) (v5 : Int32) {r : (Int32 ⊕ (Int32 × Int32))} {w : Option Value} {s' : Mem} (hh : bX0_freeSet_20 s v2 v3 v4 v5 = some r) (hk : Sum.elim (fun t : Int32 => J X MX0_freeSet (d + 2) 63 [none, none, none, none, some (.int t), none, none] [] s w s') (fun a : (Int32 × Int32) => J X MX0_freeSet (d + 2) 20 [some (.ref 1), none, some (.int v2), some (.int v3), some (.int a.1), some (.int a.2), none] [] s w s') r) : J X MX0_freeSet (d + 2) 20 [some (.ref 1), none, some (.int v2), some (.int v3), some (.int v4), some (.int v5), none] [] s w s' := by
  unfold bX0_freeSet_20 at hh
  refine J_iload (pc := 20) dX0_freeSet_20 rfl ?_
  refine J_bipush (pc := 22) dX0_freeSet_22 cb_8 ?_
  refine J_icmp_ge (pc := 24) 63 dX0_freeSet_24 (by decide) (fun c11 => ?_) (fun c11 => ?_)
  · replace hh := (if_pos c11).symm.trans hh
    refine J_drop 0 (L' := [none, none, some (.int v2), some (.int v3), some (.int v4), some (.int v5), none]) rfl ?_
    refine J_drop 2 (L' := [none, none, none, some (.int v3), some (.int v4), some (.int v5), none]) rfl ?_
    refine J_drop 3 (L' := [none, none, none, none, some (.int v4), some (.int v5), none]) rfl ?_
    refine J_drop 5 (L' := [none, none, none, none, some (.int v4), none, none]) rfl ?_
    obtain rfl := Option.some.inj hh
    exact hk
  · replace hh := (if_neg c11).symm.trans hh
    refine J_aload_n (pc := 27) dX0_freeSet_27 rfl ?_
    refine J_iload_n (pc := 28) dX0_freeSet_28 rfl ?_
    refine J_iload (pc := 29) dX0_freeSet_29 rfl ?_
    obtain ⟨y4, hy4, hh⟩ := bd_some hh
    refine J_callVi (pc := 31) (M' := MX0_hoursOf) (a := 1) (rest := []) (As := [.int v2, .int v5]) (L0 := [some (.ref 1), some (.int v2), some (.int v5)]) okX0_hoursOf ovX0_hoursOf mlX0_54 clX0 so1 rfl rfl (Nat.le_of_ble_eq_true rfl) dX0_freeSet_31 rfl (Nat.le_of_ble_eq_true rfl) (jX0_hoursOf (X := X) (d + 1) s v2 v5 hy4) ?_
    refine J_istore (pc := 34) (L' := [some (.ref 1), none, some (.int v2), some (.int v3), some (.int v4), some (.int v5), some (.int y4)]) dX0_freeSet_34 rfl (Nat.le_of_ble_eq_true rfl) rfl ?_
    refine J_iload (pc := 36) dX0_freeSet_36 rfl ?_
    refine J_if_lt (pc := 38) 57 dX0_freeSet_38 (by decide) (fun c10 => ?_) (fun c10 => ?_)
    · replace hh := (if_pos c10).symm.trans hh
      refine J_iincL (pc := 57) (v := v5 + (1 : Int32)) (fun x5 => [some (.ref 1), none, some (.int v2), some (.int v3), some (.int v4), some (.int x5), some (.int y4)]) dX0_freeSet_57 rfl rfl (Nat.le_of_ble_eq_true rfl) (congrArg _ ci_1) (fun _ => rfl) hh (fun x5 hh => ?_)
      refine J_goto (pc := 60) 20 dX0_freeSet_60 (by decide) ?_
      refine J_drop 6 (L' := [some (.ref 1), none, some (.int v2), some (.int v3), some (.int v4), some (.int x5), none]) rfl ?_
      obtain rfl := Option.some.inj hh
      exact hk
    · replace hh := (if_neg c10).symm.trans hh
      refine J_iload (pc := 41) dX0_freeSet_41 rfl ?_
      refine J_iload_n (pc := 43) dX0_freeSet_43 rfl ?_
      refine J_iand (pc := 44) dX0_freeSet_44 ?_
      refine J_if_ne (pc := 45) 57 dX0_freeSet_45 (by decide) (fun c9 => ?_) (fun c9 => ?_)
      · replace hh := (if_neg c9).symm.trans hh
        refine J_iincL (pc := 57) (v := v5 + (1 : Int32)) (fun x6 => [some (.ref 1), none, some (.int v2), some (.int v3), some (.int v4), some (.int x6), some (.int y4)]) dX0_freeSet_57 rfl rfl (Nat.le_of_ble_eq_true rfl) (congrArg _ ci_1) (fun _ => rfl) hh (fun x6 hh => ?_)
        refine J_goto (pc := 60) 20 dX0_freeSet_60 (by decide) ?_
        refine J_drop 6 (L' := [some (.ref 1), none, some (.int v2), some (.int v3), some (.int v4), some (.int x6), none]) rfl ?_
        obtain rfl := Option.some.inj hh
        exact hk
      · replace hh := (if_pos c9).symm.trans hh
        refine J_iload (pc := 48) dX0_freeSet_48 rfl ?_
        refine J_iconst (pc := 50) dX0_freeSet_50 ci_1 ?_
        refine J_iload (pc := 51) dX0_freeSet_51 rfl ?_
        refine J_ishl (pc := 53) dX0_freeSet_53 ?_
        refine J_ior (pc := 54) dX0_freeSet_54 ?_
        refine J_istoreL (pc := 55) (fun x7 => [some (.ref 1), none, some (.int v2), some (.int v3), some (.int x7), some (.int v5), some (.int y4)]) dX0_freeSet_55 rfl (Nat.le_of_ble_eq_true rfl) (fun _ => rfl) hh (fun x7 hh => ?_)
        refine J_iincL (pc := 57) (v := v5 + (1 : Int32)) (fun x8 => [some (.ref 1), none, some (.int v2), some (.int v3), some (.int x7), some (.int x8), some (.int y4)]) dX0_freeSet_57 rfl rfl (Nat.le_of_ble_eq_true rfl) (congrArg _ ci_1) (fun _ => rfl) hh (fun x8 hh => ?_)
        refine J_goto (pc := 60) 20 dX0_freeSet_60 (by decide) ?_
        refine J_drop 6 (L' := [some (.ref 1), none, some (.int v2), some (.int v3), some (.int x7), some (.int x8), none]) rfl ?_
        obtain rfl := Option.some.inj hh
        exact hk
def fX0_freeSet (s : Mem) (p0 : Int32) (p1 : Int32) : Option Int32 :=
  (fX0_ofPupil s p0 (1 : Int32)).bind (fun y1 => (fX0_busy s p0 p1).bind (fun y2 => lt (y1 ||| y2) (fun x3 => (lp (fun a => bX0_freeSet_20 s p1 x3 a.1 a.2) 600 ((0 : Int32), (0 : Int32))).bind (fun y12 => some y12))))
set_option maxRecDepth 4000 in
theorem jjX0_freeSet {X : Scr} (d : Nat) (s : Mem) (p0 : Int32) (p1 : Int32) {r : Int32} {w : Option Value} {s' : Mem} (hh : fX0_freeSet s p0 p1 = some r) (hk : w = some (.int r) ∧ s = s') : J X MX0_freeSet (d + 2) 0 [some (.ref 1), some (.int p0), some (.int p1), none, none, none, none] [] s w s' := by
  unfold fX0_freeSet at hh
  refine J_aload_n (pc := 0) dX0_freeSet_0 rfl ?_
  refine J_iload_n (pc := 1) dX0_freeSet_1 rfl ?_
  refine J_iconst (pc := 2) dX0_freeSet_2 ci_1 ?_
  obtain ⟨y1, hy1, hh⟩ := bd_some hh
  refine J_callVi (pc := 3) (M' := MX0_ofPupil) (a := 1) (rest := []) (As := [.int p0, .int (1 : Int32)]) (L0 := [some (.ref 1), some (.int p0), some (.int (1 : Int32))]) okX0_ofPupil ovX0_ofPupil mlX0_61 clX0 so1 rfl rfl (Nat.le_of_ble_eq_true rfl) dX0_freeSet_3 rfl (Nat.le_of_ble_eq_true rfl) (jX0_ofPupil (X := X) (d + 1) s p0 (1 : Int32) hy1) ?_
  refine J_aload_n (pc := 6) dX0_freeSet_6 rfl ?_
  refine J_iload_n (pc := 7) dX0_freeSet_7 rfl ?_
  refine J_iload_n (pc := 8) dX0_freeSet_8 rfl ?_
  obtain ⟨y2, hy2, hh⟩ := bd_some hh
  refine J_callVi (pc := 9) (M' := MX0_busy) (a := 1) (rest := [.int y1]) (As := [.int p0, .int p1]) (L0 := [some (.ref 1), some (.int p0), some (.int p1), none, none, none]) okX0_busy ovX0_busy mlX0_90 clX0 so1 rfl rfl (Nat.le_of_ble_eq_true rfl) dX0_freeSet_9 rfl (Nat.le_of_ble_eq_true rfl) (jX0_busy (X := X) d s p0 p1 hy2) ?_
  refine J_ior (pc := 12) dX0_freeSet_12 ?_
  refine J_istoreL_n (pc := 13) (fun x3 => [some (.ref 1), some (.int p0), some (.int p1), some (.int x3), none, none, none]) dX0_freeSet_13 rfl (Nat.le_of_ble_eq_true rfl) (fun _ => rfl) hh (fun x3 hh => ?_)
  refine J_iconst (pc := 14) dX0_freeSet_14 ci_0 ?_
  refine J_istore (pc := 15) (L' := [some (.ref 1), some (.int p0), some (.int p1), some (.int x3), some (.int (0 : Int32)), none, none]) dX0_freeSet_15 rfl (Nat.le_of_ble_eq_true rfl) rfl ?_
  refine J_iconst (pc := 17) dX0_freeSet_17 ci_0 ?_
  refine J_istore (pc := 18) (L' := [some (.ref 1), some (.int p0), some (.int p1), some (.int x3), some (.int (0 : Int32)), some (.int (0 : Int32)), none]) dX0_freeSet_18 rfl (Nat.le_of_ble_eq_true rfl) rfl ?_
  refine J_drop 1 (L' := [some (.ref 1), none, some (.int p1), some (.int x3), some (.int (0 : Int32)), some (.int (0 : Int32)), none]) rfl ?_
  obtain ⟨y12, hy12, hh⟩ := bd_some hh
  refine J_lp (a := ((0 : Int32), (0 : Int32))) (fun a : (Int32 × Int32) => J X MX0_freeSet (d + 2) 20 [some (.ref 1), none, some (.int p1), some (.int x3), some (.int a.1), some (.int a.2), none] [] s w s') (fun t : Int32 => J X MX0_freeSet (d + 2) 63 [none, none, none, none, some (.int t), none, none] [] s w s') (fun a q h1 h2 => jbX0_freeSet_20 d s p1 x3 a.1 a.2 h1 h2) hy12 ?_
  refine J_iload (pc := 63) dX0_freeSet_63 rfl ?_
  obtain rfl := Option.some.inj hh
  obtain ⟨rfl, rfl⟩ := hk
  exact J_ret (w := some (.int y12)) ⟨dX0_freeSet_65, _, rfl, rfl⟩
theorem jX0_freeSet {X : Scr} (d : Nat) (s : Mem) (p0 : Int32) (p1 : Int32) {r : Int32} (hh : fX0_freeSet s p0 p1 = some r) : J X MX0_freeSet (d + 2) 0 [some (.ref 1), some (.int p0), some (.int p1), none, none, none, none] [] s (some (.int r)) s := jjX0_freeSet d s p0 p1 hh ⟨rfl, rfl⟩
theorem dX0_allSitWell_0 : decode cX0_allSitWell 0 = .ok (.iconst 0, 1) := by decide +kernel
theorem dX0_allSitWell_1 : decode cX0_allSitWell 1 = .ok (.istore_n 2, 1) := by decide +kernel
theorem dX0_allSitWell_2 : decode cX0_allSitWell 2 = .ok (.iload_n 2, 1) := by decide +kernel
theorem dX0_allSitWell_3 : decode cX0_allSitWell 3 = .ok (.aload_n 0, 1) := by decide +kernel
theorem dX0_allSitWell_4 : decode cX0_allSitWell 4 = .ok (.invokevirtual 32, 3) := by decide +kernel
theorem dX0_allSitWell_7 : decode cX0_allSitWell 7 = .ok (.if_icmp .ge 35, 3) := by decide +kernel
theorem dX0_allSitWell_10 : decode cX0_allSitWell 10 = .ok (.aload_n 0, 1) := by decide +kernel
theorem dX0_allSitWell_11 : decode cX0_allSitWell 11 = .ok (.iload_n 2, 1) := by decide +kernel
theorem dX0_allSitWell_12 : decode cX0_allSitWell 12 = .ok (.iload_n 1, 1) := by decide +kernel
theorem dX0_allSitWell_13 : decode cX0_allSitWell 13 = .ok (.invokevirtual 36, 3) := by decide +kernel
theorem dX0_allSitWell_16 : decode cX0_allSitWell 16 = .ok (.istore_n 3, 1) := by decide +kernel
theorem dX0_allSitWell_17 : decode cX0_allSitWell 17 = .ok (.iload_n 3, 1) := by decide +kernel
theorem dX0_allSitWell_18 : decode cX0_allSitWell 18 = .ok (.ifCond .lt 18, 3) := by decide +kernel
theorem dX0_allSitWell_21 : decode cX0_allSitWell 21 = .ok (.aload_n 0, 1) := by decide +kernel
theorem dX0_allSitWell_22 : decode cX0_allSitWell 22 = .ok (.iload_n 2, 1) := by decide +kernel
theorem dX0_allSitWell_23 : decode cX0_allSitWell 23 = .ok (.iload_n 1, 1) := by decide +kernel
theorem dX0_allSitWell_24 : decode cX0_allSitWell 24 = .ok (.invokevirtual 40, 3) := by decide +kernel
theorem dX0_allSitWell_27 : decode cX0_allSitWell 27 = .ok (.iload_n 3, 1) := by decide +kernel
theorem dX0_allSitWell_28 : decode cX0_allSitWell 28 = .ok (.ishr, 1) := by decide +kernel
theorem dX0_allSitWell_29 : decode cX0_allSitWell 29 = .ok (.iconst 1, 1) := by decide +kernel
theorem dX0_allSitWell_30 : decode cX0_allSitWell 30 = .ok (.iand, 1) := by decide +kernel
theorem dX0_allSitWell_31 : decode cX0_allSitWell 31 = .ok (.ifCond .ne 5, 3) := by decide +kernel
theorem dX0_allSitWell_34 : decode cX0_allSitWell 34 = .ok (.iconst 0, 1) := by decide +kernel
theorem dX0_allSitWell_35 : decode cX0_allSitWell 35 = .ok (.ireturn, 1) := by decide +kernel
theorem dX0_allSitWell_36 : decode cX0_allSitWell 36 = .ok (.iinc 2 1, 3) := by decide +kernel
theorem dX0_allSitWell_39 : decode cX0_allSitWell 39 = .ok (.goto (-37), 3) := by decide +kernel
theorem dX0_allSitWell_42 : decode cX0_allSitWell 42 = .ok (.iconst 1, 1) := by decide +kernel
theorem dX0_allSitWell_43 : decode cX0_allSitWell 43 = .ok (.ireturn, 1) := by decide +kernel
def bX0_allSitWell_2 (s : Mem) (v1 : Int32) (v2 : Int32) : Option ((Int32 ⊕ Unit) ⊕ Int32) :=
  (fX0_pupils s).bind (fun y1 => if y1 ≤ v2 then some (Sum.inl (Sum.inr ())) else (fX0_sits s v2 v1).bind (fun y2 => if y2 < (0 : Int32) then lt (v2 + (1 : Int32)) (fun x3 => some (Sum.inr x3)) else (fX0_freeSet s v2 v1).bind (fun y4 => if ((y4 >>> (y2 &&& 31)) &&& (1 : Int32)) = (0 : Int32) then some (Sum.inl (Sum.inl (0 : Int32))) else lt (v2 + (1 : Int32)) (fun x5 => some (Sum.inr x5)))))
set_option maxRecDepth 4000 in
theorem jbX0_allSitWell_2 {X : Scr} (d : Nat) (s : Mem) (v1 : Int32) (v2 : Int32) {r : ((Int32 ⊕ Unit) ⊕ Int32)} {w : Option Value} {s' : Mem} (hh : bX0_allSitWell_2 s v1 v2 = some r) (hk : Sum.elim (Sum.elim (fun q : Int32 => w = some (.int q) ∧ s = s') (fun t : Unit => J X MX0_allSitWell (d + 3) 42 [none, none, none, none] [] s w s')) (fun a : Int32 => J X MX0_allSitWell (d + 3) 2 [some (.ref 1), some (.int v1), some (.int a), none] [] s w s') r) : J X MX0_allSitWell (d + 3) 2 [some (.ref 1), some (.int v1), some (.int v2), none] [] s w s' := by
  unfold bX0_allSitWell_2 at hh
  refine J_iload_n (pc := 2) dX0_allSitWell_2 rfl ?_
  refine J_aload_n (pc := 3) dX0_allSitWell_3 rfl ?_
  obtain ⟨y1, hy1, hh⟩ := bd_some hh
  refine J_callVi (pc := 4) (M' := MX0_pupils) (a := 1) (rest := [.int v2]) (As := []) (L0 := [some (.ref 1)]) okX0_pupils ovX0_pupils mlX0_32 clX0 so1 rfl rfl (Nat.le_of_ble_eq_true rfl) dX0_allSitWell_4 rfl (Nat.le_of_ble_eq_true rfl) (jX0_pupils (X := X) (d + 2) s hy1) ?_
  refine J_icmp_ge (pc := 7) 42 dX0_allSitWell_7 (by decide) (fun c8 => ?_) (fun c8 => ?_)
  · replace hh := (if_pos c8).symm.trans hh
    refine J_drop 0 (L' := [none, some (.int v1), some (.int v2), none]) rfl ?_
    refine J_drop 1 (L' := [none, none, some (.int v2), none]) rfl ?_
    refine J_drop 2 (L' := [none, none, none, none]) rfl ?_
    obtain rfl := Option.some.inj hh
    exact hk
  · replace hh := (if_neg c8).symm.trans hh
    refine J_aload_n (pc := 10) dX0_allSitWell_10 rfl ?_
    refine J_iload_n (pc := 11) dX0_allSitWell_11 rfl ?_
    refine J_iload_n (pc := 12) dX0_allSitWell_12 rfl ?_
    obtain ⟨y2, hy2, hh⟩ := bd_some hh
    refine J_callVi (pc := 13) (M' := MX0_sits) (a := 1) (rest := []) (As := [.int v2, .int v1]) (L0 := [some (.ref 1), some (.int v2), some (.int v1)]) okX0_sits ovX0_sits mlX0_36 clX0 so1 rfl rfl (Nat.le_of_ble_eq_true rfl) dX0_allSitWell_13 rfl (Nat.le_of_ble_eq_true rfl) (jX0_sits (X := X) (d + 2) s v2 v1 hy2) ?_
    refine J_istore_n (pc := 16) (L' := [some (.ref 1), some (.int v1), some (.int v2), some (.int y2)]) dX0_allSitWell_16 rfl (Nat.le_of_ble_eq_true rfl) rfl ?_
    refine J_iload_n (pc := 17) dX0_allSitWell_17 rfl ?_
    refine J_if_lt (pc := 18) 36 dX0_allSitWell_18 (by decide) (fun c7 => ?_) (fun c7 => ?_)
    · replace hh := (if_pos c7).symm.trans hh
      refine J_iincL (pc := 36) (v := v2 + (1 : Int32)) (fun x3 => [some (.ref 1), some (.int v1), some (.int x3), some (.int y2)]) dX0_allSitWell_36 rfl rfl (Nat.le_of_ble_eq_true rfl) (congrArg _ ci_1) (fun _ => rfl) hh (fun x3 hh => ?_)
      refine J_goto (pc := 39) 2 dX0_allSitWell_39 (by decide) ?_
      refine J_drop 3 (L' := [some (.ref 1), some (.int v1), some (.int x3), none]) rfl ?_
      obtain rfl := Option.some.inj hh
      exact hk
    · replace hh := (if_neg c7).symm.trans hh
      refine J_aload_n (pc := 21) dX0_allSitWell_21 rfl ?_
      refine J_iload_n (pc := 22) dX0_allSitWell_22 rfl ?_
      refine J_iload_n (pc := 23) dX0_allSitWell_23 rfl ?_
      obtain ⟨y4, hy4, hh⟩ := bd_some hh
      refine J_callVi (pc := 24) (M' := MX0_freeSet) (a := 1) (rest := []) (As := [.int v2, .int v1]) (L0 := [some (.ref 1), some (.int v2), some (.int v1), none, none, none, none]) okX0_freeSet ovX0_freeSet mlX0_40 clX0 so1 rfl rfl (Nat.le_of_ble_eq_true rfl) dX0_allSitWell_24 rfl (Nat.le_of_ble_eq_true rfl) (jX0_freeSet (X := X) d s v2 v1 hy4) ?_
      refine J_iload_n (pc := 27) dX0_allSitWell_27 rfl ?_
      refine J_ishr (pc := 28) dX0_allSitWell_28 ?_
      refine J_iconst (pc := 29) dX0_allSitWell_29 ci_1 ?_
      refine J_iand (pc := 30) dX0_allSitWell_30 ?_
      refine J_if_ne (pc := 31) 36 dX0_allSitWell_31 (by decide) (fun c6 => ?_) (fun c6 => ?_)
      · replace hh := (if_neg c6).symm.trans hh
        refine J_iincL (pc := 36) (v := v2 + (1 : Int32)) (fun x5 => [some (.ref 1), some (.int v1), some (.int x5), some (.int y2)]) dX0_allSitWell_36 rfl rfl (Nat.le_of_ble_eq_true rfl) (congrArg _ ci_1) (fun _ => rfl) hh (fun x5 hh => ?_)
        refine J_goto (pc := 39) 2 dX0_allSitWell_39 (by decide) ?_
        refine J_drop 3 (L' := [some (.ref 1), some (.int v1), some (.int x5), none]) rfl ?_
        obtain rfl := Option.some.inj hh
        exact hk
      · replace hh := (if_pos c6).symm.trans hh
        refine J_iconst (pc := 34) dX0_allSitWell_34 ci_0 ?_
        obtain rfl := Option.some.inj hh
        obtain ⟨rfl, rfl⟩ := hk
        exact J_ret (w := some (.int (0 : Int32))) ⟨dX0_allSitWell_35, _, rfl, rfl⟩
def fX0_allSitWell (s : Mem) (p0 : Int32) : Option Int32 :=
  (lp (fun a => bX0_allSitWell_2 s p0 a) 600 (0 : Int32)).bind (fun y9 => Sum.elim (fun q11 => some q11) (fun t10 => some (1 : Int32)) y9)
set_option maxRecDepth 4000 in
theorem jjX0_allSitWell {X : Scr} (d : Nat) (s : Mem) (p0 : Int32) {r : Int32} {w : Option Value} {s' : Mem} (hh : fX0_allSitWell s p0 = some r) (hk : w = some (.int r) ∧ s = s') : J X MX0_allSitWell (d + 3) 0 [some (.ref 1), some (.int p0), none, none] [] s w s' := by
  unfold fX0_allSitWell at hh
  refine J_iconst (pc := 0) dX0_allSitWell_0 ci_0 ?_
  refine J_istore_n (pc := 1) (L' := [some (.ref 1), some (.int p0), some (.int (0 : Int32)), none]) dX0_allSitWell_1 rfl (Nat.le_of_ble_eq_true rfl) rfl ?_
  obtain ⟨y9, hy9, hh⟩ := bd_some hh
  refine J_lp (a := (0 : Int32)) (fun a : Int32 => J X MX0_allSitWell (d + 3) 2 [some (.ref 1), some (.int p0), some (.int a), none] [] s w s') (Sum.elim (fun q : Int32 => w = some (.int q) ∧ s = s') (fun t : Unit => J X MX0_allSitWell (d + 3) 42 [none, none, none, none] [] s w s')) (fun a q h1 h2 => jbX0_allSitWell_2 d s p0 a h1 h2) hy9 ?_
  cases y9 with
  | inl q11 =>
    obtain rfl := Option.some.inj hh
    exact hk
  | inr t10 =>
    skip
    replace hh : (some (1 : Int32)) = some r := hh
    refine J_iconst (pc := 42) dX0_allSitWell_42 ci_1 ?_
    obtain rfl := Option.some.inj hh
    obtain ⟨rfl, rfl⟩ := hk
    exact J_ret (w := some (.int (1 : Int32))) ⟨dX0_allSitWell_43, _, rfl, rfl⟩
theorem jX0_allSitWell {X : Scr} (d : Nat) (s : Mem) (p0 : Int32) {r : Int32} (hh : fX0_allSitWell s p0 = some r) : J X MX0_allSitWell (d + 3) 0 [some (.ref 1), some (.int p0), none, none] [] s (some (.int r)) s := jjX0_allSitWell d s p0 hh ⟨rfl, rfl⟩
theorem dX0_taken_0 : decode cX0_taken 0 = .ok (.iconst 0, 1) := by decide +kernel
theorem dX0_taken_1 : decode cX0_taken 1 = .ok (.istore 5, 2) := by decide +kernel
theorem dX0_taken_3 : decode cX0_taken 3 = .ok (.iconst 0, 1) := by decide +kernel
theorem dX0_taken_4 : decode cX0_taken 4 = .ok (.istore 6, 2) := by decide +kernel
theorem dX0_taken_6 : decode cX0_taken 6 = .ok (.iload 6, 2) := by decide +kernel
theorem dX0_taken_8 : decode cX0_taken 8 = .ok (.aload_n 0, 1) := by decide +kernel
theorem dX0_taken_9 : decode cX0_taken 9 = .ok (.getfield 11, 3) := by decide +kernel
theorem dX0_taken_12 : decode cX0_taken 12 = .ok (.sipush 138, 3) := by decide +kernel
theorem dX0_taken_15 : decode cX0_taken 15 = .ok (.iaload, 1) := by decide +kernel
theorem dX0_taken_16 : decode cX0_taken 16 = .ok (.if_icmp .ge 55, 3) := by decide +kernel
theorem dX0_taken_19 : decode cX0_taken 19 = .ok (.aload_n 0, 1) := by decide +kernel
theorem dX0_taken_20 : decode cX0_taken 20 = .ok (.getfield 11, 3) := by decide +kernel
theorem dX0_taken_23 : decode cX0_taken 23 = .ok (.bipush 96, 2) := by decide +kernel
theorem dX0_taken_25 : decode cX0_taken 25 = .ok (.bipush 7, 2) := by decide +kernel
theorem dX0_taken_27 : decode cX0_taken 27 = .ok (.iload 6, 2) := by decide +kernel
theorem dX0_taken_29 : decode cX0_taken 29 = .ok (.imul, 1) := by decide +kernel
theorem dX0_taken_30 : decode cX0_taken 30 = .ok (.iadd, 1) := by decide +kernel
theorem dX0_taken_31 : decode cX0_taken 31 = .ok (.iconst 3, 1) := by decide +kernel
theorem dX0_taken_32 : decode cX0_taken 32 = .ok (.iadd, 1) := by decide +kernel
theorem dX0_taken_33 : decode cX0_taken 33 = .ok (.iload_n 1, 1) := by decide +kernel
theorem dX0_taken_34 : decode cX0_taken 34 = .ok (.iadd, 1) := by decide +kernel
theorem dX0_taken_35 : decode cX0_taken 35 = .ok (.iaload, 1) := by decide +kernel
theorem dX0_taken_36 : decode cX0_taken 36 = .ok (.istore 7, 2) := by decide +kernel
theorem dX0_taken_38 : decode cX0_taken 38 = .ok (.iload 6, 2) := by decide +kernel
theorem dX0_taken_40 : decode cX0_taken 40 = .ok (.iload 4, 2) := by decide +kernel
theorem dX0_taken_42 : decode cX0_taken 42 = .ok (.if_icmp .eq 23, 3) := by decide +kernel
theorem dX0_taken_45 : decode cX0_taken 45 = .ok (.iload 7, 2) := by decide +kernel
theorem dX0_taken_47 : decode cX0_taken 47 = .ok (.ifCond .lt 18, 3) := by decide +kernel
theorem dX0_taken_50 : decode cX0_taken 50 = .ok (.iload 7, 2) := by decide +kernel
theorem dX0_taken_52 : decode cX0_taken 52 = .ok (.iconst 2, 1) := by decide +kernel
theorem dX0_taken_53 : decode cX0_taken 53 = .ok (.iload_n 2, 1) := by decide +kernel
theorem dX0_taken_54 : decode cX0_taken 54 = .ok (.isub, 1) := by decide +kernel
theorem dX0_taken_55 : decode cX0_taken 55 = .ok (.ishr, 1) := by decide +kernel
theorem dX0_taken_56 : decode cX0_taken 56 = .ok (.iconst 1, 1) := by decide +kernel
theorem dX0_taken_57 : decode cX0_taken 57 = .ok (.iand, 1) := by decide +kernel
theorem dX0_taken_58 : decode cX0_taken 58 = .ok (.iload_n 3, 1) := by decide +kernel
theorem dX0_taken_59 : decode cX0_taken 59 = .ok (.if_icmp .ne 6, 3) := by decide +kernel
theorem dX0_taken_62 : decode cX0_taken 62 = .ok (.iinc 5 1, 3) := by decide +kernel
theorem dX0_taken_65 : decode cX0_taken 65 = .ok (.iinc 6 1, 3) := by decide +kernel
theorem dX0_taken_68 : decode cX0_taken 68 = .ok (.goto (-62), 3) := by decide +kernel
theorem dX0_taken_71 : decode cX0_taken 71 = .ok (.iload 5, 2) := by decide +kernel
theorem dX0_taken_73 : decode cX0_taken 73 = .ok (.ireturn, 1) := by decide +kernel
def bX0_taken_6 (s : Mem) (v1 : Int32) (v2 : Int32) (v3 : Int32) (v4 : Int32) (v5 : Int32) (v6 : Int32) : Option (Int32 ⊕ (Int32 × Int32)) :=
  gd (138 : Int32) 171 (if (s.1 2 (138 : Int32).toNatClampNeg) ≤ v6 then some (Sum.inl v5) else gd ((((96 : Int32) + ((7 : Int32) * v6)) + (3 : Int32)) + v1) 171 (lt (s.1 2 ((((96 : Int32) + ((7 : Int32) * v6)) + (3 : Int32)) + v1).toNatClampNeg) (fun x3 => if v6 = v4 then lt (v6 + (1 : Int32)) (fun x4 => some (Sum.inr (v5, x4))) else if x3 < (0 : Int32) then lt (v6 + (1 : Int32)) (fun x5 => some (Sum.inr (v5, x5))) else if ((x3 >>> (((2 : Int32) - v2) &&& 31)) &&& (1 : Int32)) = v3 then lt (v5 + (1 : Int32)) (fun x7 => lt (v6 + (1 : Int32)) (fun x8 => some (Sum.inr (x7, x8)))) else lt (v6 + (1 : Int32)) (fun x6 => some (Sum.inr (v5, x6))))))
set_option maxRecDepth 4000 in
theorem jbX0_taken_6 {X : Scr} (d : Nat) (s : Mem) (v1 : Int32) (v2 : Int32) (v3 : Int32) (v4 : Int32) (v5 : Int32) (v6 : Int32) {r : (Int32 ⊕ (Int32 × Int32))} {w : Option Value} {s' : Mem} (hh : bX0_taken_6 s v1 v2 v3 v4 v5 v6 = some r) (hk : Sum.elim (fun t : Int32 => J X MX0_taken (d + 0) 71 [none, none, none, none, none, some (.int t), none, none] [] s w s') (fun a : (Int32 × Int32) => J X MX0_taken (d + 0) 6 [some (.ref 1), some (.int v1), some (.int v2), some (.int v3), some (.int v4), some (.int a.1), some (.int a.2), none] [] s w s') r) : J X MX0_taken (d + 0) 6 [some (.ref 1), some (.int v1), some (.int v2), some (.int v3), some (.int v4), some (.int v5), some (.int v6), none] [] s w s' := by
  unfold bX0_taken_6 at hh
  refine J_iload (pc := 6) dX0_taken_6 rfl ?_
  refine J_aload_n (pc := 8) dX0_taken_8 rfl ?_
  refine J_getR (pc := 9) (k := 0) flX0_11 so1 fk1_0 dX0_taken_9 ?_
  refine J_sipush (pc := 12) dX0_taken_12 cs_138 ?_
  obtain ⟨h1, hh⟩ := gd_some hh
  refine J_iald (pc := 15) dX0_taken_15 sa2 h1 ?_
  refine J_icmp_ge (pc := 16) 71 dX0_taken_16 (by decide) (fun c12 => ?_) (fun c12 => ?_)
  · replace hh := (if_pos c12).symm.trans hh
    refine J_drop 0 (L' := [none, some (.int v1), some (.int v2), some (.int v3), some (.int v4), some (.int v5), some (.int v6), none]) rfl ?_
    refine J_drop 1 (L' := [none, none, some (.int v2), some (.int v3), some (.int v4), some (.int v5), some (.int v6), none]) rfl ?_
    refine J_drop 2 (L' := [none, none, none, some (.int v3), some (.int v4), some (.int v5), some (.int v6), none]) rfl ?_
    refine J_drop 3 (L' := [none, none, none, none, some (.int v4), some (.int v5), some (.int v6), none]) rfl ?_
    refine J_drop 4 (L' := [none, none, none, none, none, some (.int v5), some (.int v6), none]) rfl ?_
    refine J_drop 6 (L' := [none, none, none, none, none, some (.int v5), none, none]) rfl ?_
    obtain rfl := Option.some.inj hh
    exact hk
  · replace hh := (if_neg c12).symm.trans hh
    refine J_aload_n (pc := 19) dX0_taken_19 rfl ?_
    refine J_getR (pc := 20) (k := 0) flX0_11 so1 fk1_0 dX0_taken_20 ?_
    refine J_bipush (pc := 23) dX0_taken_23 cb_96 ?_
    refine J_bipush (pc := 25) dX0_taken_25 cb_7 ?_
    refine J_iload (pc := 27) dX0_taken_27 rfl ?_
    refine J_imul (pc := 29) dX0_taken_29 ?_
    refine J_iadd (pc := 30) dX0_taken_30 ?_
    refine J_iconst (pc := 31) dX0_taken_31 ci_3 ?_
    refine J_iadd (pc := 32) dX0_taken_32 ?_
    refine J_iload_n (pc := 33) dX0_taken_33 rfl ?_
    refine J_iadd (pc := 34) dX0_taken_34 ?_
    obtain ⟨h2, hh⟩ := gd_some hh
    refine J_iald (pc := 35) dX0_taken_35 sa2 h2 ?_
    refine J_istoreL (pc := 36) (fun x3 => [some (.ref 1), some (.int v1), some (.int v2), some (.int v3), some (.int v4), some (.int v5), some (.int v6), some (.int x3)]) dX0_taken_36 rfl (Nat.le_of_ble_eq_true rfl) (fun _ => rfl) hh (fun x3 hh => ?_)
    refine J_iload (pc := 38) dX0_taken_38 rfl ?_
    refine J_iload (pc := 40) dX0_taken_40 rfl ?_
    refine J_icmp_eq (pc := 42) 65 dX0_taken_42 (by decide) (fun c11 => ?_) (fun c11 => ?_)
    · replace hh := (if_pos c11).symm.trans hh
      refine J_iincL (pc := 65) (v := v6 + (1 : Int32)) (fun x4 => [some (.ref 1), some (.int v1), some (.int v2), some (.int v3), some (.int v4), some (.int v5), some (.int x4), some (.int x3)]) dX0_taken_65 rfl rfl (Nat.le_of_ble_eq_true rfl) (congrArg _ ci_1) (fun _ => rfl) hh (fun x4 hh => ?_)
      refine J_goto (pc := 68) 6 dX0_taken_68 (by decide) ?_
      refine J_drop 7 (L' := [some (.ref 1), some (.int v1), some (.int v2), some (.int v3), some (.int v4), some (.int v5), some (.int x4), none]) rfl ?_
      obtain rfl := Option.some.inj hh
      exact hk
    · replace hh := (if_neg c11).symm.trans hh
      refine J_iload (pc := 45) dX0_taken_45 rfl ?_
      refine J_if_lt (pc := 47) 65 dX0_taken_47 (by decide) (fun c10 => ?_) (fun c10 => ?_)
      · replace hh := (if_pos c10).symm.trans hh
        refine J_iincL (pc := 65) (v := v6 + (1 : Int32)) (fun x5 => [some (.ref 1), some (.int v1), some (.int v2), some (.int v3), some (.int v4), some (.int v5), some (.int x5), some (.int x3)]) dX0_taken_65 rfl rfl (Nat.le_of_ble_eq_true rfl) (congrArg _ ci_1) (fun _ => rfl) hh (fun x5 hh => ?_)
        refine J_goto (pc := 68) 6 dX0_taken_68 (by decide) ?_
        refine J_drop 7 (L' := [some (.ref 1), some (.int v1), some (.int v2), some (.int v3), some (.int v4), some (.int v5), some (.int x5), none]) rfl ?_
        obtain rfl := Option.some.inj hh
        exact hk
      · replace hh := (if_neg c10).symm.trans hh
        refine J_iload (pc := 50) dX0_taken_50 rfl ?_
        refine J_iconst (pc := 52) dX0_taken_52 ci_2 ?_
        refine J_iload_n (pc := 53) dX0_taken_53 rfl ?_
        refine J_isub (pc := 54) dX0_taken_54 ?_
        refine J_ishr (pc := 55) dX0_taken_55 ?_
        refine J_iconst (pc := 56) dX0_taken_56 ci_1 ?_
        refine J_iand (pc := 57) dX0_taken_57 ?_
        refine J_iload_n (pc := 58) dX0_taken_58 rfl ?_
        refine J_icmp_ne (pc := 59) 65 dX0_taken_59 (by decide) (fun c9 => ?_) (fun c9 => ?_)
        · replace hh := (if_neg c9).symm.trans hh
          refine J_iincL (pc := 65) (v := v6 + (1 : Int32)) (fun x6 => [some (.ref 1), some (.int v1), some (.int v2), some (.int v3), some (.int v4), some (.int v5), some (.int x6), some (.int x3)]) dX0_taken_65 rfl rfl (Nat.le_of_ble_eq_true rfl) (congrArg _ ci_1) (fun _ => rfl) hh (fun x6 hh => ?_)
          refine J_goto (pc := 68) 6 dX0_taken_68 (by decide) ?_
          refine J_drop 7 (L' := [some (.ref 1), some (.int v1), some (.int v2), some (.int v3), some (.int v4), some (.int v5), some (.int x6), none]) rfl ?_
          obtain rfl := Option.some.inj hh
          exact hk
        · replace hh := (if_pos c9).symm.trans hh
          refine J_iincL (pc := 62) (v := v5 + (1 : Int32)) (fun x7 => [some (.ref 1), some (.int v1), some (.int v2), some (.int v3), some (.int v4), some (.int x7), some (.int v6), some (.int x3)]) dX0_taken_62 rfl rfl (Nat.le_of_ble_eq_true rfl) (congrArg _ ci_1) (fun _ => rfl) hh (fun x7 hh => ?_)
          refine J_iincL (pc := 65) (v := v6 + (1 : Int32)) (fun x8 => [some (.ref 1), some (.int v1), some (.int v2), some (.int v3), some (.int v4), some (.int x7), some (.int x8), some (.int x3)]) dX0_taken_65 rfl rfl (Nat.le_of_ble_eq_true rfl) (congrArg _ ci_1) (fun _ => rfl) hh (fun x8 hh => ?_)
          refine J_goto (pc := 68) 6 dX0_taken_68 (by decide) ?_
          refine J_drop 7 (L' := [some (.ref 1), some (.int v1), some (.int v2), some (.int v3), some (.int v4), some (.int x7), some (.int x8), none]) rfl ?_
          obtain rfl := Option.some.inj hh
          exact hk
def fX0_taken (s : Mem) (p0 : Int32) (p1 : Int32) (p2 : Int32) (p3 : Int32) : Option Int32 :=
  (lp (fun a => bX0_taken_6 s p0 p1 p2 p3 a.1 a.2) 600 ((0 : Int32), (0 : Int32))).bind (fun y13 => some y13)
set_option maxRecDepth 4000 in
theorem jjX0_taken {X : Scr} (d : Nat) (s : Mem) (p0 : Int32) (p1 : Int32) (p2 : Int32) (p3 : Int32) {r : Int32} {w : Option Value} {s' : Mem} (hh : fX0_taken s p0 p1 p2 p3 = some r) (hk : w = some (.int r) ∧ s = s') : J X MX0_taken (d + 0) 0 [some (.ref 1), some (.int p0), some (.int p1), some (.int p2), some (.int p3), none, none, none] [] s w s' := by
  unfold fX0_taken at hh
  refine J_iconst (pc := 0) dX0_taken_0 ci_0 ?_
  refine J_istore (pc := 1) (L' := [some (.ref 1), some (.int p0), some (.int p1), some (.int p2), some (.int p3), some (.int (0 : Int32)), none, none]) dX0_taken_1 rfl (Nat.le_of_ble_eq_true rfl) rfl ?_
  refine J_iconst (pc := 3) dX0_taken_3 ci_0 ?_
  refine J_istore (pc := 4) (L' := [some (.ref 1), some (.int p0), some (.int p1), some (.int p2), some (.int p3), some (.int (0 : Int32)), some (.int (0 : Int32)), none]) dX0_taken_4 rfl (Nat.le_of_ble_eq_true rfl) rfl ?_
  obtain ⟨y13, hy13, hh⟩ := bd_some hh
  refine J_lp (a := ((0 : Int32), (0 : Int32))) (fun a : (Int32 × Int32) => J X MX0_taken (d + 0) 6 [some (.ref 1), some (.int p0), some (.int p1), some (.int p2), some (.int p3), some (.int a.1), some (.int a.2), none] [] s w s') (fun t : Int32 => J X MX0_taken (d + 0) 71 [none, none, none, none, none, some (.int t), none, none] [] s w s') (fun a q h1 h2 => jbX0_taken_6 d s p0 p1 p2 p3 a.1 a.2 h1 h2) hy13 ?_
  refine J_iload (pc := 71) dX0_taken_71 rfl ?_
  obtain rfl := Option.some.inj hh
  obtain ⟨rfl, rfl⟩ := hk
  exact J_ret (w := some (.int y13)) ⟨dX0_taken_73, _, rfl, rfl⟩
theorem jX0_taken {X : Scr} (d : Nat) (s : Mem) (p0 : Int32) (p1 : Int32) (p2 : Int32) (p3 : Int32) {r : Int32} (hh : fX0_taken s p0 p1 p2 p3 = some r) : J X MX0_taken (d + 0) 0 [some (.ref 1), some (.int p0), some (.int p1), some (.int p2), some (.int p3), none, none, none] [] s (some (.int r)) s := jjX0_taken d s p0 p1 p2 p3 hh ⟨rfl, rfl⟩
theorem dX0_noCapIsPassed_0 : decode cX0_noCapIsPassed 0 = .ok (.iconst 0, 1) := by decide +kernel
theorem dX0_noCapIsPassed_1 : decode cX0_noCapIsPassed 1 = .ok (.istore_n 2, 1) := by decide +kernel
theorem dX0_noCapIsPassed_2 : decode cX0_noCapIsPassed 2 = .ok (.iload_n 2, 1) := by decide +kernel
theorem dX0_noCapIsPassed_3 : decode cX0_noCapIsPassed 3 = .ok (.iconst 3, 1) := by decide +kernel
theorem dX0_noCapIsPassed_4 : decode cX0_noCapIsPassed 4 = .ok (.if_icmp .ge 53, 3) := by decide +kernel
theorem dX0_noCapIsPassed_7 : decode cX0_noCapIsPassed 7 = .ok (.iconst 0, 1) := by decide +kernel
theorem dX0_noCapIsPassed_8 : decode cX0_noCapIsPassed 8 = .ok (.istore_n 3, 1) := by decide +kernel
theorem dX0_noCapIsPassed_9 : decode cX0_noCapIsPassed 9 = .ok (.iload_n 3, 1) := by decide +kernel
theorem dX0_noCapIsPassed_10 : decode cX0_noCapIsPassed 10 = .ok (.iconst 2, 1) := by decide +kernel
theorem dX0_noCapIsPassed_11 : decode cX0_noCapIsPassed 11 = .ok (.if_icmp .ge 40, 3) := by decide +kernel
theorem dX0_noCapIsPassed_14 : decode cX0_noCapIsPassed 14 = .ok (.aload_n 0, 1) := by decide +kernel
theorem dX0_noCapIsPassed_15 : decode cX0_noCapIsPassed 15 = .ok (.iload_n 1, 1) := by decide +kernel
theorem dX0_noCapIsPassed_16 : decode cX0_noCapIsPassed 16 = .ok (.iload_n 2, 1) := by decide +kernel
theorem dX0_noCapIsPassed_17 : decode cX0_noCapIsPassed 17 = .ok (.iload_n 3, 1) := by decide +kernel
theorem dX0_noCapIsPassed_18 : decode cX0_noCapIsPassed 18 = .ok (.invokevirtual 43, 3) := by decide +kernel
theorem dX0_noCapIsPassed_21 : decode cX0_noCapIsPassed 21 = .ok (.ifCond .eq 24, 3) := by decide +kernel
theorem dX0_noCapIsPassed_24 : decode cX0_noCapIsPassed 24 = .ok (.aload_n 0, 1) := by decide +kernel
theorem dX0_noCapIsPassed_25 : decode cX0_noCapIsPassed 25 = .ok (.iload_n 1, 1) := by decide +kernel
theorem dX0_noCapIsPassed_26 : decode cX0_noCapIsPassed 26 = .ok (.iload_n 2, 1) := by decide +kernel
theorem dX0_noCapIsPassed_27 : decode cX0_noCapIsPassed 27 = .ok (.iload_n 3, 1) := by decide +kernel
theorem dX0_noCapIsPassed_28 : decode cX0_noCapIsPassed 28 = .ok (.iconst (-1), 1) := by decide +kernel
theorem dX0_noCapIsPassed_29 : decode cX0_noCapIsPassed 29 = .ok (.invokevirtual 47, 3) := by decide +kernel
theorem dX0_noCapIsPassed_32 : decode cX0_noCapIsPassed 32 = .ok (.aload_n 0, 1) := by decide +kernel
theorem dX0_noCapIsPassed_33 : decode cX0_noCapIsPassed 33 = .ok (.iload_n 1, 1) := by decide +kernel
theorem dX0_noCapIsPassed_34 : decode cX0_noCapIsPassed 34 = .ok (.iload_n 2, 1) := by decide +kernel
theorem dX0_noCapIsPassed_35 : decode cX0_noCapIsPassed 35 = .ok (.iload_n 3, 1) := by decide +kernel
theorem dX0_noCapIsPassed_36 : decode cX0_noCapIsPassed 36 = .ok (.iconst 2, 1) := by decide +kernel
theorem dX0_noCapIsPassed_37 : decode cX0_noCapIsPassed 37 = .ok (.invokevirtual 51, 3) := by decide +kernel
theorem dX0_noCapIsPassed_40 : decode cX0_noCapIsPassed 40 = .ok (.if_icmp .le 5, 3) := by decide +kernel
theorem dX0_noCapIsPassed_43 : decode cX0_noCapIsPassed 43 = .ok (.iconst 0, 1) := by decide +kernel
theorem dX0_noCapIsPassed_44 : decode cX0_noCapIsPassed 44 = .ok (.ireturn, 1) := by decide +kernel
theorem dX0_noCapIsPassed_45 : decode cX0_noCapIsPassed 45 = .ok (.iinc 3 1, 3) := by decide +kernel
theorem dX0_noCapIsPassed_48 : decode cX0_noCapIsPassed 48 = .ok (.goto (-39), 3) := by decide +kernel
theorem dX0_noCapIsPassed_51 : decode cX0_noCapIsPassed 51 = .ok (.iinc 2 1, 3) := by decide +kernel
theorem dX0_noCapIsPassed_54 : decode cX0_noCapIsPassed 54 = .ok (.goto (-52), 3) := by decide +kernel
theorem dX0_noCapIsPassed_57 : decode cX0_noCapIsPassed 57 = .ok (.iconst 1, 1) := by decide +kernel
theorem dX0_noCapIsPassed_58 : decode cX0_noCapIsPassed 58 = .ok (.ireturn, 1) := by decide +kernel
def bX0_noCapIsPassed_9 (s : Mem) (v1 : Int32) (v2 : Int32) (v3 : Int32) : Option ((Int32 ⊕ Unit) ⊕ Int32) :=
  if (2 : Int32) ≤ v3 then some (Sum.inl (Sum.inr ())) else (fX0_isOpen s v1 v2 v3).bind (fun y1 => if y1 = (0 : Int32) then lt (v3 + (1 : Int32)) (fun x2 => some (Sum.inr x2)) else (fX0_taken s v1 v2 v3 (-1 : Int32)).bind (fun y3 => (fX0_ofSection s v1 v2 v3 (2 : Int32)).bind (fun y4 => if y3 ≤ y4 then lt (v3 + (1 : Int32)) (fun x5 => some (Sum.inr x5)) else some (Sum.inl (Sum.inl (0 : Int32))))))
set_option maxRecDepth 4000 in
theorem jbX0_noCapIsPassed_9 {X : Scr} (d : Nat) (s : Mem) (v1 : Int32) (v2 : Int32) (v3 : Int32) {r : ((Int32 ⊕ Unit) ⊕ Int32)} {w : Option Value} {s' : Mem} (hh : bX0_noCapIsPassed_9 s v1 v2 v3 = some r) (hk : Sum.elim (Sum.elim (fun q : Int32 => w = some (.int q) ∧ s = s') (fun t : Unit => J X MX0_noCapIsPassed (d + 1) 51 [some (.ref 1), some (.int v1), some (.int v2), none] [] s w s')) (fun a : Int32 => J X MX0_noCapIsPassed (d + 1) 9 [some (.ref 1), some (.int v1), some (.int v2), some (.int a)] [] s w s') r) : J X MX0_noCapIsPassed (d + 1) 9 [some (.ref 1), some (.int v1), some (.int v2), some (.int v3)] [] s w s' := by
  unfold bX0_noCapIsPassed_9 at hh
  refine J_iload_n (pc := 9) dX0_noCapIsPassed_9 rfl ?_
  refine J_iconst (pc := 10) dX0_noCapIsPassed_10 ci_2 ?_
  refine J_icmp_ge (pc := 11) 51 dX0_noCapIsPassed_11 (by decide) (fun c8 => ?_) (fun c8 => ?_)
  · replace hh := (if_pos c8).symm.trans hh
    refine J_drop 3 (L' := [some (.ref 1), some (.int v1), some (.int v2), none]) rfl ?_
    obtain rfl := Option.some.inj hh
    exact hk
  · replace hh := (if_neg c8).symm.trans hh
    refine J_aload_n (pc := 14) dX0_noCapIsPassed_14 rfl ?_
    refine J_iload_n (pc := 15) dX0_noCapIsPassed_15 rfl ?_
    refine J_iload_n (pc := 16) dX0_noCapIsPassed_16 rfl ?_
    refine J_iload_n (pc := 17) dX0_noCapIsPassed_17 rfl ?_
    obtain ⟨y1, hy1, hh⟩ := bd_some hh
    refine J_callVi (pc := 18) (M' := MX0_isOpen) (a := 1) (rest := []) (As := [.int v1, .int v2, .int v3]) (L0 := [some (.ref 1), some (.int v1), some (.int v2), some (.int v3)]) okX0_isOpen ovX0_isOpen mlX0_43 clX0 so1 rfl rfl (Nat.le_of_ble_eq_true rfl) dX0_noCapIsPassed_18 rfl (Nat.le_of_ble_eq_true rfl) (jX0_isOpen (X := X) d s v1 v2 v3 hy1) ?_
    refine J_if_eq (pc := 21) 45 dX0_noCapIsPassed_21 (by decide) (fun c7 => ?_) (fun c7 => ?_)
    · replace hh := (if_pos c7).symm.trans hh
      refine J_iincL (pc := 45) (v := v3 + (1 : Int32)) (fun x2 => [some (.ref 1), some (.int v1), some (.int v2), some (.int x2)]) dX0_noCapIsPassed_45 rfl rfl (Nat.le_of_ble_eq_true rfl) (congrArg _ ci_1) (fun _ => rfl) hh (fun x2 hh => ?_)
      refine J_goto (pc := 48) 9 dX0_noCapIsPassed_48 (by decide) ?_
      obtain rfl := Option.some.inj hh
      exact hk
    · replace hh := (if_neg c7).symm.trans hh
      refine J_aload_n (pc := 24) dX0_noCapIsPassed_24 rfl ?_
      refine J_iload_n (pc := 25) dX0_noCapIsPassed_25 rfl ?_
      refine J_iload_n (pc := 26) dX0_noCapIsPassed_26 rfl ?_
      refine J_iload_n (pc := 27) dX0_noCapIsPassed_27 rfl ?_
      refine J_iconst (pc := 28) dX0_noCapIsPassed_28 ci_m1 ?_
      obtain ⟨y3, hy3, hh⟩ := bd_some hh
      refine J_callVi (pc := 29) (M' := MX0_taken) (a := 1) (rest := []) (As := [.int v1, .int v2, .int v3, .int (-1 : Int32)]) (L0 := [some (.ref 1), some (.int v1), some (.int v2), some (.int v3), some (.int (-1 : Int32)), none, none, none]) okX0_taken ovX0_taken mlX0_47 clX0 so1 rfl rfl (Nat.le_of_ble_eq_true rfl) dX0_noCapIsPassed_29 rfl (Nat.le_of_ble_eq_true rfl) (jX0_taken (X := X) d s v1 v2 v3 (-1 : Int32) hy3) ?_
      refine J_aload_n (pc := 32) dX0_noCapIsPassed_32 rfl ?_
      refine J_iload_n (pc := 33) dX0_noCapIsPassed_33 rfl ?_
      refine J_iload_n (pc := 34) dX0_noCapIsPassed_34 rfl ?_
      refine J_iload_n (pc := 35) dX0_noCapIsPassed_35 rfl ?_
      refine J_iconst (pc := 36) dX0_noCapIsPassed_36 ci_2 ?_
      obtain ⟨y4, hy4, hh⟩ := bd_some hh
      refine J_callVi (pc := 37) (M' := MX0_ofSection) (a := 1) (rest := [.int y3]) (As := [.int v1, .int v2, .int v3, .int (2 : Int32)]) (L0 := [some (.ref 1), some (.int v1), some (.int v2), some (.int v3), some (.int (2 : Int32))]) okX0_ofSection ovX0_ofSection mlX0_51 clX0 so1 rfl rfl (Nat.le_of_ble_eq_true rfl) dX0_noCapIsPassed_37 rfl (Nat.le_of_ble_eq_true rfl) (jX0_ofSection (X := X) d s v1 v2 v3 (2 : Int32) hy4) ?_
      refine J_icmp_le (pc := 40) 45 dX0_noCapIsPassed_40 (by decide) (fun c6 => ?_) (fun c6 => ?_)
      · replace hh := (if_pos c6).symm.trans hh
        refine J_iincL (pc := 45) (v := v3 + (1 : Int32)) (fun x5 => [some (.ref 1), some (.int v1), some (.int v2), some (.int x5)]) dX0_noCapIsPassed_45 rfl rfl (Nat.le_of_ble_eq_true rfl) (congrArg _ ci_1) (fun _ => rfl) hh (fun x5 hh => ?_)
        refine J_goto (pc := 48) 9 dX0_noCapIsPassed_48 (by decide) ?_
        obtain rfl := Option.some.inj hh
        exact hk
      · replace hh := (if_neg c6).symm.trans hh
        refine J_iconst (pc := 43) dX0_noCapIsPassed_43 ci_0 ?_
        obtain rfl := Option.some.inj hh
        obtain ⟨rfl, rfl⟩ := hk
        exact J_ret (w := some (.int (0 : Int32))) ⟨dX0_noCapIsPassed_44, _, rfl, rfl⟩
def bX0_noCapIsPassed_2 (s : Mem) (v1 : Int32) (v2 : Int32) : Option ((Int32 ⊕ Unit) ⊕ Int32) :=
  if (3 : Int32) ≤ v2 then some (Sum.inl (Sum.inr ())) else (lp (fun a => bX0_noCapIsPassed_9 s v1 v2 a) 600 (0 : Int32)).bind (fun y9 => Sum.elim (fun q11 => some (Sum.inl (Sum.inl q11))) (fun t10 => lt (v2 + (1 : Int32)) (fun x12 => some (Sum.inr x12))) y9)
set_option maxRecDepth 4000 in
theorem jbX0_noCapIsPassed_2 {X : Scr} (d : Nat) (s : Mem) (v1 : Int32) (v2 : Int32) {r : ((Int32 ⊕ Unit) ⊕ Int32)} {w : Option Value} {s' : Mem} (hh : bX0_noCapIsPassed_2 s v1 v2 = some r) (hk : Sum.elim (Sum.elim (fun q : Int32 => w = some (.int q) ∧ s = s') (fun t : Unit => J X MX0_noCapIsPassed (d + 1) 57 [none, none, none, none] [] s w s')) (fun a : Int32 => J X MX0_noCapIsPassed (d + 1) 2 [some (.ref 1), some (.int v1), some (.int a), none] [] s w s') r) : J X MX0_noCapIsPassed (d + 1) 2 [some (.ref 1), some (.int v1), some (.int v2), none] [] s w s' := by
  unfold bX0_noCapIsPassed_2 at hh
  refine J_iload_n (pc := 2) dX0_noCapIsPassed_2 rfl ?_
  refine J_iconst (pc := 3) dX0_noCapIsPassed_3 ci_3 ?_
  refine J_icmp_ge (pc := 4) 57 dX0_noCapIsPassed_4 (by decide) (fun c13 => ?_) (fun c13 => ?_)
  · replace hh := (if_pos c13).symm.trans hh
    refine J_drop 0 (L' := [none, some (.int v1), some (.int v2), none]) rfl ?_
    refine J_drop 1 (L' := [none, none, some (.int v2), none]) rfl ?_
    refine J_drop 2 (L' := [none, none, none, none]) rfl ?_
    obtain rfl := Option.some.inj hh
    exact hk
  · replace hh := (if_neg c13).symm.trans hh
    refine J_iconst (pc := 7) dX0_noCapIsPassed_7 ci_0 ?_
    refine J_istore_n (pc := 8) (L' := [some (.ref 1), some (.int v1), some (.int v2), some (.int (0 : Int32))]) dX0_noCapIsPassed_8 rfl (Nat.le_of_ble_eq_true rfl) rfl ?_
    obtain ⟨y9, hy9, hh⟩ := bd_some hh
    refine J_lp (a := (0 : Int32)) (fun a : Int32 => J X MX0_noCapIsPassed (d + 1) 9 [some (.ref 1), some (.int v1), some (.int v2), some (.int a)] [] s w s') (Sum.elim (fun q : Int32 => w = some (.int q) ∧ s = s') (fun t : Unit => J X MX0_noCapIsPassed (d + 1) 51 [some (.ref 1), some (.int v1), some (.int v2), none] [] s w s')) (fun a q h1 h2 => jbX0_noCapIsPassed_9 d s v1 v2 a h1 h2) hy9 ?_
    cases y9 with
    | inl q11 =>
      obtain rfl := Option.some.inj hh
      exact hk
    | inr t10 =>
      skip
      replace hh : (lt (v2 + (1 : Int32)) (fun x12 => some (Sum.inr x12))) = some r := hh
      refine J_iincL (pc := 51) (v := v2 + (1 : Int32)) (fun x12 => [some (.ref 1), some (.int v1), some (.int x12), none]) dX0_noCapIsPassed_51 rfl rfl (Nat.le_of_ble_eq_true rfl) (congrArg _ ci_1) (fun _ => rfl) hh (fun x12 hh => ?_)
      refine J_goto (pc := 54) 2 dX0_noCapIsPassed_54 (by decide) ?_
      obtain rfl := Option.some.inj hh
      exact hk
def fX0_noCapIsPassed (s : Mem) (p0 : Int32) : Option Int32 :=
  (lp (fun a => bX0_noCapIsPassed_2 s p0 a) 600 (0 : Int32)).bind (fun y14 => Sum.elim (fun q16 => some q16) (fun t15 => some (1 : Int32)) y14)
set_option maxRecDepth 4000 in
theorem jjX0_noCapIsPassed {X : Scr} (d : Nat) (s : Mem) (p0 : Int32) {r : Int32} {w : Option Value} {s' : Mem} (hh : fX0_noCapIsPassed s p0 = some r) (hk : w = some (.int r) ∧ s = s') : J X MX0_noCapIsPassed (d + 1) 0 [some (.ref 1), some (.int p0), none, none] [] s w s' := by
  unfold fX0_noCapIsPassed at hh
  refine J_iconst (pc := 0) dX0_noCapIsPassed_0 ci_0 ?_
  refine J_istore_n (pc := 1) (L' := [some (.ref 1), some (.int p0), some (.int (0 : Int32)), none]) dX0_noCapIsPassed_1 rfl (Nat.le_of_ble_eq_true rfl) rfl ?_
  obtain ⟨y14, hy14, hh⟩ := bd_some hh
  refine J_lp (a := (0 : Int32)) (fun a : Int32 => J X MX0_noCapIsPassed (d + 1) 2 [some (.ref 1), some (.int p0), some (.int a), none] [] s w s') (Sum.elim (fun q : Int32 => w = some (.int q) ∧ s = s') (fun t : Unit => J X MX0_noCapIsPassed (d + 1) 57 [none, none, none, none] [] s w s')) (fun a q h1 h2 => jbX0_noCapIsPassed_2 d s p0 a h1 h2) hy14 ?_
  cases y14 with
  | inl q16 =>
    obtain rfl := Option.some.inj hh
    exact hk
  | inr t15 =>
    skip
    replace hh : (some (1 : Int32)) = some r := hh
    refine J_iconst (pc := 57) dX0_noCapIsPassed_57 ci_1 ?_
    obtain rfl := Option.some.inj hh
    obtain ⟨rfl, rfl⟩ := hk
    exact J_ret (w := some (.int (1 : Int32))) ⟨dX0_noCapIsPassed_58, _, rfl, rfl⟩
theorem jX0_noCapIsPassed {X : Scr} (d : Nat) (s : Mem) (p0 : Int32) {r : Int32} (hh : fX0_noCapIsPassed s p0 = some r) : J X MX0_noCapIsPassed (d + 1) 0 [some (.ref 1), some (.int p0), none, none] [] s (some (.int r)) s := jjX0_noCapIsPassed d s p0 hh ⟨rfl, rfl⟩
theorem dX0_opens_0 : decode cX0_opens 0 = .ok (.bipush 24, 2) := by decide +kernel
theorem dX0_opens_2 : decode cX0_opens 2 = .ok (.iload_n 1, 1) := by decide +kernel
theorem dX0_opens_3 : decode cX0_opens 3 = .ok (.imul, 1) := by decide +kernel
theorem dX0_opens_4 : decode cX0_opens 4 = .ok (.bipush 8, 2) := by decide +kernel
theorem dX0_opens_6 : decode cX0_opens 6 = .ok (.iload_n 2, 1) := by decide +kernel
theorem dX0_opens_7 : decode cX0_opens 7 = .ok (.imul, 1) := by decide +kernel
theorem dX0_opens_8 : decode cX0_opens 8 = .ok (.iadd, 1) := by decide +kernel
theorem dX0_opens_9 : decode cX0_opens 9 = .ok (.iconst 4, 1) := by decide +kernel
theorem dX0_opens_10 : decode cX0_opens 10 = .ok (.iload_n 3, 1) := by decide +kernel
theorem dX0_opens_11 : decode cX0_opens 11 = .ok (.imul, 1) := by decide +kernel
theorem dX0_opens_12 : decode cX0_opens 12 = .ok (.iadd, 1) := by decide +kernel
theorem dX0_opens_13 : decode cX0_opens 13 = .ok (.istore 7, 2) := by decide +kernel
theorem dX0_opens_15 : decode cX0_opens 15 = .ok (.aload_n 0, 1) := by decide +kernel
theorem dX0_opens_16 : decode cX0_opens 16 = .ok (.getfield 11, 3) := by decide +kernel
theorem dX0_opens_19 : decode cX0_opens 19 = .ok (.iload 7, 2) := by decide +kernel
theorem dX0_opens_21 : decode cX0_opens 21 = .ok (.iconst 0, 1) := by decide +kernel
theorem dX0_opens_22 : decode cX0_opens 22 = .ok (.iadd, 1) := by decide +kernel
theorem dX0_opens_23 : decode cX0_opens 23 = .ok (.iconst 1, 1) := by decide +kernel
theorem dX0_opens_24 : decode cX0_opens 24 = .ok (.iastore, 1) := by decide +kernel
theorem dX0_opens_25 : decode cX0_opens 25 = .ok (.aload_n 0, 1) := by decide +kernel
theorem dX0_opens_26 : decode cX0_opens 26 = .ok (.getfield 11, 3) := by decide +kernel
theorem dX0_opens_29 : decode cX0_opens 29 = .ok (.iload 7, 2) := by decide +kernel
theorem dX0_opens_31 : decode cX0_opens 31 = .ok (.iconst 1, 1) := by decide +kernel
theorem dX0_opens_32 : decode cX0_opens 32 = .ok (.iadd, 1) := by decide +kernel
theorem dX0_opens_33 : decode cX0_opens 33 = .ok (.iload 4, 2) := by decide +kernel
theorem dX0_opens_35 : decode cX0_opens 35 = .ok (.iastore, 1) := by decide +kernel
theorem dX0_opens_36 : decode cX0_opens 36 = .ok (.aload_n 0, 1) := by decide +kernel
theorem dX0_opens_37 : decode cX0_opens 37 = .ok (.getfield 11, 3) := by decide +kernel
theorem dX0_opens_40 : decode cX0_opens 40 = .ok (.iload 7, 2) := by decide +kernel
theorem dX0_opens_42 : decode cX0_opens 42 = .ok (.iconst 2, 1) := by decide +kernel
theorem dX0_opens_43 : decode cX0_opens 43 = .ok (.iadd, 1) := by decide +kernel
theorem dX0_opens_44 : decode cX0_opens 44 = .ok (.iload 5, 2) := by decide +kernel
theorem dX0_opens_46 : decode cX0_opens 46 = .ok (.iastore, 1) := by decide +kernel
theorem dX0_opens_47 : decode cX0_opens 47 = .ok (.aload_n 0, 1) := by decide +kernel
theorem dX0_opens_48 : decode cX0_opens 48 = .ok (.getfield 11, 3) := by decide +kernel
theorem dX0_opens_51 : decode cX0_opens 51 = .ok (.iload 7, 2) := by decide +kernel
theorem dX0_opens_53 : decode cX0_opens 53 = .ok (.iconst 3, 1) := by decide +kernel
theorem dX0_opens_54 : decode cX0_opens 54 = .ok (.iadd, 1) := by decide +kernel
theorem dX0_opens_55 : decode cX0_opens 55 = .ok (.iload 6, 2) := by decide +kernel
theorem dX0_opens_57 : decode cX0_opens 57 = .ok (.iastore, 1) := by decide +kernel
theorem dX0_opens_58 : decode cX0_opens 58 = .ok (.aload_n 0, 1) := by decide +kernel
theorem dX0_opens_59 : decode cX0_opens 59 = .ok (.iload_n 1, 1) := by decide +kernel
theorem dX0_opens_60 : decode cX0_opens 60 = .ok (.invokevirtual 21, 3) := by decide +kernel
theorem dX0_opens_63 : decode cX0_opens 63 = .ok (.aload_n 0, 1) := by decide +kernel
theorem dX0_opens_64 : decode cX0_opens 64 = .ok (.iload_n 1, 1) := by decide +kernel
theorem dX0_opens_65 : decode cX0_opens 65 = .ok (.invokevirtual 25, 3) := by decide +kernel
theorem dX0_opens_68 : decode cX0_opens 68 = .ok (.ifCond .eq 15, 3) := by decide +kernel
theorem dX0_opens_71 : decode cX0_opens 71 = .ok (.aload_n 0, 1) := by decide +kernel
theorem dX0_opens_72 : decode cX0_opens 72 = .ok (.iload_n 1, 1) := by decide +kernel
theorem dX0_opens_73 : decode cX0_opens 73 = .ok (.invokevirtual 29, 3) := by decide +kernel
theorem dX0_opens_76 : decode cX0_opens 76 = .ok (.ifCond .eq 7, 3) := by decide +kernel
theorem dX0_opens_79 : decode cX0_opens 79 = .ok (.iconst 1, 1) := by decide +kernel
theorem dX0_opens_80 : decode cX0_opens 80 = .ok (.goto 4, 3) := by decide +kernel
theorem dX0_opens_83 : decode cX0_opens 83 = .ok (.iconst 0, 1) := by decide +kernel
theorem dX0_opens_84 : decode cX0_opens 84 = .ok (.ireturn, 1) := by decide +kernel
def fX0_opens (s : Mem) (p0 : Int32) (p1 : Int32) (p2 : Int32) (p3 : Int32) (p4 : Int32) (p5 : Int32) : Option (Int32 × Mem) :=
  lt ((((24 : Int32) * p0) + ((8 : Int32) * p1)) + ((4 : Int32) * p2)) (fun x1 => gd (x1 + (0 : Int32)) 171 (lt (up2 s 2 (x1 + (0 : Int32)).toNatClampNeg (1 : Int32)) (fun s3 => gd (x1 + (1 : Int32)) 171 (lt (up2 s3 2 (x1 + (1 : Int32)).toNatClampNeg p3) (fun s5 => gd (x1 + (2 : Int32)) 171 (lt (up2 s5 2 (x1 + (2 : Int32)).toNatClampNeg p4) (fun s7 => gd (x1 + (3 : Int32)) 171 (lt (up2 s7 2 (x1 + (3 : Int32)).toNatClampNeg p5) (fun s9 => (fX0_findLawful s9 p0).bind (fun y10 => (fX0_allSitWell y10 p0).bind (fun y11 => if y11 = (0 : Int32) then some (((0 : Int32), y10)) else (fX0_noCapIsPassed y10 p0).bind (fun y12 => if y12 = (0 : Int32) then some (((0 : Int32), y10)) else some (((1 : Int32), y10))))))))))))))
set_option maxRecDepth 4000 in
theorem jjX0_opens {X : Scr} (d : Nat) (s : Mem) (p0 : Int32) (p1 : Int32) (p2 : Int32) (p3 : Int32) (p4 : Int32) (p5 : Int32) {r : (Int32 × Mem)} {w : Option Value} {s' : Mem} (hh : fX0_opens s p0 p1 p2 p3 p4 p5 = some r) (hk : w = some (.int r.1) ∧ r.2 = s') : J X MX0_opens (d + 4) 0 [some (.ref 1), some (.int p0), some (.int p1), some (.int p2), some (.int p3), some (.int p4), some (.int p5), none] [] s w s' := by
  unfold fX0_opens at hh
  refine J_bipush (pc := 0) dX0_opens_0 cb_24 ?_
  refine J_iload_n (pc := 2) dX0_opens_2 rfl ?_
  refine J_imul (pc := 3) dX0_opens_3 ?_
  refine J_bipush (pc := 4) dX0_opens_4 cb_8 ?_
  refine J_iload_n (pc := 6) dX0_opens_6 rfl ?_
  refine J_imul (pc := 7) dX0_opens_7 ?_
  refine J_iadd (pc := 8) dX0_opens_8 ?_
  refine J_iconst (pc := 9) dX0_opens_9 ci_4 ?_
  refine J_iload_n (pc := 10) dX0_opens_10 rfl ?_
  refine J_imul (pc := 11) dX0_opens_11 ?_
  refine J_iadd (pc := 12) dX0_opens_12 ?_
  refine J_istoreL (pc := 13) (fun x1 => [some (.ref 1), some (.int p0), some (.int p1), some (.int p2), some (.int p3), some (.int p4), some (.int p5), some (.int x1)]) dX0_opens_13 rfl (Nat.le_of_ble_eq_true rfl) (fun _ => rfl) hh (fun x1 hh => ?_)
  refine J_aload_n (pc := 15) dX0_opens_15 rfl ?_
  refine J_getR (pc := 16) (k := 0) flX0_11 so1 fk1_0 dX0_opens_16 ?_
  refine J_iload (pc := 19) dX0_opens_19 rfl ?_
  refine J_iconst (pc := 21) dX0_opens_21 ci_0 ?_
  refine J_iadd (pc := 22) dX0_opens_22 ?_
  refine J_iconst (pc := 23) dX0_opens_23 ci_1 ?_
  obtain ⟨h2, hh⟩ := gd_some hh
  refine J_iastL (pc := 24) dX0_opens_24 sa2 h2 hh (fun s3 hh => ?_)
  refine J_aload_n (pc := 25) dX0_opens_25 rfl ?_
  refine J_getR (pc := 26) (k := 0) flX0_11 so1 fk1_0 dX0_opens_26 ?_
  refine J_iload (pc := 29) dX0_opens_29 rfl ?_
  refine J_iconst (pc := 31) dX0_opens_31 ci_1 ?_
  refine J_iadd (pc := 32) dX0_opens_32 ?_
  refine J_iload (pc := 33) dX0_opens_33 rfl ?_
  obtain ⟨h4, hh⟩ := gd_some hh
  refine J_iastL (pc := 35) dX0_opens_35 sa2 h4 hh (fun s5 hh => ?_)
  refine J_aload_n (pc := 36) dX0_opens_36 rfl ?_
  refine J_getR (pc := 37) (k := 0) flX0_11 so1 fk1_0 dX0_opens_37 ?_
  refine J_iload (pc := 40) dX0_opens_40 rfl ?_
  refine J_iconst (pc := 42) dX0_opens_42 ci_2 ?_
  refine J_iadd (pc := 43) dX0_opens_43 ?_
  refine J_iload (pc := 44) dX0_opens_44 rfl ?_
  obtain ⟨h6, hh⟩ := gd_some hh
  refine J_iastL (pc := 46) dX0_opens_46 sa2 h6 hh (fun s7 hh => ?_)
  refine J_aload_n (pc := 47) dX0_opens_47 rfl ?_
  refine J_getR (pc := 48) (k := 0) flX0_11 so1 fk1_0 dX0_opens_48 ?_
  refine J_iload (pc := 51) dX0_opens_51 rfl ?_
  refine J_iconst (pc := 53) dX0_opens_53 ci_3 ?_
  refine J_iadd (pc := 54) dX0_opens_54 ?_
  refine J_iload (pc := 55) dX0_opens_55 rfl ?_
  obtain ⟨h8, hh⟩ := gd_some hh
  refine J_iastL (pc := 57) dX0_opens_57 sa2 h8 hh (fun s9 hh => ?_)
  refine J_aload_n (pc := 58) dX0_opens_58 rfl ?_
  refine J_iload_n (pc := 59) dX0_opens_59 rfl ?_
  obtain ⟨y10, hy10, hh⟩ := bd_some hh
  refine J_callV0 (pc := 60) (M' := MX0_findLawful) (a := 1) (rest := []) (As := [.int p0]) (L0 := [some (.ref 1), some (.int p0), none]) okX0_findLawful ovX0_findLawful mlX0_21 clX0 so1 rfl rfl (Nat.le_of_ble_eq_true rfl) dX0_opens_60 rfl (Nat.le_of_ble_eq_true rfl) (jX0_findLawful (X := X) d s9 p0 hy10) ?_
  refine J_aload_n (pc := 63) dX0_opens_63 rfl ?_
  refine J_iload_n (pc := 64) dX0_opens_64 rfl ?_
  obtain ⟨y11, hy11, hh⟩ := bd_some hh
  refine J_callVi (pc := 65) (M' := MX0_allSitWell) (a := 1) (rest := []) (As := [.int p0]) (L0 := [some (.ref 1), some (.int p0), none, none]) okX0_allSitWell ovX0_allSitWell mlX0_25 clX0 so1 rfl rfl (Nat.le_of_ble_eq_true rfl) dX0_opens_65 rfl (Nat.le_of_ble_eq_true rfl) (jX0_allSitWell (X := X) d y10 p0 hy11) ?_
  refine J_if_eq (pc := 68) 83 dX0_opens_68 (by decide) (fun c14 => ?_) (fun c14 => ?_)
  · replace hh := (if_pos c14).symm.trans hh
    refine J_iconst (pc := 83) dX0_opens_83 ci_0 ?_
    obtain rfl := Option.some.inj hh
    obtain ⟨rfl, rfl⟩ := hk
    exact J_ret (w := some (.int (0 : Int32))) ⟨dX0_opens_84, _, rfl, rfl⟩
  · replace hh := (if_neg c14).symm.trans hh
    refine J_aload_n (pc := 71) dX0_opens_71 rfl ?_
    refine J_iload_n (pc := 72) dX0_opens_72 rfl ?_
    obtain ⟨y12, hy12, hh⟩ := bd_some hh
    refine J_callVi (pc := 73) (M' := MX0_noCapIsPassed) (a := 1) (rest := []) (As := [.int p0]) (L0 := [some (.ref 1), some (.int p0), none, none]) okX0_noCapIsPassed ovX0_noCapIsPassed mlX0_29 clX0 so1 rfl rfl (Nat.le_of_ble_eq_true rfl) dX0_opens_73 rfl (Nat.le_of_ble_eq_true rfl) (jX0_noCapIsPassed (X := X) (d + 2) y10 p0 hy12) ?_
    refine J_if_eq (pc := 76) 83 dX0_opens_76 (by decide) (fun c13 => ?_) (fun c13 => ?_)
    · replace hh := (if_pos c13).symm.trans hh
      refine J_iconst (pc := 83) dX0_opens_83 ci_0 ?_
      obtain rfl := Option.some.inj hh
      obtain ⟨rfl, rfl⟩ := hk
      exact J_ret (w := some (.int (0 : Int32))) ⟨dX0_opens_84, _, rfl, rfl⟩
    · replace hh := (if_neg c13).symm.trans hh
      refine J_iconst (pc := 79) dX0_opens_79 ci_1 ?_
      refine J_goto (pc := 80) 84 dX0_opens_80 (by decide) ?_
      obtain rfl := Option.some.inj hh
      obtain ⟨rfl, rfl⟩ := hk
      exact J_ret (w := some (.int (1 : Int32))) ⟨dX0_opens_84, _, rfl, rfl⟩
theorem jX0_opens {X : Scr} (d : Nat) (s : Mem) (p0 : Int32) (p1 : Int32) (p2 : Int32) (p3 : Int32) (p4 : Int32) (p5 : Int32) {r : (Int32 × Mem)} (hh : fX0_opens s p0 p1 p2 p3 p4 p5 = some r) : J X MX0_opens (d + 4) 0 [some (.ref 1), some (.int p0), some (.int p1), some (.int p2), some (.int p3), some (.int p4), some (.int p5), none] [] s (some (.int r.1)) r.2 := jjX0_opens d s p0 p1 p2 p3 p4 p5 hh ⟨rfl, rfl⟩
theorem dX0_closes_0 : decode cX0_closes 0 = .ok (.aload_n 0, 1) := by decide +kernel
theorem dX0_closes_1 : decode cX0_closes 1 = .ok (.getfield 11, 3) := by decide +kernel
theorem dX0_closes_4 : decode cX0_closes 4 = .ok (.bipush 24, 2) := by decide +kernel
theorem dX0_closes_6 : decode cX0_closes 6 = .ok (.iload_n 1, 1) := by decide +kernel
theorem dX0_closes_7 : decode cX0_closes 7 = .ok (.imul, 1) := by decide +kernel
theorem dX0_closes_8 : decode cX0_closes 8 = .ok (.bipush 8, 2) := by decide +kernel
theorem dX0_closes_10 : decode cX0_closes 10 = .ok (.iload_n 2, 1) := by decide +kernel
theorem dX0_closes_11 : decode cX0_closes 11 = .ok (.imul, 1) := by decide +kernel
theorem dX0_closes_12 : decode cX0_closes 12 = .ok (.iadd, 1) := by decide +kernel
theorem dX0_closes_13 : decode cX0_closes 13 = .ok (.iconst 4, 1) := by decide +kernel
theorem dX0_closes_14 : decode cX0_closes 14 = .ok (.iload_n 3, 1) := by decide +kernel
theorem dX0_closes_15 : decode cX0_closes 15 = .ok (.imul, 1) := by decide +kernel
theorem dX0_closes_16 : decode cX0_closes 16 = .ok (.iadd, 1) := by decide +kernel
theorem dX0_closes_17 : decode cX0_closes 17 = .ok (.iconst 0, 1) := by decide +kernel
theorem dX0_closes_18 : decode cX0_closes 18 = .ok (.iadd, 1) := by decide +kernel
theorem dX0_closes_19 : decode cX0_closes 19 = .ok (.iconst 0, 1) := by decide +kernel
theorem dX0_closes_20 : decode cX0_closes 20 = .ok (.iastore, 1) := by decide +kernel
theorem dX0_closes_21 : decode cX0_closes 21 = .ok (.aload_n 0, 1) := by decide +kernel
theorem dX0_closes_22 : decode cX0_closes 22 = .ok (.iload_n 1, 1) := by decide +kernel
theorem dX0_closes_23 : decode cX0_closes 23 = .ok (.invokevirtual 21, 3) := by decide +kernel
theorem dX0_closes_26 : decode cX0_closes 26 = .ok (.iconst 0, 1) := by decide +kernel
theorem dX0_closes_27 : decode cX0_closes 27 = .ok (.istore 4, 2) := by decide +kernel
theorem dX0_closes_29 : decode cX0_closes 29 = .ok (.iconst 0, 1) := by decide +kernel
theorem dX0_closes_30 : decode cX0_closes 30 = .ok (.istore 5, 2) := by decide +kernel
theorem dX0_closes_32 : decode cX0_closes 32 = .ok (.iload 5, 2) := by decide +kernel
theorem dX0_closes_34 : decode cX0_closes 34 = .ok (.aload_n 0, 1) := by decide +kernel
theorem dX0_closes_35 : decode cX0_closes 35 = .ok (.invokevirtual 32, 3) := by decide +kernel
theorem dX0_closes_38 : decode cX0_closes 38 = .ok (.if_icmp .ge 45, 3) := by decide +kernel
theorem dX0_closes_41 : decode cX0_closes 41 = .ok (.aload_n 0, 1) := by decide +kernel
theorem dX0_closes_42 : decode cX0_closes 42 = .ok (.iload 5, 2) := by decide +kernel
theorem dX0_closes_44 : decode cX0_closes 44 = .ok (.iload_n 1, 1) := by decide +kernel
theorem dX0_closes_45 : decode cX0_closes 45 = .ok (.invokevirtual 36, 3) := by decide +kernel
theorem dX0_closes_48 : decode cX0_closes 48 = .ok (.istore 6, 2) := by decide +kernel
theorem dX0_closes_50 : decode cX0_closes 50 = .ok (.iload 6, 2) := by decide +kernel
theorem dX0_closes_52 : decode cX0_closes 52 = .ok (.ifCond .lt 25, 3) := by decide +kernel
theorem dX0_closes_55 : decode cX0_closes 55 = .ok (.aload_n 0, 1) := by decide +kernel
theorem dX0_closes_56 : decode cX0_closes 56 = .ok (.iload_n 1, 1) := by decide +kernel
theorem dX0_closes_57 : decode cX0_closes 57 = .ok (.iload 6, 2) := by decide +kernel
theorem dX0_closes_59 : decode cX0_closes 59 = .ok (.invokevirtual 54, 3) := by decide +kernel
theorem dX0_closes_62 : decode cX0_closes 62 = .ok (.ifCond .ge 15, 3) := by decide +kernel
theorem dX0_closes_65 : decode cX0_closes 65 = .ok (.aload_n 0, 1) := by decide +kernel
theorem dX0_closes_66 : decode cX0_closes 66 = .ok (.iload 5, 2) := by decide +kernel
theorem dX0_closes_68 : decode cX0_closes 68 = .ok (.iload_n 1, 1) := by decide +kernel
theorem dX0_closes_69 : decode cX0_closes 69 = .ok (.iconst (-1), 1) := by decide +kernel
theorem dX0_closes_70 : decode cX0_closes 70 = .ok (.invokevirtual 57, 3) := by decide +kernel
theorem dX0_closes_73 : decode cX0_closes 73 = .ok (.pop, 1) := by decide +kernel
theorem dX0_closes_74 : decode cX0_closes 74 = .ok (.iinc 4 1, 3) := by decide +kernel
theorem dX0_closes_77 : decode cX0_closes 77 = .ok (.iinc 5 1, 3) := by decide +kernel
theorem dX0_closes_80 : decode cX0_closes 80 = .ok (.goto (-48), 3) := by decide +kernel
theorem dX0_closes_83 : decode cX0_closes 83 = .ok (.iload 4, 2) := by decide +kernel
theorem dX0_closes_85 : decode cX0_closes 85 = .ok (.ireturn, 1) := by decide +kernel
def bX0_closes_32 (s : Mem) (v1 : Int32) (v4 : Int32) (v5 : Int32) : Option ((Int32 × Mem) ⊕ (Int32 × Int32 × Mem)) :=
  (fX0_pupils s).bind (fun y4 => if y4 ≤ v5 then some (Sum.inl (v4, s)) else (fX0_sits s v5 v1).bind (fun y5 => if y5 < (0 : Int32) then lt (v5 + (1 : Int32)) (fun x6 => some (Sum.inr (v4, x6, s))) else (fX0_hoursOf s v1 y5).bind (fun y7 => if (0 : Int32) ≤ y7 then lt (v5 + (1 : Int32)) (fun x8 => some (Sum.inr (v4, x8, s))) else (fX0_sitsNow s v5 v1 (-1 : Int32)).bind (fun y9 => lt (v4 + (1 : Int32)) (fun x10 => lt (v5 + (1 : Int32)) (fun x11 => some (Sum.inr (x10, x11, y9.2))))))))
set_option maxRecDepth 4000 in
theorem jbX0_closes_32 {X : Scr} (d : Nat) (s : Mem) (v1 : Int32) (v4 : Int32) (v5 : Int32) {r : ((Int32 × Mem) ⊕ (Int32 × Int32 × Mem))} {w : Option Value} {s' : Mem} (hh : bX0_closes_32 s v1 v4 v5 = some r) (hk : Sum.elim (fun t : (Int32 × Mem) => J X MX0_closes (d + 4) 83 [none, none, none, none, some (.int t.1), none, none] [] t.2 w s') (fun a : (Int32 × Int32 × Mem) => J X MX0_closes (d + 4) 32 [some (.ref 1), some (.int v1), none, none, some (.int a.1), some (.int a.2.1), none] [] a.2.2 w s') r) : J X MX0_closes (d + 4) 32 [some (.ref 1), some (.int v1), none, none, some (.int v4), some (.int v5), none] [] s w s' := by
  unfold bX0_closes_32 at hh
  refine J_iload (pc := 32) dX0_closes_32 rfl ?_
  refine J_aload_n (pc := 34) dX0_closes_34 rfl ?_
  obtain ⟨y4, hy4, hh⟩ := bd_some hh
  refine J_callVi (pc := 35) (M' := MX0_pupils) (a := 1) (rest := [.int v5]) (As := []) (L0 := [some (.ref 1)]) okX0_pupils ovX0_pupils mlX0_32 clX0 so1 rfl rfl (Nat.le_of_ble_eq_true rfl) dX0_closes_35 rfl (Nat.le_of_ble_eq_true rfl) (jX0_pupils (X := X) (d + 3) s hy4) ?_
  refine J_icmp_ge (pc := 38) 83 dX0_closes_38 (by decide) (fun c14 => ?_) (fun c14 => ?_)
  · replace hh := (if_pos c14).symm.trans hh
    refine J_drop 0 (L' := [none, some (.int v1), none, none, some (.int v4), some (.int v5), none]) rfl ?_
    refine J_drop 1 (L' := [none, none, none, none, some (.int v4), some (.int v5), none]) rfl ?_
    refine J_drop 5 (L' := [none, none, none, none, some (.int v4), none, none]) rfl ?_
    obtain rfl := Option.some.inj hh
    exact hk
  · replace hh := (if_neg c14).symm.trans hh
    refine J_aload_n (pc := 41) dX0_closes_41 rfl ?_
    refine J_iload (pc := 42) dX0_closes_42 rfl ?_
    refine J_iload_n (pc := 44) dX0_closes_44 rfl ?_
    obtain ⟨y5, hy5, hh⟩ := bd_some hh
    refine J_callVi (pc := 45) (M' := MX0_sits) (a := 1) (rest := []) (As := [.int v5, .int v1]) (L0 := [some (.ref 1), some (.int v5), some (.int v1)]) okX0_sits ovX0_sits mlX0_36 clX0 so1 rfl rfl (Nat.le_of_ble_eq_true rfl) dX0_closes_45 rfl (Nat.le_of_ble_eq_true rfl) (jX0_sits (X := X) (d + 3) s v5 v1 hy5) ?_
    refine J_istore (pc := 48) (L' := [some (.ref 1), some (.int v1), none, none, some (.int v4), some (.int v5), some (.int y5)]) dX0_closes_48 rfl (Nat.le_of_ble_eq_true rfl) rfl ?_
    refine J_iload (pc := 50) dX0_closes_50 rfl ?_
    refine J_if_lt (pc := 52) 77 dX0_closes_52 (by decide) (fun c13 => ?_) (fun c13 => ?_)
    · replace hh := (if_pos c13).symm.trans hh
      refine J_iincL (pc := 77) (v := v5 + (1 : Int32)) (fun x6 => [some (.ref 1), some (.int v1), none, none, some (.int v4), some (.int x6), some (.int y5)]) dX0_closes_77 rfl rfl (Nat.le_of_ble_eq_true rfl) (congrArg _ ci_1) (fun _ => rfl) hh (fun x6 hh => ?_)
      refine J_goto (pc := 80) 32 dX0_closes_80 (by decide) ?_
      refine J_drop 6 (L' := [some (.ref 1), some (.int v1), none, none, some (.int v4), some (.int x6), none]) rfl ?_
      obtain rfl := Option.some.inj hh
      exact hk
    · replace hh := (if_neg c13).symm.trans hh
      refine J_aload_n (pc := 55) dX0_closes_55 rfl ?_
      refine J_iload_n (pc := 56) dX0_closes_56 rfl ?_
      refine J_iload (pc := 57) dX0_closes_57 rfl ?_
      obtain ⟨y7, hy7, hh⟩ := bd_some hh
      refine J_callVi (pc := 59) (M' := MX0_hoursOf) (a := 1) (rest := []) (As := [.int v1, .int y5]) (L0 := [some (.ref 1), some (.int v1), some (.int y5)]) okX0_hoursOf ovX0_hoursOf mlX0_54 clX0 so1 rfl rfl (Nat.le_of_ble_eq_true rfl) dX0_closes_59 rfl (Nat.le_of_ble_eq_true rfl) (jX0_hoursOf (X := X) (d + 3) s v1 y5 hy7) ?_
      refine J_if_ge (pc := 62) 77 dX0_closes_62 (by decide) (fun c12 => ?_) (fun c12 => ?_)
      · replace hh := (if_pos c12).symm.trans hh
        refine J_iincL (pc := 77) (v := v5 + (1 : Int32)) (fun x8 => [some (.ref 1), some (.int v1), none, none, some (.int v4), some (.int x8), some (.int y5)]) dX0_closes_77 rfl rfl (Nat.le_of_ble_eq_true rfl) (congrArg _ ci_1) (fun _ => rfl) hh (fun x8 hh => ?_)
        refine J_goto (pc := 80) 32 dX0_closes_80 (by decide) ?_
        refine J_drop 6 (L' := [some (.ref 1), some (.int v1), none, none, some (.int v4), some (.int x8), none]) rfl ?_
        obtain rfl := Option.some.inj hh
        exact hk
      · replace hh := (if_neg c12).symm.trans hh
        refine J_aload_n (pc := 65) dX0_closes_65 rfl ?_
        refine J_iload (pc := 66) dX0_closes_66 rfl ?_
        refine J_iload_n (pc := 68) dX0_closes_68 rfl ?_
        refine J_iconst (pc := 69) dX0_closes_69 ci_m1 ?_
        obtain ⟨y9, hy9, hh⟩ := bd_some hh
        refine J_callVi (pc := 70) (M' := MX0_sitsNow) (a := 1) (rest := []) (As := [.int v5, .int v1, .int (-1 : Int32)]) (L0 := [some (.ref 1), some (.int v5), some (.int v1), some (.int (-1 : Int32)), none, none]) okX0_sitsNow ovX0_sitsNow mlX0_57 clX0 so1 rfl rfl (Nat.le_of_ble_eq_true rfl) dX0_closes_70 rfl (Nat.le_of_ble_eq_true rfl) (jX0_sitsNow (X := X) (d + 3) s v5 v1 (-1 : Int32) hy9) ?_
        refine J_pop (pc := 73) dX0_closes_73 rfl ?_
        refine J_iincL (pc := 74) (v := v4 + (1 : Int32)) (fun x10 => [some (.ref 1), some (.int v1), none, none, some (.int x10), some (.int v5), some (.int y5)]) dX0_closes_74 rfl rfl (Nat.le_of_ble_eq_true rfl) (congrArg _ ci_1) (fun _ => rfl) hh (fun x10 hh => ?_)
        refine J_iincL (pc := 77) (v := v5 + (1 : Int32)) (fun x11 => [some (.ref 1), some (.int v1), none, none, some (.int x10), some (.int x11), some (.int y5)]) dX0_closes_77 rfl rfl (Nat.le_of_ble_eq_true rfl) (congrArg _ ci_1) (fun _ => rfl) hh (fun x11 hh => ?_)
        refine J_goto (pc := 80) 32 dX0_closes_80 (by decide) ?_
        refine J_drop 6 (L' := [some (.ref 1), some (.int v1), none, none, some (.int x10), some (.int x11), none]) rfl ?_
        obtain rfl := Option.some.inj hh
        exact hk
def fX0_closes (s : Mem) (p0 : Int32) (p1 : Int32) (p2 : Int32) : Option (Int32 × Mem) :=
  gd (((((24 : Int32) * p0) + ((8 : Int32) * p1)) + ((4 : Int32) * p2)) + (0 : Int32)) 171 (lt (up2 s 2 (((((24 : Int32) * p0) + ((8 : Int32) * p1)) + ((4 : Int32) * p2)) + (0 : Int32)).toNatClampNeg (0 : Int32)) (fun s2 => (fX0_findLawful s2 p0).bind (fun y3 => (lp (fun a => bX0_closes_32 a.2.2 p0 a.1 a.2.1) 600 ((0 : Int32), (0 : Int32), y3)).bind (fun y15 => some ((y15.1, y15.2))))))
set_option maxRecDepth 4000 in
theorem jjX0_closes {X : Scr} (d : Nat) (s : Mem) (p0 : Int32) (p1 : Int32) (p2 : Int32) {r : (Int32 × Mem)} {w : Option Value} {s' : Mem} (hh : fX0_closes s p0 p1 p2 = some r) (hk : w = some (.int r.1) ∧ r.2 = s') : J X MX0_closes (d + 4) 0 [some (.ref 1), some (.int p0), some (.int p1), some (.int p2), none, none, none] [] s w s' := by
  unfold fX0_closes at hh
  refine J_aload_n (pc := 0) dX0_closes_0 rfl ?_
  refine J_getR (pc := 1) (k := 0) flX0_11 so1 fk1_0 dX0_closes_1 ?_
  refine J_bipush (pc := 4) dX0_closes_4 cb_24 ?_
  refine J_iload_n (pc := 6) dX0_closes_6 rfl ?_
  refine J_imul (pc := 7) dX0_closes_7 ?_
  refine J_bipush (pc := 8) dX0_closes_8 cb_8 ?_
  refine J_iload_n (pc := 10) dX0_closes_10 rfl ?_
  refine J_imul (pc := 11) dX0_closes_11 ?_
  refine J_iadd (pc := 12) dX0_closes_12 ?_
  refine J_iconst (pc := 13) dX0_closes_13 ci_4 ?_
  refine J_iload_n (pc := 14) dX0_closes_14 rfl ?_
  refine J_imul (pc := 15) dX0_closes_15 ?_
  refine J_iadd (pc := 16) dX0_closes_16 ?_
  refine J_iconst (pc := 17) dX0_closes_17 ci_0 ?_
  refine J_iadd (pc := 18) dX0_closes_18 ?_
  refine J_iconst (pc := 19) dX0_closes_19 ci_0 ?_
  obtain ⟨h1, hh⟩ := gd_some hh
  refine J_iastL (pc := 20) dX0_closes_20 sa2 h1 hh (fun s2 hh => ?_)
  refine J_aload_n (pc := 21) dX0_closes_21 rfl ?_
  refine J_iload_n (pc := 22) dX0_closes_22 rfl ?_
  obtain ⟨y3, hy3, hh⟩ := bd_some hh
  refine J_callV0 (pc := 23) (M' := MX0_findLawful) (a := 1) (rest := []) (As := [.int p0]) (L0 := [some (.ref 1), some (.int p0), none]) okX0_findLawful ovX0_findLawful mlX0_21 clX0 so1 rfl rfl (Nat.le_of_ble_eq_true rfl) dX0_closes_23 rfl (Nat.le_of_ble_eq_true rfl) (jX0_findLawful (X := X) d s2 p0 hy3) ?_
  refine J_iconst (pc := 26) dX0_closes_26 ci_0 ?_
  refine J_istore (pc := 27) (L' := [some (.ref 1), some (.int p0), some (.int p1), some (.int p2), some (.int (0 : Int32)), none, none]) dX0_closes_27 rfl (Nat.le_of_ble_eq_true rfl) rfl ?_
  refine J_iconst (pc := 29) dX0_closes_29 ci_0 ?_
  refine J_istore (pc := 30) (L' := [some (.ref 1), some (.int p0), some (.int p1), some (.int p2), some (.int (0 : Int32)), some (.int (0 : Int32)), none]) dX0_closes_30 rfl (Nat.le_of_ble_eq_true rfl) rfl ?_
  refine J_drop 2 (L' := [some (.ref 1), some (.int p0), none, some (.int p2), some (.int (0 : Int32)), some (.int (0 : Int32)), none]) rfl ?_
  refine J_drop 3 (L' := [some (.ref 1), some (.int p0), none, none, some (.int (0 : Int32)), some (.int (0 : Int32)), none]) rfl ?_
  obtain ⟨y15, hy15, hh⟩ := bd_some hh
  refine J_lp (a := ((0 : Int32), (0 : Int32), y3)) (fun a : (Int32 × Int32 × Mem) => J X MX0_closes (d + 4) 32 [some (.ref 1), some (.int p0), none, none, some (.int a.1), some (.int a.2.1), none] [] a.2.2 w s') (fun t : (Int32 × Mem) => J X MX0_closes (d + 4) 83 [none, none, none, none, some (.int t.1), none, none] [] t.2 w s') (fun a q h1 h2 => jbX0_closes_32 d a.2.2 p0 a.1 a.2.1 h1 h2) hy15 ?_
  refine J_iload (pc := 83) dX0_closes_83 rfl ?_
  obtain rfl := Option.some.inj hh
  obtain ⟨rfl, rfl⟩ := hk
  exact J_ret (w := some (.int y15.1)) ⟨dX0_closes_85, _, rfl, rfl⟩
theorem jX0_closes {X : Scr} (d : Nat) (s : Mem) (p0 : Int32) (p1 : Int32) (p2 : Int32) {r : (Int32 × Mem)} (hh : fX0_closes s p0 p1 p2 = some r) : J X MX0_closes (d + 4) 0 [some (.ref 1), some (.int p0), some (.int p1), some (.int p2), none, none, none] [] s (some (.int r.1)) r.2 := jjX0_closes d s p0 p1 p2 hh ⟨rfl, rfl⟩
theorem dX0_comes_0 : decode cX0_comes 0 = .ok (.aload_n 0, 1) := by decide +kernel
theorem dX0_comes_1 : decode cX0_comes 1 = .ok (.invokevirtual 32, 3) := by decide +kernel
theorem dX0_comes_4 : decode cX0_comes 4 = .ok (.istore 4, 2) := by decide +kernel
theorem dX0_comes_6 : decode cX0_comes 6 = .ok (.bipush 96, 2) := by decide +kernel
theorem dX0_comes_8 : decode cX0_comes 8 = .ok (.bipush 7, 2) := by decide +kernel
theorem dX0_comes_10 : decode cX0_comes 10 = .ok (.iload 4, 2) := by decide +kernel
theorem dX0_comes_12 : decode cX0_comes 12 = .ok (.imul, 1) := by decide +kernel
theorem dX0_comes_13 : decode cX0_comes 13 = .ok (.iadd, 1) := by decide +kernel
theorem dX0_comes_14 : decode cX0_comes 14 = .ok (.istore 5, 2) := by decide +kernel
theorem dX0_comes_16 : decode cX0_comes 16 = .ok (.aload_n 0, 1) := by decide +kernel
theorem dX0_comes_17 : decode cX0_comes 17 = .ok (.getfield 11, 3) := by decide +kernel
theorem dX0_comes_20 : decode cX0_comes 20 = .ok (.iload 5, 2) := by decide +kernel
theorem dX0_comes_22 : decode cX0_comes 22 = .ok (.iconst 0, 1) := by decide +kernel
theorem dX0_comes_23 : decode cX0_comes 23 = .ok (.iadd, 1) := by decide +kernel
theorem dX0_comes_24 : decode cX0_comes 24 = .ok (.iload_n 1, 1) := by decide +kernel
theorem dX0_comes_25 : decode cX0_comes 25 = .ok (.iastore, 1) := by decide +kernel
theorem dX0_comes_26 : decode cX0_comes 26 = .ok (.aload_n 0, 1) := by decide +kernel
theorem dX0_comes_27 : decode cX0_comes 27 = .ok (.getfield 11, 3) := by decide +kernel
theorem dX0_comes_30 : decode cX0_comes 30 = .ok (.iload 5, 2) := by decide +kernel
theorem dX0_comes_32 : decode cX0_comes 32 = .ok (.iconst 1, 1) := by decide +kernel
theorem dX0_comes_33 : decode cX0_comes 33 = .ok (.iadd, 1) := by decide +kernel
theorem dX0_comes_34 : decode cX0_comes 34 = .ok (.iload_n 2, 1) := by decide +kernel
theorem dX0_comes_35 : decode cX0_comes 35 = .ok (.iastore, 1) := by decide +kernel
theorem dX0_comes_36 : decode cX0_comes 36 = .ok (.aload_n 0, 1) := by decide +kernel
theorem dX0_comes_37 : decode cX0_comes 37 = .ok (.getfield 11, 3) := by decide +kernel
theorem dX0_comes_40 : decode cX0_comes 40 = .ok (.iload 5, 2) := by decide +kernel
theorem dX0_comes_42 : decode cX0_comes 42 = .ok (.iconst 2, 1) := by decide +kernel
theorem dX0_comes_43 : decode cX0_comes 43 = .ok (.iadd, 1) := by decide +kernel
theorem dX0_comes_44 : decode cX0_comes 44 = .ok (.iload_n 3, 1) := by decide +kernel
theorem dX0_comes_45 : decode cX0_comes 45 = .ok (.iastore, 1) := by decide +kernel
theorem dX0_comes_46 : decode cX0_comes 46 = .ok (.iconst 0, 1) := by decide +kernel
theorem dX0_comes_47 : decode cX0_comes 47 = .ok (.istore 6, 2) := by decide +kernel
theorem dX0_comes_49 : decode cX0_comes 49 = .ok (.iload 6, 2) := by decide +kernel
theorem dX0_comes_51 : decode cX0_comes 51 = .ok (.iconst 4, 1) := by decide +kernel
theorem dX0_comes_52 : decode cX0_comes 52 = .ok (.if_icmp .ge 22, 3) := by decide +kernel
theorem dX0_comes_55 : decode cX0_comes 55 = .ok (.aload_n 0, 1) := by decide +kernel
theorem dX0_comes_56 : decode cX0_comes 56 = .ok (.getfield 11, 3) := by decide +kernel
theorem dX0_comes_59 : decode cX0_comes 59 = .ok (.iload 5, 2) := by decide +kernel
theorem dX0_comes_61 : decode cX0_comes 61 = .ok (.iconst 3, 1) := by decide +kernel
theorem dX0_comes_62 : decode cX0_comes 62 = .ok (.iadd, 1) := by decide +kernel
theorem dX0_comes_63 : decode cX0_comes 63 = .ok (.iload 6, 2) := by decide +kernel
theorem dX0_comes_65 : decode cX0_comes 65 = .ok (.iadd, 1) := by decide +kernel
theorem dX0_comes_66 : decode cX0_comes 66 = .ok (.iconst (-1), 1) := by decide +kernel
theorem dX0_comes_67 : decode cX0_comes 67 = .ok (.iastore, 1) := by decide +kernel
theorem dX0_comes_68 : decode cX0_comes 68 = .ok (.iinc 6 1, 3) := by decide +kernel
theorem dX0_comes_71 : decode cX0_comes 71 = .ok (.goto (-22), 3) := by decide +kernel
theorem dX0_comes_74 : decode cX0_comes 74 = .ok (.aload_n 0, 1) := by decide +kernel
theorem dX0_comes_75 : decode cX0_comes 75 = .ok (.getfield 11, 3) := by decide +kernel
theorem dX0_comes_78 : decode cX0_comes 78 = .ok (.sipush 138, 3) := by decide +kernel
theorem dX0_comes_81 : decode cX0_comes 81 = .ok (.iload 4, 2) := by decide +kernel
theorem dX0_comes_83 : decode cX0_comes 83 = .ok (.iconst 1, 1) := by decide +kernel
theorem dX0_comes_84 : decode cX0_comes 84 = .ok (.iadd, 1) := by decide +kernel
theorem dX0_comes_85 : decode cX0_comes 85 = .ok (.iastore, 1) := by decide +kernel
theorem dX0_comes_86 : decode cX0_comes 86 = .ok (.iload 4, 2) := by decide +kernel
theorem dX0_comes_88 : decode cX0_comes 88 = .ok (.ireturn, 1) := by decide +kernel
def bX0_comes_49 (s : Mem) (v4 : Int32) (v5 : Int32) (v6 : Int32) : Option (Mem ⊕ (Int32 × Mem)) :=
  if (4 : Int32) ≤ v6 then some (Sum.inl s) else gd ((v5 + (3 : Int32)) + v6) 171 (lt (up2 s 2 ((v5 + (3 : Int32)) + v6).toNatClampNeg (-1 : Int32)) (fun s10 => lt (v6 + (1 : Int32)) (fun x11 => some (Sum.inr (x11, s10)))))
set_option maxRecDepth 4000 in
theorem jbX0_comes_49 {X : Scr} (d : Nat) (s : Mem) (v4 : Int32) (v5 : Int32) (v6 : Int32) {r : (Mem ⊕ (Int32 × Mem))} {w : Option Value} {s' : Mem} (hh : bX0_comes_49 s v4 v5 v6 = some r) (hk : Sum.elim (fun t : Mem => J X MX0_comes (d + 1) 74 [some (.ref 1), none, none, none, some (.int v4), none, none] [] t w s') (fun a : (Int32 × Mem) => J X MX0_comes (d + 1) 49 [some (.ref 1), none, none, none, some (.int v4), some (.int v5), some (.int a.1)] [] a.2 w s') r) : J X MX0_comes (d + 1) 49 [some (.ref 1), none, none, none, some (.int v4), some (.int v5), some (.int v6)] [] s w s' := by
  unfold bX0_comes_49 at hh
  refine J_iload (pc := 49) dX0_comes_49 rfl ?_
  refine J_iconst (pc := 51) dX0_comes_51 ci_4 ?_
  refine J_icmp_ge (pc := 52) 74 dX0_comes_52 (by decide) (fun c12 => ?_) (fun c12 => ?_)
  · replace hh := (if_pos c12).symm.trans hh
    refine J_drop 5 (L' := [some (.ref 1), none, none, none, some (.int v4), none, some (.int v6)]) rfl ?_
    refine J_drop 6 (L' := [some (.ref 1), none, none, none, some (.int v4), none, none]) rfl ?_
    obtain rfl := Option.some.inj hh
    exact hk
  · replace hh := (if_neg c12).symm.trans hh
    refine J_aload_n (pc := 55) dX0_comes_55 rfl ?_
    refine J_getR (pc := 56) (k := 0) flX0_11 so1 fk1_0 dX0_comes_56 ?_
    refine J_iload (pc := 59) dX0_comes_59 rfl ?_
    refine J_iconst (pc := 61) dX0_comes_61 ci_3 ?_
    refine J_iadd (pc := 62) dX0_comes_62 ?_
    refine J_iload (pc := 63) dX0_comes_63 rfl ?_
    refine J_iadd (pc := 65) dX0_comes_65 ?_
    refine J_iconst (pc := 66) dX0_comes_66 ci_m1 ?_
    obtain ⟨h9, hh⟩ := gd_some hh
    refine J_iastL (pc := 67) dX0_comes_67 sa2 h9 hh (fun s10 hh => ?_)
    refine J_iincL (pc := 68) (v := v6 + (1 : Int32)) (fun x11 => [some (.ref 1), none, none, none, some (.int v4), some (.int v5), some (.int x11)]) dX0_comes_68 rfl rfl (Nat.le_of_ble_eq_true rfl) (congrArg _ ci_1) (fun _ => rfl) hh (fun x11 hh => ?_)
    refine J_goto (pc := 71) 49 dX0_comes_71 (by decide) ?_
    obtain rfl := Option.some.inj hh
    exact hk
def fX0_comes (s : Mem) (p0 : Int32) (p1 : Int32) (p2 : Int32) : Option (Int32 × Mem) :=
  (fX0_pupils s).bind (fun y1 => lt ((96 : Int32) + ((7 : Int32) * y1)) (fun x2 => gd (x2 + (0 : Int32)) 171 (lt (up2 s 2 (x2 + (0 : Int32)).toNatClampNeg p0) (fun s4 => gd (x2 + (1 : Int32)) 171 (lt (up2 s4 2 (x2 + (1 : Int32)).toNatClampNeg p1) (fun s6 => gd (x2 + (2 : Int32)) 171 (lt (up2 s6 2 (x2 + (2 : Int32)).toNatClampNeg p2) (fun s8 => (lp (fun a => bX0_comes_49 a.2 y1 x2 a.1) 600 ((0 : Int32), s8)).bind (fun y13 => gd (138 : Int32) 171 (lt (up2 y13 2 (138 : Int32).toNatClampNeg (y1 + (1 : Int32))) (fun s15 => some ((y1, s15)))))))))))))
set_option maxRecDepth 4000 in
theorem jjX0_comes {X : Scr} (d : Nat) (s : Mem) (p0 : Int32) (p1 : Int32) (p2 : Int32) {r : (Int32 × Mem)} {w : Option Value} {s' : Mem} (hh : fX0_comes s p0 p1 p2 = some r) (hk : w = some (.int r.1) ∧ r.2 = s') : J X MX0_comes (d + 1) 0 [some (.ref 1), some (.int p0), some (.int p1), some (.int p2), none, none, none] [] s w s' := by
  unfold fX0_comes at hh
  refine J_aload_n (pc := 0) dX0_comes_0 rfl ?_
  obtain ⟨y1, hy1, hh⟩ := bd_some hh
  refine J_callVi (pc := 1) (M' := MX0_pupils) (a := 1) (rest := []) (As := []) (L0 := [some (.ref 1)]) okX0_pupils ovX0_pupils mlX0_32 clX0 so1 rfl rfl (Nat.le_of_ble_eq_true rfl) dX0_comes_1 rfl (Nat.le_of_ble_eq_true rfl) (jX0_pupils (X := X) d s hy1) ?_
  refine J_istore (pc := 4) (L' := [some (.ref 1), some (.int p0), some (.int p1), some (.int p2), some (.int y1), none, none]) dX0_comes_4 rfl (Nat.le_of_ble_eq_true rfl) rfl ?_
  refine J_bipush (pc := 6) dX0_comes_6 cb_96 ?_
  refine J_bipush (pc := 8) dX0_comes_8 cb_7 ?_
  refine J_iload (pc := 10) dX0_comes_10 rfl ?_
  refine J_imul (pc := 12) dX0_comes_12 ?_
  refine J_iadd (pc := 13) dX0_comes_13 ?_
  refine J_istoreL (pc := 14) (fun x2 => [some (.ref 1), some (.int p0), some (.int p1), some (.int p2), some (.int y1), some (.int x2), none]) dX0_comes_14 rfl (Nat.le_of_ble_eq_true rfl) (fun _ => rfl) hh (fun x2 hh => ?_)
  refine J_aload_n (pc := 16) dX0_comes_16 rfl ?_
  refine J_getR (pc := 17) (k := 0) flX0_11 so1 fk1_0 dX0_comes_17 ?_
  refine J_iload (pc := 20) dX0_comes_20 rfl ?_
  refine J_iconst (pc := 22) dX0_comes_22 ci_0 ?_
  refine J_iadd (pc := 23) dX0_comes_23 ?_
  refine J_iload_n (pc := 24) dX0_comes_24 rfl ?_
  obtain ⟨h3, hh⟩ := gd_some hh
  refine J_iastL (pc := 25) dX0_comes_25 sa2 h3 hh (fun s4 hh => ?_)
  refine J_aload_n (pc := 26) dX0_comes_26 rfl ?_
  refine J_getR (pc := 27) (k := 0) flX0_11 so1 fk1_0 dX0_comes_27 ?_
  refine J_iload (pc := 30) dX0_comes_30 rfl ?_
  refine J_iconst (pc := 32) dX0_comes_32 ci_1 ?_
  refine J_iadd (pc := 33) dX0_comes_33 ?_
  refine J_iload_n (pc := 34) dX0_comes_34 rfl ?_
  obtain ⟨h5, hh⟩ := gd_some hh
  refine J_iastL (pc := 35) dX0_comes_35 sa2 h5 hh (fun s6 hh => ?_)
  refine J_aload_n (pc := 36) dX0_comes_36 rfl ?_
  refine J_getR (pc := 37) (k := 0) flX0_11 so1 fk1_0 dX0_comes_37 ?_
  refine J_iload (pc := 40) dX0_comes_40 rfl ?_
  refine J_iconst (pc := 42) dX0_comes_42 ci_2 ?_
  refine J_iadd (pc := 43) dX0_comes_43 ?_
  refine J_iload_n (pc := 44) dX0_comes_44 rfl ?_
  obtain ⟨h7, hh⟩ := gd_some hh
  refine J_iastL (pc := 45) dX0_comes_45 sa2 h7 hh (fun s8 hh => ?_)
  refine J_iconst (pc := 46) dX0_comes_46 ci_0 ?_
  refine J_istore (pc := 47) (L' := [some (.ref 1), some (.int p0), some (.int p1), some (.int p2), some (.int y1), some (.int x2), some (.int (0 : Int32))]) dX0_comes_47 rfl (Nat.le_of_ble_eq_true rfl) rfl ?_
  refine J_drop 1 (L' := [some (.ref 1), none, some (.int p1), some (.int p2), some (.int y1), some (.int x2), some (.int (0 : Int32))]) rfl ?_
  refine J_drop 2 (L' := [some (.ref 1), none, none, some (.int p2), some (.int y1), some (.int x2), some (.int (0 : Int32))]) rfl ?_
  refine J_drop 3 (L' := [some (.ref 1), none, none, none, some (.int y1), some (.int x2), some (.int (0 : Int32))]) rfl ?_
  obtain ⟨y13, hy13, hh⟩ := bd_some hh
  refine J_lp (a := ((0 : Int32), s8)) (fun a : (Int32 × Mem) => J X MX0_comes (d + 1) 49 [some (.ref 1), none, none, none, some (.int y1), some (.int x2), some (.int a.1)] [] a.2 w s') (fun t : Mem => J X MX0_comes (d + 1) 74 [some (.ref 1), none, none, none, some (.int y1), none, none] [] t w s') (fun a q h1 h2 => jbX0_comes_49 d a.2 y1 x2 a.1 h1 h2) hy13 ?_
  refine J_aload_n (pc := 74) dX0_comes_74 rfl ?_
  refine J_getR (pc := 75) (k := 0) flX0_11 so1 fk1_0 dX0_comes_75 ?_
  refine J_sipush (pc := 78) dX0_comes_78 cs_138 ?_
  refine J_iload (pc := 81) dX0_comes_81 rfl ?_
  refine J_iconst (pc := 83) dX0_comes_83 ci_1 ?_
  refine J_iadd (pc := 84) dX0_comes_84 ?_
  obtain ⟨h14, hh⟩ := gd_some hh
  refine J_iastL (pc := 85) dX0_comes_85 sa2 h14 hh (fun s15 hh => ?_)
  refine J_iload (pc := 86) dX0_comes_86 rfl ?_
  obtain rfl := Option.some.inj hh
  obtain ⟨rfl, rfl⟩ := hk
  exact J_ret (w := some (.int y1)) ⟨dX0_comes_88, _, rfl, rfl⟩
theorem jX0_comes {X : Scr} (d : Nat) (s : Mem) (p0 : Int32) (p1 : Int32) (p2 : Int32) {r : (Int32 × Mem)} (hh : fX0_comes s p0 p1 p2 = some r) : J X MX0_comes (d + 1) 0 [some (.ref 1), some (.int p0), some (.int p1), some (.int p2), none, none, none] [] s (some (.int r.1)) r.2 := jjX0_comes d s p0 p1 p2 hh ⟨rfl, rfl⟩
theorem dX0_lastGoes_0 : decode cX0_lastGoes 0 = .ok (.aload_n 0, 1) := by decide +kernel
theorem dX0_lastGoes_1 : decode cX0_lastGoes 1 = .ok (.getfield 11, 3) := by decide +kernel
theorem dX0_lastGoes_4 : decode cX0_lastGoes 4 = .ok (.sipush 138, 3) := by decide +kernel
theorem dX0_lastGoes_7 : decode cX0_lastGoes 7 = .ok (.dup2, 1) := by decide +kernel
theorem dX0_lastGoes_8 : decode cX0_lastGoes 8 = .ok (.iaload, 1) := by decide +kernel
theorem dX0_lastGoes_9 : decode cX0_lastGoes 9 = .ok (.iconst 1, 1) := by decide +kernel
theorem dX0_lastGoes_10 : decode cX0_lastGoes 10 = .ok (.isub, 1) := by decide +kernel
theorem dX0_lastGoes_11 : decode cX0_lastGoes 11 = .ok (.iastore, 1) := by decide +kernel
theorem dX0_lastGoes_12 : decode cX0_lastGoes 12 = .ok (.aload_n 0, 1) := by decide +kernel
theorem dX0_lastGoes_13 : decode cX0_lastGoes 13 = .ok (.getfield 11, 3) := by decide +kernel
theorem dX0_lastGoes_16 : decode cX0_lastGoes 16 = .ok (.sipush 138, 3) := by decide +kernel
theorem dX0_lastGoes_19 : decode cX0_lastGoes 19 = .ok (.iaload, 1) := by decide +kernel
theorem dX0_lastGoes_20 : decode cX0_lastGoes 20 = .ok (.ireturn, 1) := by decide +kernel
def fX0_lastGoes (s : Mem)  : Option (Int32 × Mem) :=
  gd (138 : Int32) 171 (gd (138 : Int32) 171 (lt (up2 s 2 (138 : Int32).toNatClampNeg ((s.1 2 (138 : Int32).toNatClampNeg) - (1 : Int32))) (fun s3 => gd (138 : Int32) 171 (some ((s3.1 2 (138 : Int32).toNatClampNeg, s3))))))
set_option maxRecDepth 4000 in
theorem jjX0_lastGoes {X : Scr} (d : Nat) (s : Mem)  {r : (Int32 × Mem)} {w : Option Value} {s' : Mem} (hh : fX0_lastGoes s = some r) (hk : w = some (.int r.1) ∧ r.2 = s') : J X MX0_lastGoes (d + 0) 0 [some (.ref 1)] [] s w s' := by
  unfold fX0_lastGoes at hh
  refine J_aload_n (pc := 0) dX0_lastGoes_0 rfl ?_
  refine J_getR (pc := 1) (k := 0) flX0_11 so1 fk1_0 dX0_lastGoes_1 ?_
  refine J_sipush (pc := 4) dX0_lastGoes_4 cs_138 ?_
  refine J_dup2 (pc := 7) dX0_lastGoes_7 rfl rfl ?_
  obtain ⟨h1, hh⟩ := gd_some hh
  refine J_iald (pc := 8) dX0_lastGoes_8 sa2 h1 ?_
  refine J_iconst (pc := 9) dX0_lastGoes_9 ci_1 ?_
  refine J_isub (pc := 10) dX0_lastGoes_10 ?_
  obtain ⟨h2, hh⟩ := gd_some hh
  refine J_iastL (pc := 11) dX0_lastGoes_11 sa2 h2 hh (fun s3 hh => ?_)
  refine J_aload_n (pc := 12) dX0_lastGoes_12 rfl ?_
  refine J_getR (pc := 13) (k := 0) flX0_11 so1 fk1_0 dX0_lastGoes_13 ?_
  refine J_sipush (pc := 16) dX0_lastGoes_16 cs_138 ?_
  obtain ⟨h4, hh⟩ := gd_some hh
  refine J_iald (pc := 19) dX0_lastGoes_19 sa2 h4 ?_
  obtain rfl := Option.some.inj hh
  obtain ⟨rfl, rfl⟩ := hk
  exact J_ret (w := some (.int (s3.1 2 (138 : Int32).toNatClampNeg))) ⟨dX0_lastGoes_20, _, rfl, rfl⟩
theorem jX0_lastGoes {X : Scr} (d : Nat) (s : Mem)  {r : (Int32 × Mem)} (hh : fX0_lastGoes s = some r) : J X MX0_lastGoes (d + 0) 0 [some (.ref 1)] [] s (some (.int r.1)) r.2 := jjX0_lastGoes d s hh ⟨rfl, rfl⟩
theorem dX0_becomes_0 : decode cX0_becomes 0 = .ok (.aload_n 0, 1) := by decide +kernel
theorem dX0_becomes_1 : decode cX0_becomes 1 = .ok (.iload_n 1, 1) := by decide +kernel
theorem dX0_becomes_2 : decode cX0_becomes 2 = .ok (.iload_n 2, 1) := by decide +kernel
theorem dX0_becomes_3 : decode cX0_becomes 3 = .ok (.invokevirtual 61, 3) := by decide +kernel
theorem dX0_becomes_6 : decode cX0_becomes 6 = .ok (.istore 4, 2) := by decide +kernel
theorem dX0_becomes_8 : decode cX0_becomes 8 = .ok (.aload_n 0, 1) := by decide +kernel
theorem dX0_becomes_9 : decode cX0_becomes 9 = .ok (.getfield 11, 3) := by decide +kernel
theorem dX0_becomes_12 : decode cX0_becomes 12 = .ok (.bipush 96, 2) := by decide +kernel
theorem dX0_becomes_14 : decode cX0_becomes 14 = .ok (.bipush 7, 2) := by decide +kernel
theorem dX0_becomes_16 : decode cX0_becomes 16 = .ok (.iload_n 1, 1) := by decide +kernel
theorem dX0_becomes_17 : decode cX0_becomes 17 = .ok (.imul, 1) := by decide +kernel
theorem dX0_becomes_18 : decode cX0_becomes 18 = .ok (.iadd, 1) := by decide +kernel
theorem dX0_becomes_19 : decode cX0_becomes 19 = .ok (.iload_n 2, 1) := by decide +kernel
theorem dX0_becomes_20 : decode cX0_becomes 20 = .ok (.iadd, 1) := by decide +kernel
theorem dX0_becomes_21 : decode cX0_becomes 21 = .ok (.iload_n 3, 1) := by decide +kernel
theorem dX0_becomes_22 : decode cX0_becomes 22 = .ok (.iastore, 1) := by decide +kernel
theorem dX0_becomes_23 : decode cX0_becomes 23 = .ok (.iconst 0, 1) := by decide +kernel
theorem dX0_becomes_24 : decode cX0_becomes 24 = .ok (.istore 5, 2) := by decide +kernel
theorem dX0_becomes_26 : decode cX0_becomes 26 = .ok (.iload 5, 2) := by decide +kernel
theorem dX0_becomes_28 : decode cX0_becomes 28 = .ok (.iconst 4, 1) := by decide +kernel
theorem dX0_becomes_29 : decode cX0_becomes 29 = .ok (.if_icmp .ge 28, 3) := by decide +kernel
theorem dX0_becomes_32 : decode cX0_becomes 32 = .ok (.aload_n 0, 1) := by decide +kernel
theorem dX0_becomes_33 : decode cX0_becomes 33 = .ok (.iload_n 1, 1) := by decide +kernel
theorem dX0_becomes_34 : decode cX0_becomes 34 = .ok (.iload 5, 2) := by decide +kernel
theorem dX0_becomes_36 : decode cX0_becomes 36 = .ok (.invokevirtual 64, 3) := by decide +kernel
theorem dX0_becomes_39 : decode cX0_becomes 39 = .ok (.ifCond .ne 12, 3) := by decide +kernel
theorem dX0_becomes_42 : decode cX0_becomes 42 = .ok (.aload_n 0, 1) := by decide +kernel
theorem dX0_becomes_43 : decode cX0_becomes 43 = .ok (.iload_n 1, 1) := by decide +kernel
theorem dX0_becomes_44 : decode cX0_becomes 44 = .ok (.iload 5, 2) := by decide +kernel
theorem dX0_becomes_46 : decode cX0_becomes 46 = .ok (.iconst (-1), 1) := by decide +kernel
theorem dX0_becomes_47 : decode cX0_becomes 47 = .ok (.invokevirtual 57, 3) := by decide +kernel
theorem dX0_becomes_50 : decode cX0_becomes 50 = .ok (.pop, 1) := by decide +kernel
theorem dX0_becomes_51 : decode cX0_becomes 51 = .ok (.iinc 5 1, 3) := by decide +kernel
theorem dX0_becomes_54 : decode cX0_becomes 54 = .ok (.goto (-28), 3) := by decide +kernel
theorem dX0_becomes_57 : decode cX0_becomes 57 = .ok (.iload 4, 2) := by decide +kernel
theorem dX0_becomes_59 : decode cX0_becomes 59 = .ok (.ireturn, 1) := by decide +kernel
def bX0_becomes_26 (s : Mem) (v1 : Int32) (v4 : Int32) (v5 : Int32) : Option (Mem ⊕ (Int32 × Mem)) :=
  if (4 : Int32) ≤ v5 then some (Sum.inl s) else (fX0_wishes s v1 v5).bind (fun y4 => if y4 = (0 : Int32) then (fX0_sitsNow s v1 v5 (-1 : Int32)).bind (fun y6 => lt (v5 + (1 : Int32)) (fun x7 => some (Sum.inr (x7, y6.2)))) else lt (v5 + (1 : Int32)) (fun x5 => some (Sum.inr (x5, s))))
set_option maxRecDepth 4000 in
theorem jbX0_becomes_26 {X : Scr} (d : Nat) (s : Mem) (v1 : Int32) (v4 : Int32) (v5 : Int32) {r : (Mem ⊕ (Int32 × Mem))} {w : Option Value} {s' : Mem} (hh : bX0_becomes_26 s v1 v4 v5 = some r) (hk : Sum.elim (fun t : Mem => J X MX0_becomes (d + 1) 57 [none, none, none, none, some (.int v4), none] [] t w s') (fun a : (Int32 × Mem) => J X MX0_becomes (d + 1) 26 [some (.ref 1), some (.int v1), none, none, some (.int v4), some (.int a.1)] [] a.2 w s') r) : J X MX0_becomes (d + 1) 26 [some (.ref 1), some (.int v1), none, none, some (.int v4), some (.int v5)] [] s w s' := by
  unfold bX0_becomes_26 at hh
  refine J_iload (pc := 26) dX0_becomes_26 rfl ?_
  refine J_iconst (pc := 28) dX0_becomes_28 ci_4 ?_
  refine J_icmp_ge (pc := 29) 57 dX0_becomes_29 (by decide) (fun c9 => ?_) (fun c9 => ?_)
  · replace hh := (if_pos c9).symm.trans hh
    refine J_drop 0 (L' := [none, some (.int v1), none, none, some (.int v4), some (.int v5)]) rfl ?_
    refine J_drop 1 (L' := [none, none, none, none, some (.int v4), some (.int v5)]) rfl ?_
    refine J_drop 5 (L' := [none, none, none, none, some (.int v4), none]) rfl ?_
    obtain rfl := Option.some.inj hh
    exact hk
  · replace hh := (if_neg c9).symm.trans hh
    refine J_aload_n (pc := 32) dX0_becomes_32 rfl ?_
    refine J_iload_n (pc := 33) dX0_becomes_33 rfl ?_
    refine J_iload (pc := 34) dX0_becomes_34 rfl ?_
    obtain ⟨y4, hy4, hh⟩ := bd_some hh
    refine J_callVi (pc := 36) (M' := MX0_wishes) (a := 1) (rest := []) (As := [.int v1, .int v5]) (L0 := [some (.ref 1), some (.int v1), some (.int v5)]) okX0_wishes ovX0_wishes mlX0_64 clX0 so1 rfl rfl (Nat.le_of_ble_eq_true rfl) dX0_becomes_36 rfl (Nat.le_of_ble_eq_true rfl) (jX0_wishes (X := X) d s v1 v5 hy4) ?_
    refine J_if_ne (pc := 39) 51 dX0_becomes_39 (by decide) (fun c8 => ?_) (fun c8 => ?_)
    · replace hh := (if_neg c8).symm.trans hh
      refine J_iincL (pc := 51) (v := v5 + (1 : Int32)) (fun x5 => [some (.ref 1), some (.int v1), none, none, some (.int v4), some (.int x5)]) dX0_becomes_51 rfl rfl (Nat.le_of_ble_eq_true rfl) (congrArg _ ci_1) (fun _ => rfl) hh (fun x5 hh => ?_)
      refine J_goto (pc := 54) 26 dX0_becomes_54 (by decide) ?_
      obtain rfl := Option.some.inj hh
      exact hk
    · replace hh := (if_pos c8).symm.trans hh
      refine J_aload_n (pc := 42) dX0_becomes_42 rfl ?_
      refine J_iload_n (pc := 43) dX0_becomes_43 rfl ?_
      refine J_iload (pc := 44) dX0_becomes_44 rfl ?_
      refine J_iconst (pc := 46) dX0_becomes_46 ci_m1 ?_
      obtain ⟨y6, hy6, hh⟩ := bd_some hh
      refine J_callVi (pc := 47) (M' := MX0_sitsNow) (a := 1) (rest := []) (As := [.int v1, .int v5, .int (-1 : Int32)]) (L0 := [some (.ref 1), some (.int v1), some (.int v5), some (.int (-1 : Int32)), none, none]) okX0_sitsNow ovX0_sitsNow mlX0_57 clX0 so1 rfl rfl (Nat.le_of_ble_eq_true rfl) dX0_becomes_47 rfl (Nat.le_of_ble_eq_true rfl) (jX0_sitsNow (X := X) d s v1 v5 (-1 : Int32) hy6) ?_
      refine J_pop (pc := 50) dX0_becomes_50 rfl ?_
      refine J_iincL (pc := 51) (v := v5 + (1 : Int32)) (fun x7 => [some (.ref 1), some (.int v1), none, none, some (.int v4), some (.int x7)]) dX0_becomes_51 rfl rfl (Nat.le_of_ble_eq_true rfl) (congrArg _ ci_1) (fun _ => rfl) hh (fun x7 hh => ?_)
      refine J_goto (pc := 54) 26 dX0_becomes_54 (by decide) ?_
      obtain rfl := Option.some.inj hh
      exact hk
def fX0_becomes (s : Mem) (p0 : Int32) (p1 : Int32) (p2 : Int32) : Option (Int32 × Mem) :=
  (fX0_ofPupil s p0 p1).bind (fun y1 => gd (((96 : Int32) + ((7 : Int32) * p0)) + p1) 171 (lt (up2 s 2 (((96 : Int32) + ((7 : Int32) * p0)) + p1).toNatClampNeg p2) (fun s3 => (lp (fun a => bX0_becomes_26 a.2 p0 y1 a.1) 600 ((0 : Int32), s3)).bind (fun y10 => some ((y1, y10))))))
set_option maxRecDepth 4000 in
theorem jjX0_becomes {X : Scr} (d : Nat) (s : Mem) (p0 : Int32) (p1 : Int32) (p2 : Int32) {r : (Int32 × Mem)} {w : Option Value} {s' : Mem} (hh : fX0_becomes s p0 p1 p2 = some r) (hk : w = some (.int r.1) ∧ r.2 = s') : J X MX0_becomes (d + 1) 0 [some (.ref 1), some (.int p0), some (.int p1), some (.int p2), none, none] [] s w s' := by
  unfold fX0_becomes at hh
  refine J_aload_n (pc := 0) dX0_becomes_0 rfl ?_
  refine J_iload_n (pc := 1) dX0_becomes_1 rfl ?_
  refine J_iload_n (pc := 2) dX0_becomes_2 rfl ?_
  obtain ⟨y1, hy1, hh⟩ := bd_some hh
  refine J_callVi (pc := 3) (M' := MX0_ofPupil) (a := 1) (rest := []) (As := [.int p0, .int p1]) (L0 := [some (.ref 1), some (.int p0), some (.int p1)]) okX0_ofPupil ovX0_ofPupil mlX0_61 clX0 so1 rfl rfl (Nat.le_of_ble_eq_true rfl) dX0_becomes_3 rfl (Nat.le_of_ble_eq_true rfl) (jX0_ofPupil (X := X) d s p0 p1 hy1) ?_
  refine J_istore (pc := 6) (L' := [some (.ref 1), some (.int p0), some (.int p1), some (.int p2), some (.int y1), none]) dX0_becomes_6 rfl (Nat.le_of_ble_eq_true rfl) rfl ?_
  refine J_aload_n (pc := 8) dX0_becomes_8 rfl ?_
  refine J_getR (pc := 9) (k := 0) flX0_11 so1 fk1_0 dX0_becomes_9 ?_
  refine J_bipush (pc := 12) dX0_becomes_12 cb_96 ?_
  refine J_bipush (pc := 14) dX0_becomes_14 cb_7 ?_
  refine J_iload_n (pc := 16) dX0_becomes_16 rfl ?_
  refine J_imul (pc := 17) dX0_becomes_17 ?_
  refine J_iadd (pc := 18) dX0_becomes_18 ?_
  refine J_iload_n (pc := 19) dX0_becomes_19 rfl ?_
  refine J_iadd (pc := 20) dX0_becomes_20 ?_
  refine J_iload_n (pc := 21) dX0_becomes_21 rfl ?_
  obtain ⟨h2, hh⟩ := gd_some hh
  refine J_iastL (pc := 22) dX0_becomes_22 sa2 h2 hh (fun s3 hh => ?_)
  refine J_iconst (pc := 23) dX0_becomes_23 ci_0 ?_
  refine J_istore (pc := 24) (L' := [some (.ref 1), some (.int p0), some (.int p1), some (.int p2), some (.int y1), some (.int (0 : Int32))]) dX0_becomes_24 rfl (Nat.le_of_ble_eq_true rfl) rfl ?_
  refine J_drop 2 (L' := [some (.ref 1), some (.int p0), none, some (.int p2), some (.int y1), some (.int (0 : Int32))]) rfl ?_
  refine J_drop 3 (L' := [some (.ref 1), some (.int p0), none, none, some (.int y1), some (.int (0 : Int32))]) rfl ?_
  obtain ⟨y10, hy10, hh⟩ := bd_some hh
  refine J_lp (a := ((0 : Int32), s3)) (fun a : (Int32 × Mem) => J X MX0_becomes (d + 1) 26 [some (.ref 1), some (.int p0), none, none, some (.int y1), some (.int a.1)] [] a.2 w s') (fun t : Mem => J X MX0_becomes (d + 1) 57 [none, none, none, none, some (.int y1), none] [] t w s') (fun a q h1 h2 => jbX0_becomes_26 d a.2 p0 y1 a.1 h1 h2) hy10 ?_
  refine J_iload (pc := 57) dX0_becomes_57 rfl ?_
  obtain rfl := Option.some.inj hh
  obtain ⟨rfl, rfl⟩ := hk
  exact J_ret (w := some (.int y1)) ⟨dX0_becomes_59, _, rfl, rfl⟩
theorem jX0_becomes {X : Scr} (d : Nat) (s : Mem) (p0 : Int32) (p1 : Int32) (p2 : Int32) {r : (Int32 × Mem)} (hh : fX0_becomes s p0 p1 p2 = some r) : J X MX0_becomes (d + 1) 0 [some (.ref 1), some (.int p0), some (.int p1), some (.int p2), none, none] [] s (some (.int r.1)) r.2 := jjX0_becomes d s p0 p1 p2 hh ⟨rfl, rfl⟩
theorem dX0_lawfulSet_0 : decode cX0_lawfulSet 0 = .ok (.iconst 0, 1) := by decide +kernel
theorem dX0_lawfulSet_1 : decode cX0_lawfulSet 1 = .ok (.istore_n 2, 1) := by decide +kernel
theorem dX0_lawfulSet_2 : decode cX0_lawfulSet 2 = .ok (.iconst 0, 1) := by decide +kernel
theorem dX0_lawfulSet_3 : decode cX0_lawfulSet 3 = .ok (.istore_n 3, 1) := by decide +kernel
theorem dX0_lawfulSet_4 : decode cX0_lawfulSet 4 = .ok (.iload_n 3, 1) := by decide +kernel
theorem dX0_lawfulSet_5 : decode cX0_lawfulSet 5 = .ok (.bipush 8, 2) := by decide +kernel
theorem dX0_lawfulSet_7 : decode cX0_lawfulSet 7 = .ok (.if_icmp .ge 24, 3) := by decide +kernel
theorem dX0_lawfulSet_10 : decode cX0_lawfulSet 10 = .ok (.aload_n 0, 1) := by decide +kernel
theorem dX0_lawfulSet_11 : decode cX0_lawfulSet 11 = .ok (.iload_n 1, 1) := by decide +kernel
theorem dX0_lawfulSet_12 : decode cX0_lawfulSet 12 = .ok (.iload_n 3, 1) := by decide +kernel
theorem dX0_lawfulSet_13 : decode cX0_lawfulSet 13 = .ok (.invokevirtual 54, 3) := by decide +kernel
theorem dX0_lawfulSet_16 : decode cX0_lawfulSet 16 = .ok (.ifCond .lt 9, 3) := by decide +kernel
theorem dX0_lawfulSet_19 : decode cX0_lawfulSet 19 = .ok (.iload_n 2, 1) := by decide +kernel
theorem dX0_lawfulSet_20 : decode cX0_lawfulSet 20 = .ok (.iconst 1, 1) := by decide +kernel
theorem dX0_lawfulSet_21 : decode cX0_lawfulSet 21 = .ok (.iload_n 3, 1) := by decide +kernel
theorem dX0_lawfulSet_22 : decode cX0_lawfulSet 22 = .ok (.ishl, 1) := by decide +kernel
theorem dX0_lawfulSet_23 : decode cX0_lawfulSet 23 = .ok (.ior, 1) := by decide +kernel
theorem dX0_lawfulSet_24 : decode cX0_lawfulSet 24 = .ok (.istore_n 2, 1) := by decide +kernel
theorem dX0_lawfulSet_25 : decode cX0_lawfulSet 25 = .ok (.iinc 3 1, 3) := by decide +kernel
theorem dX0_lawfulSet_28 : decode cX0_lawfulSet 28 = .ok (.goto (-24), 3) := by decide +kernel
theorem dX0_lawfulSet_31 : decode cX0_lawfulSet 31 = .ok (.iload_n 2, 1) := by decide +kernel
theorem dX0_lawfulSet_32 : decode cX0_lawfulSet 32 = .ok (.ireturn, 1) := by decide +kernel
def bX0_lawfulSet_4 (s : Mem) (v1 : Int32) (v2 : Int32) (v3 : Int32) : Option (Int32 ⊕ (Int32 × Int32)) :=
  if (8 : Int32) ≤ v3 then some (Sum.inl v2) else (fX0_hoursOf s v1 v3).bind (fun y1 => if y1 < (0 : Int32) then lt (v3 + (1 : Int32)) (fun x2 => some (Sum.inr (v2, x2))) else lt (v2 ||| ((1 : Int32) <<< (v3 &&& 31))) (fun x3 => lt (v3 + (1 : Int32)) (fun x4 => some (Sum.inr (x3, x4)))))
set_option maxRecDepth 4000 in
theorem jbX0_lawfulSet_4 {X : Scr} (d : Nat) (s : Mem) (v1 : Int32) (v2 : Int32) (v3 : Int32) {r : (Int32 ⊕ (Int32 × Int32))} {w : Option Value} {s' : Mem} (hh : bX0_lawfulSet_4 s v1 v2 v3 = some r) (hk : Sum.elim (fun t : Int32 => J X MX0_lawfulSet (d + 1) 31 [none, none, some (.int t), none] [] s w s') (fun a : (Int32 × Int32) => J X MX0_lawfulSet (d + 1) 4 [some (.ref 1), some (.int v1), some (.int a.1), some (.int a.2)] [] s w s') r) : J X MX0_lawfulSet (d + 1) 4 [some (.ref 1), some (.int v1), some (.int v2), some (.int v3)] [] s w s' := by
  unfold bX0_lawfulSet_4 at hh
  refine J_iload_n (pc := 4) dX0_lawfulSet_4 rfl ?_
  refine J_bipush (pc := 5) dX0_lawfulSet_5 cb_8 ?_
  refine J_icmp_ge (pc := 7) 31 dX0_lawfulSet_7 (by decide) (fun c6 => ?_) (fun c6 => ?_)
  · replace hh := (if_pos c6).symm.trans hh
    refine J_drop 0 (L' := [none, some (.int v1), some (.int v2), some (.int v3)]) rfl ?_
    refine J_drop 1 (L' := [none, none, some (.int v2), some (.int v3)]) rfl ?_
    refine J_drop 3 (L' := [none, none, some (.int v2), none]) rfl ?_
    obtain rfl := Option.some.inj hh
    exact hk
  · replace hh := (if_neg c6).symm.trans hh
    refine J_aload_n (pc := 10) dX0_lawfulSet_10 rfl ?_
    refine J_iload_n (pc := 11) dX0_lawfulSet_11 rfl ?_
    refine J_iload_n (pc := 12) dX0_lawfulSet_12 rfl ?_
    obtain ⟨y1, hy1, hh⟩ := bd_some hh
    refine J_callVi (pc := 13) (M' := MX0_hoursOf) (a := 1) (rest := []) (As := [.int v1, .int v3]) (L0 := [some (.ref 1), some (.int v1), some (.int v3)]) okX0_hoursOf ovX0_hoursOf mlX0_54 clX0 so1 rfl rfl (Nat.le_of_ble_eq_true rfl) dX0_lawfulSet_13 rfl (Nat.le_of_ble_eq_true rfl) (jX0_hoursOf (X := X) d s v1 v3 hy1) ?_
    refine J_if_lt (pc := 16) 25 dX0_lawfulSet_16 (by decide) (fun c5 => ?_) (fun c5 => ?_)
    · replace hh := (if_pos c5).symm.trans hh
      refine J_iincL (pc := 25) (v := v3 + (1 : Int32)) (fun x2 => [some (.ref 1), some (.int v1), some (.int v2), some (.int x2)]) dX0_lawfulSet_25 rfl rfl (Nat.le_of_ble_eq_true rfl) (congrArg _ ci_1) (fun _ => rfl) hh (fun x2 hh => ?_)
      refine J_goto (pc := 28) 4 dX0_lawfulSet_28 (by decide) ?_
      obtain rfl := Option.some.inj hh
      exact hk
    · replace hh := (if_neg c5).symm.trans hh
      refine J_iload_n (pc := 19) dX0_lawfulSet_19 rfl ?_
      refine J_iconst (pc := 20) dX0_lawfulSet_20 ci_1 ?_
      refine J_iload_n (pc := 21) dX0_lawfulSet_21 rfl ?_
      refine J_ishl (pc := 22) dX0_lawfulSet_22 ?_
      refine J_ior (pc := 23) dX0_lawfulSet_23 ?_
      refine J_istoreL_n (pc := 24) (fun x3 => [some (.ref 1), some (.int v1), some (.int x3), some (.int v3)]) dX0_lawfulSet_24 rfl (Nat.le_of_ble_eq_true rfl) (fun _ => rfl) hh (fun x3 hh => ?_)
      refine J_iincL (pc := 25) (v := v3 + (1 : Int32)) (fun x4 => [some (.ref 1), some (.int v1), some (.int x3), some (.int x4)]) dX0_lawfulSet_25 rfl rfl (Nat.le_of_ble_eq_true rfl) (congrArg _ ci_1) (fun _ => rfl) hh (fun x4 hh => ?_)
      refine J_goto (pc := 28) 4 dX0_lawfulSet_28 (by decide) ?_
      obtain rfl := Option.some.inj hh
      exact hk
def fX0_lawfulSet (s : Mem) (p0 : Int32) : Option Int32 :=
  (lp (fun a => bX0_lawfulSet_4 s p0 a.1 a.2) 600 ((0 : Int32), (0 : Int32))).bind (fun y7 => some y7)
set_option maxRecDepth 4000 in
theorem jjX0_lawfulSet {X : Scr} (d : Nat) (s : Mem) (p0 : Int32) {r : Int32} {w : Option Value} {s' : Mem} (hh : fX0_lawfulSet s p0 = some r) (hk : w = some (.int r) ∧ s = s') : J X MX0_lawfulSet (d + 1) 0 [some (.ref 1), some (.int p0), none, none] [] s w s' := by
  unfold fX0_lawfulSet at hh
  refine J_iconst (pc := 0) dX0_lawfulSet_0 ci_0 ?_
  refine J_istore_n (pc := 1) (L' := [some (.ref 1), some (.int p0), some (.int (0 : Int32)), none]) dX0_lawfulSet_1 rfl (Nat.le_of_ble_eq_true rfl) rfl ?_
  refine J_iconst (pc := 2) dX0_lawfulSet_2 ci_0 ?_
  refine J_istore_n (pc := 3) (L' := [some (.ref 1), some (.int p0), some (.int (0 : Int32)), some (.int (0 : Int32))]) dX0_lawfulSet_3 rfl (Nat.le_of_ble_eq_true rfl) rfl ?_
  obtain ⟨y7, hy7, hh⟩ := bd_some hh
  refine J_lp (a := ((0 : Int32), (0 : Int32))) (fun a : (Int32 × Int32) => J X MX0_lawfulSet (d + 1) 4 [some (.ref 1), some (.int p0), some (.int a.1), some (.int a.2)] [] s w s') (fun t : Int32 => J X MX0_lawfulSet (d + 1) 31 [none, none, some (.int t), none] [] s w s') (fun a q h1 h2 => jbX0_lawfulSet_4 d s p0 a.1 a.2 h1 h2) hy7 ?_
  refine J_iload_n (pc := 31) dX0_lawfulSet_31 rfl ?_
  obtain rfl := Option.some.inj hh
  obtain ⟨rfl, rfl⟩ := hk
  exact J_ret (w := some (.int y7)) ⟨dX0_lawfulSet_32, _, rfl, rfl⟩
theorem jX0_lawfulSet {X : Scr} (d : Nat) (s : Mem) (p0 : Int32) {r : Int32} (hh : fX0_lawfulSet s p0 = some r) : J X MX0_lawfulSet (d + 1) 0 [some (.ref 1), some (.int p0), none, none] [] s (some (.int r)) s := jjX0_lawfulSet d s p0 hh ⟨rfl, rfl⟩
theorem dX0_isPaired_0 : decode cX0_isPaired 0 = .ok (.aload_n 0, 1) := by decide +kernel
theorem dX0_isPaired_1 : decode cX0_isPaired 1 = .ok (.iload_n 1, 1) := by decide +kernel
theorem dX0_isPaired_2 : decode cX0_isPaired 2 = .ok (.iload_n 2, 1) := by decide +kernel
theorem dX0_isPaired_3 : decode cX0_isPaired 3 = .ok (.iconst 0, 1) := by decide +kernel
theorem dX0_isPaired_4 : decode cX0_isPaired 4 = .ok (.invokevirtual 43, 3) := by decide +kernel
theorem dX0_isPaired_7 : decode cX0_isPaired 7 = .ok (.ifCond .eq 17, 3) := by decide +kernel
theorem dX0_isPaired_10 : decode cX0_isPaired 10 = .ok (.aload_n 0, 1) := by decide +kernel
theorem dX0_isPaired_11 : decode cX0_isPaired 11 = .ok (.iload_n 1, 1) := by decide +kernel
theorem dX0_isPaired_12 : decode cX0_isPaired 12 = .ok (.iload_n 2, 1) := by decide +kernel
theorem dX0_isPaired_13 : decode cX0_isPaired 13 = .ok (.iconst 1, 1) := by decide +kernel
theorem dX0_isPaired_14 : decode cX0_isPaired 14 = .ok (.invokevirtual 43, 3) := by decide +kernel
theorem dX0_isPaired_17 : decode cX0_isPaired 17 = .ok (.ifCond .eq 7, 3) := by decide +kernel
theorem dX0_isPaired_20 : decode cX0_isPaired 20 = .ok (.iconst 1, 1) := by decide +kernel
theorem dX0_isPaired_21 : decode cX0_isPaired 21 = .ok (.goto 4, 3) := by decide +kernel
theorem dX0_isPaired_24 : decode cX0_isPaired 24 = .ok (.iconst 0, 1) := by decide +kernel
theorem dX0_isPaired_25 : decode cX0_isPaired 25 = .ok (.ireturn, 1) := by decide +kernel
def fX0_isPaired (s : Mem) (p0 : Int32) (p1 : Int32) : Option Int32 :=
  (fX0_isOpen s p0 p1 (0 : Int32)).bind (fun y1 => if y1 = (0 : Int32) then some (0 : Int32) else (fX0_isOpen s p0 p1 (1 : Int32)).bind (fun y2 => if y2 = (0 : Int32) then some (0 : Int32) else some (1 : Int32)))
set_option maxRecDepth 4000 in
theorem jjX0_isPaired {X : Scr} (d : Nat) (s : Mem) (p0 : Int32) (p1 : Int32) {r : Int32} {w : Option Value} {s' : Mem} (hh : fX0_isPaired s p0 p1 = some r) (hk : w = some (.int r) ∧ s = s') : J X MX0_isPaired (d + 1) 0 [some (.ref 1), some (.int p0), some (.int p1)] [] s w s' := by
  unfold fX0_isPaired at hh
  refine J_aload_n (pc := 0) dX0_isPaired_0 rfl ?_
  refine J_iload_n (pc := 1) dX0_isPaired_1 rfl ?_
  refine J_iload_n (pc := 2) dX0_isPaired_2 rfl ?_
  refine J_iconst (pc := 3) dX0_isPaired_3 ci_0 ?_
  obtain ⟨y1, hy1, hh⟩ := bd_some hh
  refine J_callVi (pc := 4) (M' := MX0_isOpen) (a := 1) (rest := []) (As := [.int p0, .int p1, .int (0 : Int32)]) (L0 := [some (.ref 1), some (.int p0), some (.int p1), some (.int (0 : Int32))]) okX0_isOpen ovX0_isOpen mlX0_43 clX0 so1 rfl rfl (Nat.le_of_ble_eq_true rfl) dX0_isPaired_4 rfl (Nat.le_of_ble_eq_true rfl) (jX0_isOpen (X := X) d s p0 p1 (0 : Int32) hy1) ?_
  refine J_if_eq (pc := 7) 24 dX0_isPaired_7 (by decide) (fun c4 => ?_) (fun c4 => ?_)
  · replace hh := (if_pos c4).symm.trans hh
    refine J_iconst (pc := 24) dX0_isPaired_24 ci_0 ?_
    obtain rfl := Option.some.inj hh
    obtain ⟨rfl, rfl⟩ := hk
    exact J_ret (w := some (.int (0 : Int32))) ⟨dX0_isPaired_25, _, rfl, rfl⟩
  · replace hh := (if_neg c4).symm.trans hh
    refine J_aload_n (pc := 10) dX0_isPaired_10 rfl ?_
    refine J_iload_n (pc := 11) dX0_isPaired_11 rfl ?_
    refine J_iload_n (pc := 12) dX0_isPaired_12 rfl ?_
    refine J_iconst (pc := 13) dX0_isPaired_13 ci_1 ?_
    obtain ⟨y2, hy2, hh⟩ := bd_some hh
    refine J_callVi (pc := 14) (M' := MX0_isOpen) (a := 1) (rest := []) (As := [.int p0, .int p1, .int (1 : Int32)]) (L0 := [some (.ref 1), some (.int p0), some (.int p1), some (.int (1 : Int32))]) okX0_isOpen ovX0_isOpen mlX0_43 clX0 so1 rfl rfl (Nat.le_of_ble_eq_true rfl) dX0_isPaired_14 rfl (Nat.le_of_ble_eq_true rfl) (jX0_isOpen (X := X) d s p0 p1 (1 : Int32) hy2) ?_
    refine J_if_eq (pc := 17) 24 dX0_isPaired_17 (by decide) (fun c3 => ?_) (fun c3 => ?_)
    · replace hh := (if_pos c3).symm.trans hh
      refine J_iconst (pc := 24) dX0_isPaired_24 ci_0 ?_
      obtain rfl := Option.some.inj hh
      obtain ⟨rfl, rfl⟩ := hk
      exact J_ret (w := some (.int (0 : Int32))) ⟨dX0_isPaired_25, _, rfl, rfl⟩
    · replace hh := (if_neg c3).symm.trans hh
      refine J_iconst (pc := 20) dX0_isPaired_20 ci_1 ?_
      refine J_goto (pc := 21) 25 dX0_isPaired_21 (by decide) ?_
      obtain rfl := Option.some.inj hh
      obtain ⟨rfl, rfl⟩ := hk
      exact J_ret (w := some (.int (1 : Int32))) ⟨dX0_isPaired_25, _, rfl, rfl⟩
theorem jX0_isPaired {X : Scr} (d : Nat) (s : Mem) (p0 : Int32) (p1 : Int32) {r : Int32} (hh : fX0_isPaired s p0 p1 = some r) : J X MX0_isPaired (d + 1) 0 [some (.ref 1), some (.int p0), some (.int p1)] [] s (some (.int r)) s := jjX0_isPaired d s p0 p1 hh ⟨rfl, rfl⟩
theorem dX0_unevenness_0 : decode cX0_unevenness 0 = .ok (.iconst 0, 1) := by decide +kernel
theorem dX0_unevenness_1 : decode cX0_unevenness 1 = .ok (.istore_n 2, 1) := by decide +kernel
theorem dX0_unevenness_2 : decode cX0_unevenness 2 = .ok (.iconst 0, 1) := by decide +kernel
theorem dX0_unevenness_3 : decode cX0_unevenness 3 = .ok (.istore_n 3, 1) := by decide +kernel
theorem dX0_unevenness_4 : decode cX0_unevenness 4 = .ok (.iload_n 3, 1) := by decide +kernel
theorem dX0_unevenness_5 : decode cX0_unevenness 5 = .ok (.iconst 3, 1) := by decide +kernel
theorem dX0_unevenness_6 : decode cX0_unevenness 6 = .ok (.if_icmp .ge 41, 3) := by decide +kernel
theorem dX0_unevenness_9 : decode cX0_unevenness 9 = .ok (.aload_n 0, 1) := by decide +kernel
theorem dX0_unevenness_10 : decode cX0_unevenness 10 = .ok (.iload_n 1, 1) := by decide +kernel
theorem dX0_unevenness_11 : decode cX0_unevenness 11 = .ok (.iload_n 3, 1) := by decide +kernel
theorem dX0_unevenness_12 : decode cX0_unevenness 12 = .ok (.invokevirtual 81, 3) := by decide +kernel
theorem dX0_unevenness_15 : decode cX0_unevenness 15 = .ok (.ifCond .eq 26, 3) := by decide +kernel
theorem dX0_unevenness_18 : decode cX0_unevenness 18 = .ok (.iload_n 2, 1) := by decide +kernel
theorem dX0_unevenness_19 : decode cX0_unevenness 19 = .ok (.aload_n 0, 1) := by decide +kernel
theorem dX0_unevenness_20 : decode cX0_unevenness 20 = .ok (.iload_n 1, 1) := by decide +kernel
theorem dX0_unevenness_21 : decode cX0_unevenness 21 = .ok (.iload_n 3, 1) := by decide +kernel
theorem dX0_unevenness_22 : decode cX0_unevenness 22 = .ok (.iconst 0, 1) := by decide +kernel
theorem dX0_unevenness_23 : decode cX0_unevenness 23 = .ok (.iconst (-1), 1) := by decide +kernel
theorem dX0_unevenness_24 : decode cX0_unevenness 24 = .ok (.invokevirtual 47, 3) := by decide +kernel
theorem dX0_unevenness_27 : decode cX0_unevenness 27 = .ok (.aload_n 0, 1) := by decide +kernel
theorem dX0_unevenness_28 : decode cX0_unevenness 28 = .ok (.iload_n 1, 1) := by decide +kernel
theorem dX0_unevenness_29 : decode cX0_unevenness 29 = .ok (.iload_n 3, 1) := by decide +kernel
theorem dX0_unevenness_30 : decode cX0_unevenness 30 = .ok (.iconst 1, 1) := by decide +kernel
theorem dX0_unevenness_31 : decode cX0_unevenness 31 = .ok (.iconst (-1), 1) := by decide +kernel
theorem dX0_unevenness_32 : decode cX0_unevenness 32 = .ok (.invokevirtual 47, 3) := by decide +kernel
theorem dX0_unevenness_35 : decode cX0_unevenness 35 = .ok (.isub, 1) := by decide +kernel
theorem dX0_unevenness_36 : decode cX0_unevenness 36 = .ok (.invokestatic 84, 3) := by decide +kernel
theorem dX0_unevenness_39 : decode cX0_unevenness 39 = .ok (.iadd, 1) := by decide +kernel
theorem dX0_unevenness_40 : decode cX0_unevenness 40 = .ok (.istore_n 2, 1) := by decide +kernel
theorem dX0_unevenness_41 : decode cX0_unevenness 41 = .ok (.iinc 3 1, 3) := by decide +kernel
theorem dX0_unevenness_44 : decode cX0_unevenness 44 = .ok (.goto (-40), 3) := by decide +kernel
theorem dX0_unevenness_47 : decode cX0_unevenness 47 = .ok (.iload_n 2, 1) := by decide +kernel
theorem dX0_unevenness_48 : decode cX0_unevenness 48 = .ok (.ireturn, 1) := by decide +kernel
def bX0_unevenness_4 (s : Mem) (v1 : Int32) (v2 : Int32) (v3 : Int32) : Option (Int32 ⊕ (Int32 × Int32)) :=
  if (3 : Int32) ≤ v3 then some (Sum.inl v2) else (fX0_isPaired s v1 v3).bind (fun y1 => if y1 = (0 : Int32) then lt (v3 + (1 : Int32)) (fun x2 => some (Sum.inr (v2, x2))) else (fX0_taken s v1 v3 (0 : Int32) (-1 : Int32)).bind (fun y3 => (fX0_taken s v1 v3 (1 : Int32) (-1 : Int32)).bind (fun y4 => lt (v2 + (abI (y3 - y4))) (fun x5 => lt (v3 + (1 : Int32)) (fun x6 => some (Sum.inr (x5, x6)))))))
set_option maxRecDepth 4000 in
theorem jbX0_unevenness_4 {X : Scr} (d : Nat) (s : Mem) (v1 : Int32) (v2 : Int32) (v3 : Int32) {r : (Int32 ⊕ (Int32 × Int32))} {w : Option Value} {s' : Mem} (hh : bX0_unevenness_4 s v1 v2 v3 = some r) (hk : Sum.elim (fun t : Int32 => J X MX0_unevenness (d + 2) 47 [none, none, some (.int t), none] [] s w s') (fun a : (Int32 × Int32) => J X MX0_unevenness (d + 2) 4 [some (.ref 1), some (.int v1), some (.int a.1), some (.int a.2)] [] s w s') r) : J X MX0_unevenness (d + 2) 4 [some (.ref 1), some (.int v1), some (.int v2), some (.int v3)] [] s w s' := by
  unfold bX0_unevenness_4 at hh
  refine J_iload_n (pc := 4) dX0_unevenness_4 rfl ?_
  refine J_iconst (pc := 5) dX0_unevenness_5 ci_3 ?_
  refine J_icmp_ge (pc := 6) 47 dX0_unevenness_6 (by decide) (fun c8 => ?_) (fun c8 => ?_)
  · replace hh := (if_pos c8).symm.trans hh
    refine J_drop 0 (L' := [none, some (.int v1), some (.int v2), some (.int v3)]) rfl ?_
    refine J_drop 1 (L' := [none, none, some (.int v2), some (.int v3)]) rfl ?_
    refine J_drop 3 (L' := [none, none, some (.int v2), none]) rfl ?_
    obtain rfl := Option.some.inj hh
    exact hk
  · replace hh := (if_neg c8).symm.trans hh
    refine J_aload_n (pc := 9) dX0_unevenness_9 rfl ?_
    refine J_iload_n (pc := 10) dX0_unevenness_10 rfl ?_
    refine J_iload_n (pc := 11) dX0_unevenness_11 rfl ?_
    obtain ⟨y1, hy1, hh⟩ := bd_some hh
    refine J_callVi (pc := 12) (M' := MX0_isPaired) (a := 1) (rest := []) (As := [.int v1, .int v3]) (L0 := [some (.ref 1), some (.int v1), some (.int v3)]) okX0_isPaired ovX0_isPaired mlX0_81 clX0 so1 rfl rfl (Nat.le_of_ble_eq_true rfl) dX0_unevenness_12 rfl (Nat.le_of_ble_eq_true rfl) (jX0_isPaired (X := X) d s v1 v3 hy1) ?_
    refine J_if_eq (pc := 15) 41 dX0_unevenness_15 (by decide) (fun c7 => ?_) (fun c7 => ?_)
    · replace hh := (if_pos c7).symm.trans hh
      refine J_iincL (pc := 41) (v := v3 + (1 : Int32)) (fun x2 => [some (.ref 1), some (.int v1), some (.int v2), some (.int x2)]) dX0_unevenness_41 rfl rfl (Nat.le_of_ble_eq_true rfl) (congrArg _ ci_1) (fun _ => rfl) hh (fun x2 hh => ?_)
      refine J_goto (pc := 44) 4 dX0_unevenness_44 (by decide) ?_
      obtain rfl := Option.some.inj hh
      exact hk
    · replace hh := (if_neg c7).symm.trans hh
      refine J_iload_n (pc := 18) dX0_unevenness_18 rfl ?_
      refine J_aload_n (pc := 19) dX0_unevenness_19 rfl ?_
      refine J_iload_n (pc := 20) dX0_unevenness_20 rfl ?_
      refine J_iload_n (pc := 21) dX0_unevenness_21 rfl ?_
      refine J_iconst (pc := 22) dX0_unevenness_22 ci_0 ?_
      refine J_iconst (pc := 23) dX0_unevenness_23 ci_m1 ?_
      obtain ⟨y3, hy3, hh⟩ := bd_some hh
      refine J_callVi (pc := 24) (M' := MX0_taken) (a := 1) (rest := [.int v2]) (As := [.int v1, .int v3, .int (0 : Int32), .int (-1 : Int32)]) (L0 := [some (.ref 1), some (.int v1), some (.int v3), some (.int (0 : Int32)), some (.int (-1 : Int32)), none, none, none]) okX0_taken ovX0_taken mlX0_47 clX0 so1 rfl rfl (Nat.le_of_ble_eq_true rfl) dX0_unevenness_24 rfl (Nat.le_of_ble_eq_true rfl) (jX0_taken (X := X) (d + 1) s v1 v3 (0 : Int32) (-1 : Int32) hy3) ?_
      refine J_aload_n (pc := 27) dX0_unevenness_27 rfl ?_
      refine J_iload_n (pc := 28) dX0_unevenness_28 rfl ?_
      refine J_iload_n (pc := 29) dX0_unevenness_29 rfl ?_
      refine J_iconst (pc := 30) dX0_unevenness_30 ci_1 ?_
      refine J_iconst (pc := 31) dX0_unevenness_31 ci_m1 ?_
      obtain ⟨y4, hy4, hh⟩ := bd_some hh
      refine J_callVi (pc := 32) (M' := MX0_taken) (a := 1) (rest := [.int y3, .int v2]) (As := [.int v1, .int v3, .int (1 : Int32), .int (-1 : Int32)]) (L0 := [some (.ref 1), some (.int v1), some (.int v3), some (.int (1 : Int32)), some (.int (-1 : Int32)), none, none, none]) okX0_taken ovX0_taken mlX0_47 clX0 so1 rfl rfl (Nat.le_of_ble_eq_true rfl) dX0_unevenness_32 rfl (Nat.le_of_ble_eq_true rfl) (jX0_taken (X := X) (d + 1) s v1 v3 (1 : Int32) (-1 : Int32) hy4) ?_
      refine J_isub (pc := 35) dX0_unevenness_35 ?_
      refine J_mabs (pc := 36) mtX0_84 (Nat.le_of_ble_eq_true rfl) dX0_unevenness_36 ?_
      refine J_iadd (pc := 39) dX0_unevenness_39 ?_
      refine J_istoreL_n (pc := 40) (fun x5 => [some (.ref 1), some (.int v1), some (.int x5), some (.int v3)]) dX0_unevenness_40 rfl (Nat.le_of_ble_eq_true rfl) (fun _ => rfl) hh (fun x5 hh => ?_)
      refine J_iincL (pc := 41) (v := v3 + (1 : Int32)) (fun x6 => [some (.ref 1), some (.int v1), some (.int x5), some (.int x6)]) dX0_unevenness_41 rfl rfl (Nat.le_of_ble_eq_true rfl) (congrArg _ ci_1) (fun _ => rfl) hh (fun x6 hh => ?_)
      refine J_goto (pc := 44) 4 dX0_unevenness_44 (by decide) ?_
      obtain rfl := Option.some.inj hh
      exact hk
def fX0_unevenness (s : Mem) (p0 : Int32) : Option Int32 :=
  (lp (fun a => bX0_unevenness_4 s p0 a.1 a.2) 600 ((0 : Int32), (0 : Int32))).bind (fun y9 => some y9)
set_option maxRecDepth 4000 in
theorem jjX0_unevenness {X : Scr} (d : Nat) (s : Mem) (p0 : Int32) {r : Int32} {w : Option Value} {s' : Mem} (hh : fX0_unevenness s p0 = some r) (hk : w = some (.int r) ∧ s = s') : J X MX0_unevenness (d + 2) 0 [some (.ref 1), some (.int p0), none, none] [] s w s' := by
  unfold fX0_unevenness at hh
  refine J_iconst (pc := 0) dX0_unevenness_0 ci_0 ?_
  refine J_istore_n (pc := 1) (L' := [some (.ref 1), some (.int p0), some (.int (0 : Int32)), none]) dX0_unevenness_1 rfl (Nat.le_of_ble_eq_true rfl) rfl ?_
  refine J_iconst (pc := 2) dX0_unevenness_2 ci_0 ?_
  refine J_istore_n (pc := 3) (L' := [some (.ref 1), some (.int p0), some (.int (0 : Int32)), some (.int (0 : Int32))]) dX0_unevenness_3 rfl (Nat.le_of_ble_eq_true rfl) rfl ?_
  obtain ⟨y9, hy9, hh⟩ := bd_some hh
  refine J_lp (a := ((0 : Int32), (0 : Int32))) (fun a : (Int32 × Int32) => J X MX0_unevenness (d + 2) 4 [some (.ref 1), some (.int p0), some (.int a.1), some (.int a.2)] [] s w s') (fun t : Int32 => J X MX0_unevenness (d + 2) 47 [none, none, some (.int t), none] [] s w s') (fun a q h1 h2 => jbX0_unevenness_4 d s p0 a.1 a.2 h1 h2) hy9 ?_
  refine J_iload_n (pc := 47) dX0_unevenness_47 rfl ?_
  obtain rfl := Option.some.inj hh
  obtain ⟨rfl, rfl⟩ := hk
  exact J_ret (w := some (.int y9)) ⟨dX0_unevenness_48, _, rfl, rfl⟩
theorem jX0_unevenness {X : Scr} (d : Nat) (s : Mem) (p0 : Int32) {r : Int32} (hh : fX0_unevenness s p0 = some r) : J X MX0_unevenness (d + 2) 0 [some (.ref 1), some (.int p0), none, none] [] s (some (.int r)) s := jjX0_unevenness d s p0 hh ⟨rfl, rfl⟩
theorem dX0_openSections_0 : decode cX0_openSections 0 = .ok (.iconst 0, 1) := by decide +kernel
theorem dX0_openSections_1 : decode cX0_openSections 1 = .ok (.istore_n 1, 1) := by decide +kernel
theorem dX0_openSections_2 : decode cX0_openSections 2 = .ok (.iconst 0, 1) := by decide +kernel
theorem dX0_openSections_3 : decode cX0_openSections 3 = .ok (.istore_n 2, 1) := by decide +kernel
theorem dX0_openSections_4 : decode cX0_openSections 4 = .ok (.iload_n 2, 1) := by decide +kernel
theorem dX0_openSections_5 : decode cX0_openSections 5 = .ok (.iconst 4, 1) := by decide +kernel
theorem dX0_openSections_6 : decode cX0_openSections 6 = .ok (.if_icmp .ge 38, 3) := by decide +kernel
theorem dX0_openSections_9 : decode cX0_openSections 9 = .ok (.iconst 0, 1) := by decide +kernel
theorem dX0_openSections_10 : decode cX0_openSections 10 = .ok (.istore_n 3, 1) := by decide +kernel
theorem dX0_openSections_11 : decode cX0_openSections 11 = .ok (.iload_n 3, 1) := by decide +kernel
theorem dX0_openSections_12 : decode cX0_openSections 12 = .ok (.bipush 6, 2) := by decide +kernel
theorem dX0_openSections_14 : decode cX0_openSections 14 = .ok (.if_icmp .ge 24, 3) := by decide +kernel
theorem dX0_openSections_17 : decode cX0_openSections 17 = .ok (.iload_n 1, 1) := by decide +kernel
theorem dX0_openSections_18 : decode cX0_openSections 18 = .ok (.aload_n 0, 1) := by decide +kernel
theorem dX0_openSections_19 : decode cX0_openSections 19 = .ok (.iload_n 2, 1) := by decide +kernel
theorem dX0_openSections_20 : decode cX0_openSections 20 = .ok (.iload_n 3, 1) := by decide +kernel
theorem dX0_openSections_21 : decode cX0_openSections 21 = .ok (.iconst 1, 1) := by decide +kernel
theorem dX0_openSections_22 : decode cX0_openSections 22 = .ok (.ishr, 1) := by decide +kernel
theorem dX0_openSections_23 : decode cX0_openSections 23 = .ok (.iload_n 3, 1) := by decide +kernel
theorem dX0_openSections_24 : decode cX0_openSections 24 = .ok (.iconst 1, 1) := by decide +kernel
theorem dX0_openSections_25 : decode cX0_openSections 25 = .ok (.iand, 1) := by decide +kernel
theorem dX0_openSections_26 : decode cX0_openSections 26 = .ok (.iconst 0, 1) := by decide +kernel
theorem dX0_openSections_27 : decode cX0_openSections 27 = .ok (.invokevirtual 51, 3) := by decide +kernel
theorem dX0_openSections_30 : decode cX0_openSections 30 = .ok (.iadd, 1) := by decide +kernel
theorem dX0_openSections_31 : decode cX0_openSections 31 = .ok (.istore_n 1, 1) := by decide +kernel
theorem dX0_openSections_32 : decode cX0_openSections 32 = .ok (.iinc 3 1, 3) := by decide +kernel
theorem dX0_openSections_35 : decode cX0_openSections 35 = .ok (.goto (-24), 3) := by decide +kernel
theorem dX0_openSections_38 : decode cX0_openSections 38 = .ok (.iinc 2 1, 3) := by decide +kernel
theorem dX0_openSections_41 : decode cX0_openSections 41 = .ok (.goto (-37), 3) := by decide +kernel
theorem dX0_openSections_44 : decode cX0_openSections 44 = .ok (.iload_n 1, 1) := by decide +kernel
theorem dX0_openSections_45 : decode cX0_openSections 45 = .ok (.ireturn, 1) := by decide +kernel
def bX0_openSections_11 (s : Mem) (v2 : Int32) (v1 : Int32) (v3 : Int32) : Option (Int32 ⊕ (Int32 × Int32)) :=
  if (6 : Int32) ≤ v3 then some (Sum.inl v1) else (fX0_ofSection s v2 (v3 >>> ((1 : Int32) &&& 31)) (v3 &&& (1 : Int32)) (0 : Int32)).bind (fun y1 => lt (v1 + y1) (fun x2 => lt (v3 + (1 : Int32)) (fun x3 => some (Sum.inr (x2, x3)))))
set_option maxRecDepth 4000 in
theorem jbX0_openSections_11 {X : Scr} (d : Nat) (s : Mem) (v2 : Int32) (v1 : Int32) (v3 : Int32) {r : (Int32 ⊕ (Int32 × Int32))} {w : Option Value} {s' : Mem} (hh : bX0_openSections_11 s v2 v1 v3 = some r) (hk : Sum.elim (fun t : Int32 => J X MX0_openSections (d + 1) 38 [some (.ref 1), some (.int t), some (.int v2), none] [] s w s') (fun a : (Int32 × Int32) => J X MX0_openSections (d + 1) 11 [some (.ref 1), some (.int a.1), some (.int v2), some (.int a.2)] [] s w s') r) : J X MX0_openSections (d + 1) 11 [some (.ref 1), some (.int v1), some (.int v2), some (.int v3)] [] s w s' := by
  unfold bX0_openSections_11 at hh
  refine J_iload_n (pc := 11) dX0_openSections_11 rfl ?_
  refine J_bipush (pc := 12) dX0_openSections_12 cb_6 ?_
  refine J_icmp_ge (pc := 14) 38 dX0_openSections_14 (by decide) (fun c4 => ?_) (fun c4 => ?_)
  · replace hh := (if_pos c4).symm.trans hh
    refine J_drop 3 (L' := [some (.ref 1), some (.int v1), some (.int v2), none]) rfl ?_
    obtain rfl := Option.some.inj hh
    exact hk
  · replace hh := (if_neg c4).symm.trans hh
    refine J_iload_n (pc := 17) dX0_openSections_17 rfl ?_
    refine J_aload_n (pc := 18) dX0_openSections_18 rfl ?_
    refine J_iload_n (pc := 19) dX0_openSections_19 rfl ?_
    refine J_iload_n (pc := 20) dX0_openSections_20 rfl ?_
    refine J_iconst (pc := 21) dX0_openSections_21 ci_1 ?_
    refine J_ishr (pc := 22) dX0_openSections_22 ?_
    refine J_iload_n (pc := 23) dX0_openSections_23 rfl ?_
    refine J_iconst (pc := 24) dX0_openSections_24 ci_1 ?_
    refine J_iand (pc := 25) dX0_openSections_25 ?_
    refine J_iconst (pc := 26) dX0_openSections_26 ci_0 ?_
    obtain ⟨y1, hy1, hh⟩ := bd_some hh
    refine J_callVi (pc := 27) (M' := MX0_ofSection) (a := 1) (rest := [.int v1]) (As := [.int v2, .int (v3 >>> ((1 : Int32) &&& 31)), .int (v3 &&& (1 : Int32)), .int (0 : Int32)]) (L0 := [some (.ref 1), some (.int v2), some (.int (v3 >>> ((1 : Int32) &&& 31))), some (.int (v3 &&& (1 : Int32))), some (.int (0 : Int32))]) okX0_ofSection ovX0_ofSection mlX0_51 clX0 so1 rfl rfl (Nat.le_of_ble_eq_true rfl) dX0_openSections_27 rfl (Nat.le_of_ble_eq_true rfl) (jX0_ofSection (X := X) d s v2 (v3 >>> ((1 : Int32) &&& 31)) (v3 &&& (1 : Int32)) (0 : Int32) hy1) ?_
    refine J_iadd (pc := 30) dX0_openSections_30 ?_
    refine J_istoreL_n (pc := 31) (fun x2 => [some (.ref 1), some (.int x2), some (.int v2), some (.int v3)]) dX0_openSections_31 rfl (Nat.le_of_ble_eq_true rfl) (fun _ => rfl) hh (fun x2 hh => ?_)
    refine J_iincL (pc := 32) (v := v3 + (1 : Int32)) (fun x3 => [some (.ref 1), some (.int x2), some (.int v2), some (.int x3)]) dX0_openSections_32 rfl rfl (Nat.le_of_ble_eq_true rfl) (congrArg _ ci_1) (fun _ => rfl) hh (fun x3 hh => ?_)
    refine J_goto (pc := 35) 11 dX0_openSections_35 (by decide) ?_
    obtain rfl := Option.some.inj hh
    exact hk
def bX0_openSections_4 (s : Mem) (v1 : Int32) (v2 : Int32) : Option (Int32 ⊕ (Int32 × Int32)) :=
  if (4 : Int32) ≤ v2 then some (Sum.inl v1) else (lp (fun a => bX0_openSections_11 s v2 a.1 a.2) 600 (v1, (0 : Int32))).bind (fun y5 => lt (v2 + (1 : Int32)) (fun x6 => some (Sum.inr (y5, x6))))
set_option maxRecDepth 4000 in
theorem jbX0_openSections_4 {X : Scr} (d : Nat) (s : Mem) (v1 : Int32) (v2 : Int32) {r : (Int32 ⊕ (Int32 × Int32))} {w : Option Value} {s' : Mem} (hh : bX0_openSections_4 s v1 v2 = some r) (hk : Sum.elim (fun t : Int32 => J X MX0_openSections (d + 1) 44 [none, some (.int t), none, none] [] s w s') (fun a : (Int32 × Int32) => J X MX0_openSections (d + 1) 4 [some (.ref 1), some (.int a.1), some (.int a.2), none] [] s w s') r) : J X MX0_openSections (d + 1) 4 [some (.ref 1), some (.int v1), some (.int v2), none] [] s w s' := by
  unfold bX0_openSections_4 at hh
  refine J_iload_n (pc := 4) dX0_openSections_4 rfl ?_
  refine J_iconst (pc := 5) dX0_openSections_5 ci_4 ?_
  refine J_icmp_ge (pc := 6) 44 dX0_openSections_6 (by decide) (fun c7 => ?_) (fun c7 => ?_)
  · replace hh := (if_pos c7).symm.trans hh
    refine J_drop 0 (L' := [none, some (.int v1), some (.int v2), none]) rfl ?_
    refine J_drop 2 (L' := [none, some (.int v1), none, none]) rfl ?_
    obtain rfl := Option.some.inj hh
    exact hk
  · replace hh := (if_neg c7).symm.trans hh
    refine J_iconst (pc := 9) dX0_openSections_9 ci_0 ?_
    refine J_istore_n (pc := 10) (L' := [some (.ref 1), some (.int v1), some (.int v2), some (.int (0 : Int32))]) dX0_openSections_10 rfl (Nat.le_of_ble_eq_true rfl) rfl ?_
    obtain ⟨y5, hy5, hh⟩ := bd_some hh
    refine J_lp (a := (v1, (0 : Int32))) (fun a : (Int32 × Int32) => J X MX0_openSections (d + 1) 11 [some (.ref 1), some (.int a.1), some (.int v2), some (.int a.2)] [] s w s') (fun t : Int32 => J X MX0_openSections (d + 1) 38 [some (.ref 1), some (.int t), some (.int v2), none] [] s w s') (fun a q h1 h2 => jbX0_openSections_11 d s v2 a.1 a.2 h1 h2) hy5 ?_
    refine J_iincL (pc := 38) (v := v2 + (1 : Int32)) (fun x6 => [some (.ref 1), some (.int y5), some (.int x6), none]) dX0_openSections_38 rfl rfl (Nat.le_of_ble_eq_true rfl) (congrArg _ ci_1) (fun _ => rfl) hh (fun x6 hh => ?_)
    refine J_goto (pc := 41) 4 dX0_openSections_41 (by decide) ?_
    obtain rfl := Option.some.inj hh
    exact hk
def fX0_openSections (s : Mem)  : Option Int32 :=
  (lp (fun a => bX0_openSections_4 s a.1 a.2) 600 ((0 : Int32), (0 : Int32))).bind (fun y8 => some y8)
set_option maxRecDepth 4000 in
theorem jjX0_openSections {X : Scr} (d : Nat) (s : Mem)  {r : Int32} {w : Option Value} {s' : Mem} (hh : fX0_openSections s = some r) (hk : w = some (.int r) ∧ s = s') : J X MX0_openSections (d + 1) 0 [some (.ref 1), none, none, none] [] s w s' := by
  unfold fX0_openSections at hh
  refine J_iconst (pc := 0) dX0_openSections_0 ci_0 ?_
  refine J_istore_n (pc := 1) (L' := [some (.ref 1), some (.int (0 : Int32)), none, none]) dX0_openSections_1 rfl (Nat.le_of_ble_eq_true rfl) rfl ?_
  refine J_iconst (pc := 2) dX0_openSections_2 ci_0 ?_
  refine J_istore_n (pc := 3) (L' := [some (.ref 1), some (.int (0 : Int32)), some (.int (0 : Int32)), none]) dX0_openSections_3 rfl (Nat.le_of_ble_eq_true rfl) rfl ?_
  obtain ⟨y8, hy8, hh⟩ := bd_some hh
  refine J_lp (a := ((0 : Int32), (0 : Int32))) (fun a : (Int32 × Int32) => J X MX0_openSections (d + 1) 4 [some (.ref 1), some (.int a.1), some (.int a.2), none] [] s w s') (fun t : Int32 => J X MX0_openSections (d + 1) 44 [none, some (.int t), none, none] [] s w s') (fun a q h1 h2 => jbX0_openSections_4 d s a.1 a.2 h1 h2) hy8 ?_
  refine J_iload_n (pc := 44) dX0_openSections_44 rfl ?_
  obtain rfl := Option.some.inj hh
  obtain ⟨rfl, rfl⟩ := hk
  exact J_ret (w := some (.int y8)) ⟨dX0_openSections_45, _, rfl, rfl⟩
theorem jX0_openSections {X : Scr} (d : Nat) (s : Mem)  {r : Int32} (hh : fX0_openSections s = some r) : J X MX0_openSections (d + 1) 0 [some (.ref 1), none, none, none] [] s (some (.int r)) s := jjX0_openSections d s hh ⟨rfl, rfl⟩
theorem dX0_price_0 : decode cX0_price 0 = .ok (.aload_n 0, 1) := by decide +kernel
theorem dX0_price_1 : decode cX0_price 1 = .ok (.iload_n 1, 1) := by decide +kernel
theorem dX0_price_2 : decode cX0_price 2 = .ok (.iconst 0, 1) := by decide +kernel
theorem dX0_price_3 : decode cX0_price 3 = .ok (.invokevirtual 61, 3) := by decide +kernel
theorem dX0_price_6 : decode cX0_price 6 = .ok (.aload_n 0, 1) := by decide +kernel
theorem dX0_price_7 : decode cX0_price 7 = .ok (.iload_n 1, 1) := by decide +kernel
theorem dX0_price_8 : decode cX0_price 8 = .ok (.iconst (-1), 1) := by decide +kernel
theorem dX0_price_9 : decode cX0_price 9 = .ok (.invokevirtual 90, 3) := by decide +kernel
theorem dX0_price_12 : decode cX0_price 12 = .ok (.invokestatic 93, 3) := by decide +kernel
theorem dX0_price_15 : decode cX0_price 15 = .ok (.ireturn, 1) := by decide +kernel
def fX0_price (s : Mem) (p0 : Int32) : Option Int32 :=
  (fX0_ofPupil s p0 (0 : Int32)).bind (fun y1 => (fX0_busy s p0 (-1 : Int32)).bind (fun y2 => (fX1_price y1 y2).bind (fun y3 => some y3)))
set_option maxRecDepth 4000 in
theorem jjX0_price {X : Scr} (d : Nat) (s : Mem) (p0 : Int32) {r : Int32} {w : Option Value} {s' : Mem} (hh : fX0_price s p0 = some r) (hk : w = some (.int r) ∧ s = s') : J X MX0_price (d + 2) 0 [some (.ref 1), some (.int p0)] [] s w s' := by
  unfold fX0_price at hh
  refine J_aload_n (pc := 0) dX0_price_0 rfl ?_
  refine J_iload_n (pc := 1) dX0_price_1 rfl ?_
  refine J_iconst (pc := 2) dX0_price_2 ci_0 ?_
  obtain ⟨y1, hy1, hh⟩ := bd_some hh
  refine J_callVi (pc := 3) (M' := MX0_ofPupil) (a := 1) (rest := []) (As := [.int p0, .int (0 : Int32)]) (L0 := [some (.ref 1), some (.int p0), some (.int (0 : Int32))]) okX0_ofPupil ovX0_ofPupil mlX0_61 clX0 so1 rfl rfl (Nat.le_of_ble_eq_true rfl) dX0_price_3 rfl (Nat.le_of_ble_eq_true rfl) (jX0_ofPupil (X := X) (d + 1) s p0 (0 : Int32) hy1) ?_
  refine J_aload_n (pc := 6) dX0_price_6 rfl ?_
  refine J_iload_n (pc := 7) dX0_price_7 rfl ?_
  refine J_iconst (pc := 8) dX0_price_8 ci_m1 ?_
  obtain ⟨y2, hy2, hh⟩ := bd_some hh
  refine J_callVi (pc := 9) (M' := MX0_busy) (a := 1) (rest := [.int y1]) (As := [.int p0, .int (-1 : Int32)]) (L0 := [some (.ref 1), some (.int p0), some (.int (-1 : Int32)), none, none, none]) okX0_busy ovX0_busy mlX0_90 clX0 so1 rfl rfl (Nat.le_of_ble_eq_true rfl) dX0_price_9 rfl (Nat.le_of_ble_eq_true rfl) (jX0_busy (X := X) d s p0 (-1 : Int32) hy2) ?_
  obtain ⟨y3, hy3, hh⟩ := bd_some hh
  refine J_callSi (pc := 12) (M' := MX1_price) (rest := []) (As := [.int y1, .int y2]) (L0 := [some (.int y1), some (.int y2), none, none]) okX1_price osX1_price mlX0_93 rfl rfl (Nat.le_of_ble_eq_true rfl) dX0_price_12 rfl (Nat.le_of_ble_eq_true rfl) (jX1_price (X := X) d s y1 y2 hy3) ?_
  obtain rfl := Option.some.inj hh
  obtain ⟨rfl, rfl⟩ := hk
  exact J_ret (w := some (.int y3)) ⟨dX0_price_15, _, rfl, rfl⟩
theorem jX0_price {X : Scr} (d : Nat) (s : Mem) (p0 : Int32) {r : Int32} (hh : fX0_price s p0 = some r) : J X MX0_price (d + 2) 0 [some (.ref 1), some (.int p0)] [] s (some (.int r)) s := jjX0_price d s p0 hh ⟨rfl, rfl⟩
theorem dX0_priceOfAll_0 : decode cX0_priceOfAll 0 = .ok (.iconst 0, 1) := by decide +kernel
theorem dX0_priceOfAll_1 : decode cX0_priceOfAll 1 = .ok (.istore_n 1, 1) := by decide +kernel
theorem dX0_priceOfAll_2 : decode cX0_priceOfAll 2 = .ok (.iconst 0, 1) := by decide +kernel
theorem dX0_priceOfAll_3 : decode cX0_priceOfAll 3 = .ok (.istore_n 2, 1) := by decide +kernel
theorem dX0_priceOfAll_4 : decode cX0_priceOfAll 4 = .ok (.iload_n 2, 1) := by decide +kernel
theorem dX0_priceOfAll_5 : decode cX0_priceOfAll 5 = .ok (.aload_n 0, 1) := by decide +kernel
theorem dX0_priceOfAll_6 : decode cX0_priceOfAll 6 = .ok (.invokevirtual 32, 3) := by decide +kernel
theorem dX0_priceOfAll_9 : decode cX0_priceOfAll 9 = .ok (.if_icmp .ge 17, 3) := by decide +kernel
theorem dX0_priceOfAll_12 : decode cX0_priceOfAll 12 = .ok (.iload_n 1, 1) := by decide +kernel
theorem dX0_priceOfAll_13 : decode cX0_priceOfAll 13 = .ok (.aload_n 0, 1) := by decide +kernel
theorem dX0_priceOfAll_14 : decode cX0_priceOfAll 14 = .ok (.iload_n 2, 1) := by decide +kernel
theorem dX0_priceOfAll_15 : decode cX0_priceOfAll 15 = .ok (.invokevirtual 98, 3) := by decide +kernel
theorem dX0_priceOfAll_18 : decode cX0_priceOfAll 18 = .ok (.iadd, 1) := by decide +kernel
theorem dX0_priceOfAll_19 : decode cX0_priceOfAll 19 = .ok (.istore_n 1, 1) := by decide +kernel
theorem dX0_priceOfAll_20 : decode cX0_priceOfAll 20 = .ok (.iinc 2 1, 3) := by decide +kernel
theorem dX0_priceOfAll_23 : decode cX0_priceOfAll 23 = .ok (.goto (-19), 3) := by decide +kernel
theorem dX0_priceOfAll_26 : decode cX0_priceOfAll 26 = .ok (.iload_n 1, 1) := by decide +kernel
theorem dX0_priceOfAll_27 : decode cX0_priceOfAll 27 = .ok (.ireturn, 1) := by decide +kernel
def bX0_priceOfAll_4 (s : Mem) (v1 : Int32) (v2 : Int32) : Option (Int32 ⊕ (Int32 × Int32)) :=
  (fX0_pupils s).bind (fun y1 => if y1 ≤ v2 then some (Sum.inl v1) else (fX0_price s v2).bind (fun y2 => lt (v1 + y2) (fun x3 => lt (v2 + (1 : Int32)) (fun x4 => some (Sum.inr (x3, x4))))))
set_option maxRecDepth 4000 in
theorem jbX0_priceOfAll_4 {X : Scr} (d : Nat) (s : Mem) (v1 : Int32) (v2 : Int32) {r : (Int32 ⊕ (Int32 × Int32))} {w : Option Value} {s' : Mem} (hh : bX0_priceOfAll_4 s v1 v2 = some r) (hk : Sum.elim (fun t : Int32 => J X MX0_priceOfAll (d + 3) 26 [none, some (.int t), none] [] s w s') (fun a : (Int32 × Int32) => J X MX0_priceOfAll (d + 3) 4 [some (.ref 1), some (.int a.1), some (.int a.2)] [] s w s') r) : J X MX0_priceOfAll (d + 3) 4 [some (.ref 1), some (.int v1), some (.int v2)] [] s w s' := by
  unfold bX0_priceOfAll_4 at hh
  refine J_iload_n (pc := 4) dX0_priceOfAll_4 rfl ?_
  refine J_aload_n (pc := 5) dX0_priceOfAll_5 rfl ?_
  obtain ⟨y1, hy1, hh⟩ := bd_some hh
  refine J_callVi (pc := 6) (M' := MX0_pupils) (a := 1) (rest := [.int v2]) (As := []) (L0 := [some (.ref 1)]) okX0_pupils ovX0_pupils mlX0_32 clX0 so1 rfl rfl (Nat.le_of_ble_eq_true rfl) dX0_priceOfAll_6 rfl (Nat.le_of_ble_eq_true rfl) (jX0_pupils (X := X) (d + 2) s hy1) ?_
  refine J_icmp_ge (pc := 9) 26 dX0_priceOfAll_9 (by decide) (fun c5 => ?_) (fun c5 => ?_)
  · replace hh := (if_pos c5).symm.trans hh
    refine J_drop 0 (L' := [none, some (.int v1), some (.int v2)]) rfl ?_
    refine J_drop 2 (L' := [none, some (.int v1), none]) rfl ?_
    obtain rfl := Option.some.inj hh
    exact hk
  · replace hh := (if_neg c5).symm.trans hh
    refine J_iload_n (pc := 12) dX0_priceOfAll_12 rfl ?_
    refine J_aload_n (pc := 13) dX0_priceOfAll_13 rfl ?_
    refine J_iload_n (pc := 14) dX0_priceOfAll_14 rfl ?_
    obtain ⟨y2, hy2, hh⟩ := bd_some hh
    refine J_callVi (pc := 15) (M' := MX0_price) (a := 1) (rest := [.int v1]) (As := [.int v2]) (L0 := [some (.ref 1), some (.int v2)]) okX0_price ovX0_price mlX0_98 clX0 so1 rfl rfl (Nat.le_of_ble_eq_true rfl) dX0_priceOfAll_15 rfl (Nat.le_of_ble_eq_true rfl) (jX0_price (X := X) d s v2 hy2) ?_
    refine J_iadd (pc := 18) dX0_priceOfAll_18 ?_
    refine J_istoreL_n (pc := 19) (fun x3 => [some (.ref 1), some (.int x3), some (.int v2)]) dX0_priceOfAll_19 rfl (Nat.le_of_ble_eq_true rfl) (fun _ => rfl) hh (fun x3 hh => ?_)
    refine J_iincL (pc := 20) (v := v2 + (1 : Int32)) (fun x4 => [some (.ref 1), some (.int x3), some (.int x4)]) dX0_priceOfAll_20 rfl rfl (Nat.le_of_ble_eq_true rfl) (congrArg _ ci_1) (fun _ => rfl) hh (fun x4 hh => ?_)
    refine J_goto (pc := 23) 4 dX0_priceOfAll_23 (by decide) ?_
    obtain rfl := Option.some.inj hh
    exact hk
def fX0_priceOfAll (s : Mem)  : Option Int32 :=
  (lp (fun a => bX0_priceOfAll_4 s a.1 a.2) 600 ((0 : Int32), (0 : Int32))).bind (fun y6 => some y6)
set_option maxRecDepth 4000 in
theorem jjX0_priceOfAll {X : Scr} (d : Nat) (s : Mem)  {r : Int32} {w : Option Value} {s' : Mem} (hh : fX0_priceOfAll s = some r) (hk : w = some (.int r) ∧ s = s') : J X MX0_priceOfAll (d + 3) 0 [some (.ref 1), none, none] [] s w s' := by
  unfold fX0_priceOfAll at hh
  refine J_iconst (pc := 0) dX0_priceOfAll_0 ci_0 ?_
  refine J_istore_n (pc := 1) (L' := [some (.ref 1), some (.int (0 : Int32)), none]) dX0_priceOfAll_1 rfl (Nat.le_of_ble_eq_true rfl) rfl ?_
  refine J_iconst (pc := 2) dX0_priceOfAll_2 ci_0 ?_
  refine J_istore_n (pc := 3) (L' := [some (.ref 1), some (.int (0 : Int32)), some (.int (0 : Int32))]) dX0_priceOfAll_3 rfl (Nat.le_of_ble_eq_true rfl) rfl ?_
  obtain ⟨y6, hy6, hh⟩ := bd_some hh
  refine J_lp (a := ((0 : Int32), (0 : Int32))) (fun a : (Int32 × Int32) => J X MX0_priceOfAll (d + 3) 4 [some (.ref 1), some (.int a.1), some (.int a.2)] [] s w s') (fun t : Int32 => J X MX0_priceOfAll (d + 3) 26 [none, some (.int t), none] [] s w s') (fun a q h1 h2 => jbX0_priceOfAll_4 d s a.1 a.2 h1 h2) hy6 ?_
  refine J_iload_n (pc := 26) dX0_priceOfAll_26 rfl ?_
  obtain rfl := Option.some.inj hh
  obtain ⟨rfl, rfl⟩ := hk
  exact J_ret (w := some (.int y6)) ⟨dX0_priceOfAll_27, _, rfl, rfl⟩
theorem jX0_priceOfAll {X : Scr} (d : Nat) (s : Mem)  {r : Int32} (hh : fX0_priceOfAll s = some r) : J X MX0_priceOfAll (d + 3) 0 [some (.ref 1), none, none] [] s (some (.int r)) s := jjX0_priceOfAll d s hh ⟨rfl, rfl⟩
theorem dX0_sitsIn_0 : decode cX0_sitsIn 0 = .ok (.iconst 0, 1) := by decide +kernel
theorem dX0_sitsIn_1 : decode cX0_sitsIn 1 = .ok (.istore_n 2, 1) := by decide +kernel
theorem dX0_sitsIn_2 : decode cX0_sitsIn 2 = .ok (.iconst 0, 1) := by decide +kernel
theorem dX0_sitsIn_3 : decode cX0_sitsIn 3 = .ok (.istore_n 3, 1) := by decide +kernel
theorem dX0_sitsIn_4 : decode cX0_sitsIn 4 = .ok (.iload_n 3, 1) := by decide +kernel
theorem dX0_sitsIn_5 : decode cX0_sitsIn 5 = .ok (.iconst 4, 1) := by decide +kernel
theorem dX0_sitsIn_6 : decode cX0_sitsIn 6 = .ok (.if_icmp .ge 21, 3) := by decide +kernel
theorem dX0_sitsIn_9 : decode cX0_sitsIn 9 = .ok (.aload_n 0, 1) := by decide +kernel
theorem dX0_sitsIn_10 : decode cX0_sitsIn 10 = .ok (.iload_n 1, 1) := by decide +kernel
theorem dX0_sitsIn_11 : decode cX0_sitsIn 11 = .ok (.iload_n 3, 1) := by decide +kernel
theorem dX0_sitsIn_12 : decode cX0_sitsIn 12 = .ok (.invokevirtual 36, 3) := by decide +kernel
theorem dX0_sitsIn_15 : decode cX0_sitsIn 15 = .ok (.ifCond .lt 6, 3) := by decide +kernel
theorem dX0_sitsIn_18 : decode cX0_sitsIn 18 = .ok (.iinc 2 1, 3) := by decide +kernel
theorem dX0_sitsIn_21 : decode cX0_sitsIn 21 = .ok (.iinc 3 1, 3) := by decide +kernel
theorem dX0_sitsIn_24 : decode cX0_sitsIn 24 = .ok (.goto (-20), 3) := by decide +kernel
theorem dX0_sitsIn_27 : decode cX0_sitsIn 27 = .ok (.iload_n 2, 1) := by decide +kernel
theorem dX0_sitsIn_28 : decode cX0_sitsIn 28 = .ok (.ireturn, 1) := by decide +kernel
def bX0_sitsIn_4 (s : Mem) (v1 : Int32) (v2 : Int32) (v3 : Int32) : Option (Int32 ⊕ (Int32 × Int32)) :=
  if (4 : Int32) ≤ v3 then some (Sum.inl v2) else (fX0_sits s v1 v3).bind (fun y1 => if y1 < (0 : Int32) then lt (v3 + (1 : Int32)) (fun x2 => some (Sum.inr (v2, x2))) else lt (v2 + (1 : Int32)) (fun x3 => lt (v3 + (1 : Int32)) (fun x4 => some (Sum.inr (x3, x4)))))
set_option maxRecDepth 4000 in
theorem jbX0_sitsIn_4 {X : Scr} (d : Nat) (s : Mem) (v1 : Int32) (v2 : Int32) (v3 : Int32) {r : (Int32 ⊕ (Int32 × Int32))} {w : Option Value} {s' : Mem} (hh : bX0_sitsIn_4 s v1 v2 v3 = some r) (hk : Sum.elim (fun t : Int32 => J X MX0_sitsIn (d + 1) 27 [none, none, some (.int t), none] [] s w s') (fun a : (Int32 × Int32) => J X MX0_sitsIn (d + 1) 4 [some (.ref 1), some (.int v1), some (.int a.1), some (.int a.2)] [] s w s') r) : J X MX0_sitsIn (d + 1) 4 [some (.ref 1), some (.int v1), some (.int v2), some (.int v3)] [] s w s' := by
  unfold bX0_sitsIn_4 at hh
  refine J_iload_n (pc := 4) dX0_sitsIn_4 rfl ?_
  refine J_iconst (pc := 5) dX0_sitsIn_5 ci_4 ?_
  refine J_icmp_ge (pc := 6) 27 dX0_sitsIn_6 (by decide) (fun c6 => ?_) (fun c6 => ?_)
  · replace hh := (if_pos c6).symm.trans hh
    refine J_drop 0 (L' := [none, some (.int v1), some (.int v2), some (.int v3)]) rfl ?_
    refine J_drop 1 (L' := [none, none, some (.int v2), some (.int v3)]) rfl ?_
    refine J_drop 3 (L' := [none, none, some (.int v2), none]) rfl ?_
    obtain rfl := Option.some.inj hh
    exact hk
  · replace hh := (if_neg c6).symm.trans hh
    refine J_aload_n (pc := 9) dX0_sitsIn_9 rfl ?_
    refine J_iload_n (pc := 10) dX0_sitsIn_10 rfl ?_
    refine J_iload_n (pc := 11) dX0_sitsIn_11 rfl ?_
    obtain ⟨y1, hy1, hh⟩ := bd_some hh
    refine J_callVi (pc := 12) (M' := MX0_sits) (a := 1) (rest := []) (As := [.int v1, .int v3]) (L0 := [some (.ref 1), some (.int v1), some (.int v3)]) okX0_sits ovX0_sits mlX0_36 clX0 so1 rfl rfl (Nat.le_of_ble_eq_true rfl) dX0_sitsIn_12 rfl (Nat.le_of_ble_eq_true rfl) (jX0_sits (X := X) d s v1 v3 hy1) ?_
    refine J_if_lt (pc := 15) 21 dX0_sitsIn_15 (by decide) (fun c5 => ?_) (fun c5 => ?_)
    · replace hh := (if_pos c5).symm.trans hh
      refine J_iincL (pc := 21) (v := v3 + (1 : Int32)) (fun x2 => [some (.ref 1), some (.int v1), some (.int v2), some (.int x2)]) dX0_sitsIn_21 rfl rfl (Nat.le_of_ble_eq_true rfl) (congrArg _ ci_1) (fun _ => rfl) hh (fun x2 hh => ?_)
      refine J_goto (pc := 24) 4 dX0_sitsIn_24 (by decide) ?_
      obtain rfl := Option.some.inj hh
      exact hk
    · replace hh := (if_neg c5).symm.trans hh
      refine J_iincL (pc := 18) (v := v2 + (1 : Int32)) (fun x3 => [some (.ref 1), some (.int v1), some (.int x3), some (.int v3)]) dX0_sitsIn_18 rfl rfl (Nat.le_of_ble_eq_true rfl) (congrArg _ ci_1) (fun _ => rfl) hh (fun x3 hh => ?_)
      refine J_iincL (pc := 21) (v := v3 + (1 : Int32)) (fun x4 => [some (.ref 1), some (.int v1), some (.int x3), some (.int x4)]) dX0_sitsIn_21 rfl rfl (Nat.le_of_ble_eq_true rfl) (congrArg _ ci_1) (fun _ => rfl) hh (fun x4 hh => ?_)
      refine J_goto (pc := 24) 4 dX0_sitsIn_24 (by decide) ?_
      obtain rfl := Option.some.inj hh
      exact hk
def fX0_sitsIn (s : Mem) (p0 : Int32) : Option Int32 :=
  (lp (fun a => bX0_sitsIn_4 s p0 a.1 a.2) 600 ((0 : Int32), (0 : Int32))).bind (fun y7 => some y7)
set_option maxRecDepth 4000 in
theorem jjX0_sitsIn {X : Scr} (d : Nat) (s : Mem) (p0 : Int32) {r : Int32} {w : Option Value} {s' : Mem} (hh : fX0_sitsIn s p0 = some r) (hk : w = some (.int r) ∧ s = s') : J X MX0_sitsIn (d + 1) 0 [some (.ref 1), some (.int p0), none, none] [] s w s' := by
  unfold fX0_sitsIn at hh
  refine J_iconst (pc := 0) dX0_sitsIn_0 ci_0 ?_
  refine J_istore_n (pc := 1) (L' := [some (.ref 1), some (.int p0), some (.int (0 : Int32)), none]) dX0_sitsIn_1 rfl (Nat.le_of_ble_eq_true rfl) rfl ?_
  refine J_iconst (pc := 2) dX0_sitsIn_2 ci_0 ?_
  refine J_istore_n (pc := 3) (L' := [some (.ref 1), some (.int p0), some (.int (0 : Int32)), some (.int (0 : Int32))]) dX0_sitsIn_3 rfl (Nat.le_of_ble_eq_true rfl) rfl ?_
  obtain ⟨y7, hy7, hh⟩ := bd_some hh
  refine J_lp (a := ((0 : Int32), (0 : Int32))) (fun a : (Int32 × Int32) => J X MX0_sitsIn (d + 1) 4 [some (.ref 1), some (.int p0), some (.int a.1), some (.int a.2)] [] s w s') (fun t : Int32 => J X MX0_sitsIn (d + 1) 27 [none, none, some (.int t), none] [] s w s') (fun a q h1 h2 => jbX0_sitsIn_4 d s p0 a.1 a.2 h1 h2) hy7 ?_
  refine J_iload_n (pc := 27) dX0_sitsIn_27 rfl ?_
  obtain rfl := Option.some.inj hh
  obtain ⟨rfl, rfl⟩ := hk
  exact J_ret (w := some (.int y7)) ⟨dX0_sitsIn_28, _, rfl, rfl⟩
theorem jX0_sitsIn {X : Scr} (d : Nat) (s : Mem) (p0 : Int32) {r : Int32} (hh : fX0_sitsIn s p0 = some r) : J X MX0_sitsIn (d + 1) 0 [some (.ref 1), some (.int p0), none, none] [] s (some (.int r)) s := jjX0_sitsIn d s p0 hh ⟨rfl, rfl⟩
theorem dX0_seats_0 : decode cX0_seats 0 = .ok (.iconst 0, 1) := by decide +kernel
theorem dX0_seats_1 : decode cX0_seats 1 = .ok (.istore_n 1, 1) := by decide +kernel
theorem dX0_seats_2 : decode cX0_seats 2 = .ok (.iconst 0, 1) := by decide +kernel
theorem dX0_seats_3 : decode cX0_seats 3 = .ok (.istore_n 2, 1) := by decide +kernel
theorem dX0_seats_4 : decode cX0_seats 4 = .ok (.iload_n 2, 1) := by decide +kernel
theorem dX0_seats_5 : decode cX0_seats 5 = .ok (.aload_n 0, 1) := by decide +kernel
theorem dX0_seats_6 : decode cX0_seats 6 = .ok (.invokevirtual 32, 3) := by decide +kernel
theorem dX0_seats_9 : decode cX0_seats 9 = .ok (.if_icmp .ge 17, 3) := by decide +kernel
theorem dX0_seats_12 : decode cX0_seats 12 = .ok (.iload_n 1, 1) := by decide +kernel
theorem dX0_seats_13 : decode cX0_seats 13 = .ok (.aload_n 0, 1) := by decide +kernel
theorem dX0_seats_14 : decode cX0_seats 14 = .ok (.iload_n 2, 1) := by decide +kernel
theorem dX0_seats_15 : decode cX0_seats 15 = .ok (.invokevirtual 100, 3) := by decide +kernel
theorem dX0_seats_18 : decode cX0_seats 18 = .ok (.iadd, 1) := by decide +kernel
theorem dX0_seats_19 : decode cX0_seats 19 = .ok (.istore_n 1, 1) := by decide +kernel
theorem dX0_seats_20 : decode cX0_seats 20 = .ok (.iinc 2 1, 3) := by decide +kernel
theorem dX0_seats_23 : decode cX0_seats 23 = .ok (.goto (-19), 3) := by decide +kernel
theorem dX0_seats_26 : decode cX0_seats 26 = .ok (.iload_n 1, 1) := by decide +kernel
theorem dX0_seats_27 : decode cX0_seats 27 = .ok (.ireturn, 1) := by decide +kernel
def bX0_seats_4 (s : Mem) (v1 : Int32) (v2 : Int32) : Option (Int32 ⊕ (Int32 × Int32)) :=
  (fX0_pupils s).bind (fun y1 => if y1 ≤ v2 then some (Sum.inl v1) else (fX0_sitsIn s v2).bind (fun y2 => lt (v1 + y2) (fun x3 => lt (v2 + (1 : Int32)) (fun x4 => some (Sum.inr (x3, x4))))))
set_option maxRecDepth 4000 in
theorem jbX0_seats_4 {X : Scr} (d : Nat) (s : Mem) (v1 : Int32) (v2 : Int32) {r : (Int32 ⊕ (Int32 × Int32))} {w : Option Value} {s' : Mem} (hh : bX0_seats_4 s v1 v2 = some r) (hk : Sum.elim (fun t : Int32 => J X MX0_seats (d + 2) 26 [none, some (.int t), none] [] s w s') (fun a : (Int32 × Int32) => J X MX0_seats (d + 2) 4 [some (.ref 1), some (.int a.1), some (.int a.2)] [] s w s') r) : J X MX0_seats (d + 2) 4 [some (.ref 1), some (.int v1), some (.int v2)] [] s w s' := by
  unfold bX0_seats_4 at hh
  refine J_iload_n (pc := 4) dX0_seats_4 rfl ?_
  refine J_aload_n (pc := 5) dX0_seats_5 rfl ?_
  obtain ⟨y1, hy1, hh⟩ := bd_some hh
  refine J_callVi (pc := 6) (M' := MX0_pupils) (a := 1) (rest := [.int v2]) (As := []) (L0 := [some (.ref 1)]) okX0_pupils ovX0_pupils mlX0_32 clX0 so1 rfl rfl (Nat.le_of_ble_eq_true rfl) dX0_seats_6 rfl (Nat.le_of_ble_eq_true rfl) (jX0_pupils (X := X) (d + 1) s hy1) ?_
  refine J_icmp_ge (pc := 9) 26 dX0_seats_9 (by decide) (fun c5 => ?_) (fun c5 => ?_)
  · replace hh := (if_pos c5).symm.trans hh
    refine J_drop 0 (L' := [none, some (.int v1), some (.int v2)]) rfl ?_
    refine J_drop 2 (L' := [none, some (.int v1), none]) rfl ?_
    obtain rfl := Option.some.inj hh
    exact hk
  · replace hh := (if_neg c5).symm.trans hh
    refine J_iload_n (pc := 12) dX0_seats_12 rfl ?_
    refine J_aload_n (pc := 13) dX0_seats_13 rfl ?_
    refine J_iload_n (pc := 14) dX0_seats_14 rfl ?_
    obtain ⟨y2, hy2, hh⟩ := bd_some hh
    refine J_callVi (pc := 15) (M' := MX0_sitsIn) (a := 1) (rest := [.int v1]) (As := [.int v2]) (L0 := [some (.ref 1), some (.int v2), none, none]) okX0_sitsIn ovX0_sitsIn mlX0_100 clX0 so1 rfl rfl (Nat.le_of_ble_eq_true rfl) dX0_seats_15 rfl (Nat.le_of_ble_eq_true rfl) (jX0_sitsIn (X := X) d s v2 hy2) ?_
    refine J_iadd (pc := 18) dX0_seats_18 ?_
    refine J_istoreL_n (pc := 19) (fun x3 => [some (.ref 1), some (.int x3), some (.int v2)]) dX0_seats_19 rfl (Nat.le_of_ble_eq_true rfl) (fun _ => rfl) hh (fun x3 hh => ?_)
    refine J_iincL (pc := 20) (v := v2 + (1 : Int32)) (fun x4 => [some (.ref 1), some (.int x3), some (.int x4)]) dX0_seats_20 rfl rfl (Nat.le_of_ble_eq_true rfl) (congrArg _ ci_1) (fun _ => rfl) hh (fun x4 hh => ?_)
    refine J_goto (pc := 23) 4 dX0_seats_23 (by decide) ?_
    obtain rfl := Option.some.inj hh
    exact hk
def fX0_seats (s : Mem)  : Option Int32 :=
  (lp (fun a => bX0_seats_4 s a.1 a.2) 600 ((0 : Int32), (0 : Int32))).bind (fun y6 => some y6)
set_option maxRecDepth 4000 in
theorem jjX0_seats {X : Scr} (d : Nat) (s : Mem)  {r : Int32} {w : Option Value} {s' : Mem} (hh : fX0_seats s = some r) (hk : w = some (.int r) ∧ s = s') : J X MX0_seats (d + 2) 0 [some (.ref 1), none, none] [] s w s' := by
  unfold fX0_seats at hh
  refine J_iconst (pc := 0) dX0_seats_0 ci_0 ?_
  refine J_istore_n (pc := 1) (L' := [some (.ref 1), some (.int (0 : Int32)), none]) dX0_seats_1 rfl (Nat.le_of_ble_eq_true rfl) rfl ?_
  refine J_iconst (pc := 2) dX0_seats_2 ci_0 ?_
  refine J_istore_n (pc := 3) (L' := [some (.ref 1), some (.int (0 : Int32)), some (.int (0 : Int32))]) dX0_seats_3 rfl (Nat.le_of_ble_eq_true rfl) rfl ?_
  obtain ⟨y6, hy6, hh⟩ := bd_some hh
  refine J_lp (a := ((0 : Int32), (0 : Int32))) (fun a : (Int32 × Int32) => J X MX0_seats (d + 2) 4 [some (.ref 1), some (.int a.1), some (.int a.2)] [] s w s') (fun t : Int32 => J X MX0_seats (d + 2) 26 [none, some (.int t), none] [] s w s') (fun a q h1 h2 => jbX0_seats_4 d s a.1 a.2 h1 h2) hy6 ?_
  refine J_iload_n (pc := 26) dX0_seats_26 rfl ?_
  obtain rfl := Option.some.inj hh
  obtain ⟨rfl, rfl⟩ := hk
  exact J_ret (w := some (.int y6)) ⟨dX0_seats_27, _, rfl, rfl⟩
theorem jX0_seats {X : Scr} (d : Nat) (s : Mem)  {r : Int32} (hh : fX0_seats s = some r) : J X MX0_seats (d + 2) 0 [some (.ref 1), none, none] [] s (some (.int r)) s := jjX0_seats d s hh ⟨rfl, rfl⟩
theorem dX0_openWishes_0 : decode cX0_openWishes 0 = .ok (.iconst 0, 1) := by decide +kernel
theorem dX0_openWishes_1 : decode cX0_openWishes 1 = .ok (.istore_n 1, 1) := by decide +kernel
theorem dX0_openWishes_2 : decode cX0_openWishes 2 = .ok (.iconst 0, 1) := by decide +kernel
theorem dX0_openWishes_3 : decode cX0_openWishes 3 = .ok (.istore_n 2, 1) := by decide +kernel
theorem dX0_openWishes_4 : decode cX0_openWishes 4 = .ok (.iload_n 2, 1) := by decide +kernel
theorem dX0_openWishes_5 : decode cX0_openWishes 5 = .ok (.aload_n 0, 1) := by decide +kernel
theorem dX0_openWishes_6 : decode cX0_openWishes 6 = .ok (.invokevirtual 32, 3) := by decide +kernel
theorem dX0_openWishes_9 : decode cX0_openWishes 9 = .ok (.if_icmp .ge 27, 3) := by decide +kernel
theorem dX0_openWishes_12 : decode cX0_openWishes 12 = .ok (.iload_n 1, 1) := by decide +kernel
theorem dX0_openWishes_13 : decode cX0_openWishes 13 = .ok (.aload_n 0, 1) := by decide +kernel
theorem dX0_openWishes_14 : decode cX0_openWishes 14 = .ok (.iload_n 2, 1) := by decide +kernel
theorem dX0_openWishes_15 : decode cX0_openWishes 15 = .ok (.iconst 2, 1) := by decide +kernel
theorem dX0_openWishes_16 : decode cX0_openWishes 16 = .ok (.invokevirtual 61, 3) := by decide +kernel
theorem dX0_openWishes_19 : decode cX0_openWishes 19 = .ok (.invokestatic 103, 3) := by decide +kernel
theorem dX0_openWishes_22 : decode cX0_openWishes 22 = .ok (.aload_n 0, 1) := by decide +kernel
theorem dX0_openWishes_23 : decode cX0_openWishes 23 = .ok (.iload_n 2, 1) := by decide +kernel
theorem dX0_openWishes_24 : decode cX0_openWishes 24 = .ok (.invokevirtual 100, 3) := by decide +kernel
theorem dX0_openWishes_27 : decode cX0_openWishes 27 = .ok (.isub, 1) := by decide +kernel
theorem dX0_openWishes_28 : decode cX0_openWishes 28 = .ok (.iadd, 1) := by decide +kernel
theorem dX0_openWishes_29 : decode cX0_openWishes 29 = .ok (.istore_n 1, 1) := by decide +kernel
theorem dX0_openWishes_30 : decode cX0_openWishes 30 = .ok (.iinc 2 1, 3) := by decide +kernel
theorem dX0_openWishes_33 : decode cX0_openWishes 33 = .ok (.goto (-29), 3) := by decide +kernel
theorem dX0_openWishes_36 : decode cX0_openWishes 36 = .ok (.iload_n 1, 1) := by decide +kernel
theorem dX0_openWishes_37 : decode cX0_openWishes 37 = .ok (.ireturn, 1) := by decide +kernel
def bX0_openWishes_4 (s : Mem) (v1 : Int32) (v2 : Int32) : Option (Int32 ⊕ (Int32 × Int32)) :=
  (fX0_pupils s).bind (fun y1 => if y1 ≤ v2 then some (Sum.inl v1) else (fX0_ofPupil s v2 (2 : Int32)).bind (fun y2 => (fJ6_bitCount_0f7a4 y2).bind (fun y3 => (fX0_sitsIn s v2).bind (fun y4 => lt (v1 + (y3 - y4)) (fun x5 => lt (v2 + (1 : Int32)) (fun x6 => some (Sum.inr (x5, x6))))))))
set_option maxRecDepth 4000 in
theorem jbX0_openWishes_4 {X : Scr} (d : Nat) (s : Mem) (v1 : Int32) (v2 : Int32) {r : (Int32 ⊕ (Int32 × Int32))} {w : Option Value} {s' : Mem} (hh : bX0_openWishes_4 s v1 v2 = some r) (hk : Sum.elim (fun t : Int32 => J X MX0_openWishes (d + 2) 36 [none, some (.int t), none] [] s w s') (fun a : (Int32 × Int32) => J X MX0_openWishes (d + 2) 4 [some (.ref 1), some (.int a.1), some (.int a.2)] [] s w s') r) : J X MX0_openWishes (d + 2) 4 [some (.ref 1), some (.int v1), some (.int v2)] [] s w s' := by
  unfold bX0_openWishes_4 at hh
  refine J_iload_n (pc := 4) dX0_openWishes_4 rfl ?_
  refine J_aload_n (pc := 5) dX0_openWishes_5 rfl ?_
  obtain ⟨y1, hy1, hh⟩ := bd_some hh
  refine J_callVi (pc := 6) (M' := MX0_pupils) (a := 1) (rest := [.int v2]) (As := []) (L0 := [some (.ref 1)]) okX0_pupils ovX0_pupils mlX0_32 clX0 so1 rfl rfl (Nat.le_of_ble_eq_true rfl) dX0_openWishes_6 rfl (Nat.le_of_ble_eq_true rfl) (jX0_pupils (X := X) (d + 1) s hy1) ?_
  refine J_icmp_ge (pc := 9) 36 dX0_openWishes_9 (by decide) (fun c7 => ?_) (fun c7 => ?_)
  · replace hh := (if_pos c7).symm.trans hh
    refine J_drop 0 (L' := [none, some (.int v1), some (.int v2)]) rfl ?_
    refine J_drop 2 (L' := [none, some (.int v1), none]) rfl ?_
    obtain rfl := Option.some.inj hh
    exact hk
  · replace hh := (if_neg c7).symm.trans hh
    refine J_iload_n (pc := 12) dX0_openWishes_12 rfl ?_
    refine J_aload_n (pc := 13) dX0_openWishes_13 rfl ?_
    refine J_iload_n (pc := 14) dX0_openWishes_14 rfl ?_
    refine J_iconst (pc := 15) dX0_openWishes_15 ci_2 ?_
    obtain ⟨y2, hy2, hh⟩ := bd_some hh
    refine J_callVi (pc := 16) (M' := MX0_ofPupil) (a := 1) (rest := [.int v1]) (As := [.int v2, .int (2 : Int32)]) (L0 := [some (.ref 1), some (.int v2), some (.int (2 : Int32))]) okX0_ofPupil ovX0_ofPupil mlX0_61 clX0 so1 rfl rfl (Nat.le_of_ble_eq_true rfl) dX0_openWishes_16 rfl (Nat.le_of_ble_eq_true rfl) (jX0_ofPupil (X := X) (d + 1) s v2 (2 : Int32) hy2) ?_
    obtain ⟨y3, hy3, hh⟩ := bd_some hh
    refine J_callSi (pc := 19) (M' := MJ6_bitCount_0f7a4) (rest := [.int v1]) (As := [.int y2]) (L0 := [some (.int y2)]) okJ6_bitCount_0f7a4 osJ6_bitCount_0f7a4 mlX0_103 rfl rfl (Nat.le_of_ble_eq_true rfl) dX0_openWishes_19 rfl (Nat.le_of_ble_eq_true rfl) (jJ6_bitCount_0f7a4 (X := X) (d + 1) s y2 hy3) ?_
    refine J_aload_n (pc := 22) dX0_openWishes_22 rfl ?_
    refine J_iload_n (pc := 23) dX0_openWishes_23 rfl ?_
    obtain ⟨y4, hy4, hh⟩ := bd_some hh
    refine J_callVi (pc := 24) (M' := MX0_sitsIn) (a := 1) (rest := [.int y3, .int v1]) (As := [.int v2]) (L0 := [some (.ref 1), some (.int v2), none, none]) okX0_sitsIn ovX0_sitsIn mlX0_100 clX0 so1 rfl rfl (Nat.le_of_ble_eq_true rfl) dX0_openWishes_24 rfl (Nat.le_of_ble_eq_true rfl) (jX0_sitsIn (X := X) d s v2 hy4) ?_
    refine J_isub (pc := 27) dX0_openWishes_27 ?_
    refine J_iadd (pc := 28) dX0_openWishes_28 ?_
    refine J_istoreL_n (pc := 29) (fun x5 => [some (.ref 1), some (.int x5), some (.int v2)]) dX0_openWishes_29 rfl (Nat.le_of_ble_eq_true rfl) (fun _ => rfl) hh (fun x5 hh => ?_)
    refine J_iincL (pc := 30) (v := v2 + (1 : Int32)) (fun x6 => [some (.ref 1), some (.int x5), some (.int x6)]) dX0_openWishes_30 rfl rfl (Nat.le_of_ble_eq_true rfl) (congrArg _ ci_1) (fun _ => rfl) hh (fun x6 hh => ?_)
    refine J_goto (pc := 33) 4 dX0_openWishes_33 (by decide) ?_
    obtain rfl := Option.some.inj hh
    exact hk
def fX0_openWishes (s : Mem)  : Option Int32 :=
  (lp (fun a => bX0_openWishes_4 s a.1 a.2) 600 ((0 : Int32), (0 : Int32))).bind (fun y8 => some y8)
set_option maxRecDepth 4000 in
theorem jjX0_openWishes {X : Scr} (d : Nat) (s : Mem)  {r : Int32} {w : Option Value} {s' : Mem} (hh : fX0_openWishes s = some r) (hk : w = some (.int r) ∧ s = s') : J X MX0_openWishes (d + 2) 0 [some (.ref 1), none, none] [] s w s' := by
  unfold fX0_openWishes at hh
  refine J_iconst (pc := 0) dX0_openWishes_0 ci_0 ?_
  refine J_istore_n (pc := 1) (L' := [some (.ref 1), some (.int (0 : Int32)), none]) dX0_openWishes_1 rfl (Nat.le_of_ble_eq_true rfl) rfl ?_
  refine J_iconst (pc := 2) dX0_openWishes_2 ci_0 ?_
  refine J_istore_n (pc := 3) (L' := [some (.ref 1), some (.int (0 : Int32)), some (.int (0 : Int32))]) dX0_openWishes_3 rfl (Nat.le_of_ble_eq_true rfl) rfl ?_
  obtain ⟨y8, hy8, hh⟩ := bd_some hh
  refine J_lp (a := ((0 : Int32), (0 : Int32))) (fun a : (Int32 × Int32) => J X MX0_openWishes (d + 2) 4 [some (.ref 1), some (.int a.1), some (.int a.2)] [] s w s') (fun t : Int32 => J X MX0_openWishes (d + 2) 36 [none, some (.int t), none] [] s w s') (fun a q h1 h2 => jbX0_openWishes_4 d s a.1 a.2 h1 h2) hy8 ?_
  refine J_iload_n (pc := 36) dX0_openWishes_36 rfl ?_
  obtain rfl := Option.some.inj hh
  obtain ⟨rfl, rfl⟩ := hk
  exact J_ret (w := some (.int y8)) ⟨dX0_openWishes_37, _, rfl, rfl⟩
theorem jX0_openWishes {X : Scr} (d : Nat) (s : Mem)  {r : Int32} (hh : fX0_openWishes s = some r) : J X MX0_openWishes (d + 2) 0 [some (.ref 1), none, none] [] s (some (.int r)) s := jjX0_openWishes d s hh ⟨rfl, rfl⟩
theorem dX0_courseOf_0 : decode cX0_courseOf 0 = .ok (.iconst 0, 1) := by decide +kernel
theorem dX0_courseOf_1 : decode cX0_courseOf 1 = .ok (.istore_n 3, 1) := by decide +kernel
theorem dX0_courseOf_2 : decode cX0_courseOf 2 = .ok (.iconst 0, 1) := by decide +kernel
theorem dX0_courseOf_3 : decode cX0_courseOf 3 = .ok (.istore 4, 2) := by decide +kernel
theorem dX0_courseOf_5 : decode cX0_courseOf 5 = .ok (.iload 4, 2) := by decide +kernel
theorem dX0_courseOf_7 : decode cX0_courseOf 7 = .ok (.iconst 4, 1) := by decide +kernel
theorem dX0_courseOf_8 : decode cX0_courseOf 8 = .ok (.if_icmp .ge 30, 3) := by decide +kernel
theorem dX0_courseOf_11 : decode cX0_courseOf 11 = .ok (.aload_n 0, 1) := by decide +kernel
theorem dX0_courseOf_12 : decode cX0_courseOf 12 = .ok (.iload_n 1, 1) := by decide +kernel
theorem dX0_courseOf_13 : decode cX0_courseOf 13 = .ok (.iload 4, 2) := by decide +kernel
theorem dX0_courseOf_15 : decode cX0_courseOf 15 = .ok (.invokevirtual 36, 3) := by decide +kernel
theorem dX0_courseOf_18 : decode cX0_courseOf 18 = .ok (.ifCond .lt 14, 3) := by decide +kernel
theorem dX0_courseOf_21 : decode cX0_courseOf 21 = .ok (.iload_n 3, 1) := by decide +kernel
theorem dX0_courseOf_22 : decode cX0_courseOf 22 = .ok (.iload_n 2, 1) := by decide +kernel
theorem dX0_courseOf_23 : decode cX0_courseOf 23 = .ok (.if_icmp .ne 6, 3) := by decide +kernel
theorem dX0_courseOf_26 : decode cX0_courseOf 26 = .ok (.iload 4, 2) := by decide +kernel
theorem dX0_courseOf_28 : decode cX0_courseOf 28 = .ok (.ireturn, 1) := by decide +kernel
theorem dX0_courseOf_29 : decode cX0_courseOf 29 = .ok (.iinc 3 1, 3) := by decide +kernel
theorem dX0_courseOf_32 : decode cX0_courseOf 32 = .ok (.iinc 4 1, 3) := by decide +kernel
theorem dX0_courseOf_35 : decode cX0_courseOf 35 = .ok (.goto (-30), 3) := by decide +kernel
theorem dX0_courseOf_38 : decode cX0_courseOf 38 = .ok (.iconst 0, 1) := by decide +kernel
theorem dX0_courseOf_39 : decode cX0_courseOf 39 = .ok (.ireturn, 1) := by decide +kernel
def bX0_courseOf_5 (s : Mem) (v1 : Int32) (v2 : Int32) (v3 : Int32) (v4 : Int32) : Option ((Int32 ⊕ Unit) ⊕ (Int32 × Int32)) :=
  if (4 : Int32) ≤ v4 then some (Sum.inl (Sum.inr ())) else (fX0_sits s v1 v4).bind (fun y1 => if y1 < (0 : Int32) then lt (v4 + (1 : Int32)) (fun x2 => some (Sum.inr (v3, x2))) else if v3 = v2 then some (Sum.inl (Sum.inl v4)) else lt (v3 + (1 : Int32)) (fun x3 => lt (v4 + (1 : Int32)) (fun x4 => some (Sum.inr (x3, x4)))))
set_option maxRecDepth 4000 in
theorem jbX0_courseOf_5 {X : Scr} (d : Nat) (s : Mem) (v1 : Int32) (v2 : Int32) (v3 : Int32) (v4 : Int32) {r : ((Int32 ⊕ Unit) ⊕ (Int32 × Int32))} {w : Option Value} {s' : Mem} (hh : bX0_courseOf_5 s v1 v2 v3 v4 = some r) (hk : Sum.elim (Sum.elim (fun q : Int32 => w = some (.int q) ∧ s = s') (fun t : Unit => J X MX0_courseOf (d + 1) 38 [none, none, none, none, none] [] s w s')) (fun a : (Int32 × Int32) => J X MX0_courseOf (d + 1) 5 [some (.ref 1), some (.int v1), some (.int v2), some (.int a.1), some (.int a.2)] [] s w s') r) : J X MX0_courseOf (d + 1) 5 [some (.ref 1), some (.int v1), some (.int v2), some (.int v3), some (.int v4)] [] s w s' := by
  unfold bX0_courseOf_5 at hh
  refine J_iload (pc := 5) dX0_courseOf_5 rfl ?_
  refine J_iconst (pc := 7) dX0_courseOf_7 ci_4 ?_
  refine J_icmp_ge (pc := 8) 38 dX0_courseOf_8 (by decide) (fun c7 => ?_) (fun c7 => ?_)
  · replace hh := (if_pos c7).symm.trans hh
    refine J_drop 0 (L' := [none, some (.int v1), some (.int v2), some (.int v3), some (.int v4)]) rfl ?_
    refine J_drop 1 (L' := [none, none, some (.int v2), some (.int v3), some (.int v4)]) rfl ?_
    refine J_drop 2 (L' := [none, none, none, some (.int v3), some (.int v4)]) rfl ?_
    refine J_drop 3 (L' := [none, none, none, none, some (.int v4)]) rfl ?_
    refine J_drop 4 (L' := [none, none, none, none, none]) rfl ?_
    obtain rfl := Option.some.inj hh
    exact hk
  · replace hh := (if_neg c7).symm.trans hh
    refine J_aload_n (pc := 11) dX0_courseOf_11 rfl ?_
    refine J_iload_n (pc := 12) dX0_courseOf_12 rfl ?_
    refine J_iload (pc := 13) dX0_courseOf_13 rfl ?_
    obtain ⟨y1, hy1, hh⟩ := bd_some hh
    refine J_callVi (pc := 15) (M' := MX0_sits) (a := 1) (rest := []) (As := [.int v1, .int v4]) (L0 := [some (.ref 1), some (.int v1), some (.int v4)]) okX0_sits ovX0_sits mlX0_36 clX0 so1 rfl rfl (Nat.le_of_ble_eq_true rfl) dX0_courseOf_15 rfl (Nat.le_of_ble_eq_true rfl) (jX0_sits (X := X) d s v1 v4 hy1) ?_
    refine J_if_lt (pc := 18) 32 dX0_courseOf_18 (by decide) (fun c6 => ?_) (fun c6 => ?_)
    · replace hh := (if_pos c6).symm.trans hh
      refine J_iincL (pc := 32) (v := v4 + (1 : Int32)) (fun x2 => [some (.ref 1), some (.int v1), some (.int v2), some (.int v3), some (.int x2)]) dX0_courseOf_32 rfl rfl (Nat.le_of_ble_eq_true rfl) (congrArg _ ci_1) (fun _ => rfl) hh (fun x2 hh => ?_)
      refine J_goto (pc := 35) 5 dX0_courseOf_35 (by decide) ?_
      obtain rfl := Option.some.inj hh
      exact hk
    · replace hh := (if_neg c6).symm.trans hh
      refine J_iload_n (pc := 21) dX0_courseOf_21 rfl ?_
      refine J_iload_n (pc := 22) dX0_courseOf_22 rfl ?_
      refine J_icmp_ne (pc := 23) 29 dX0_courseOf_23 (by decide) (fun c5 => ?_) (fun c5 => ?_)
      · replace hh := (if_neg c5).symm.trans hh
        refine J_iincL (pc := 29) (v := v3 + (1 : Int32)) (fun x3 => [some (.ref 1), some (.int v1), some (.int v2), some (.int x3), some (.int v4)]) dX0_courseOf_29 rfl rfl (Nat.le_of_ble_eq_true rfl) (congrArg _ ci_1) (fun _ => rfl) hh (fun x3 hh => ?_)
        refine J_iincL (pc := 32) (v := v4 + (1 : Int32)) (fun x4 => [some (.ref 1), some (.int v1), some (.int v2), some (.int x3), some (.int x4)]) dX0_courseOf_32 rfl rfl (Nat.le_of_ble_eq_true rfl) (congrArg _ ci_1) (fun _ => rfl) hh (fun x4 hh => ?_)
        refine J_goto (pc := 35) 5 dX0_courseOf_35 (by decide) ?_
        obtain rfl := Option.some.inj hh
        exact hk
      · replace hh := (if_pos c5).symm.trans hh
        refine J_iload (pc := 26) dX0_courseOf_26 rfl ?_
        obtain rfl := Option.some.inj hh
        obtain ⟨rfl, rfl⟩ := hk
        exact J_ret (w := some (.int v4)) ⟨dX0_courseOf_28, _, rfl, rfl⟩
def fX0_courseOf (s : Mem) (p0 : Int32) (p1 : Int32) : Option Int32 :=
  (lp (fun a => bX0_courseOf_5 s p0 p1 a.1 a.2) 600 ((0 : Int32), (0 : Int32))).bind (fun y8 => Sum.elim (fun q10 => some q10) (fun t9 => some (0 : Int32)) y8)
set_option maxRecDepth 4000 in
theorem jjX0_courseOf {X : Scr} (d : Nat) (s : Mem) (p0 : Int32) (p1 : Int32) {r : Int32} {w : Option Value} {s' : Mem} (hh : fX0_courseOf s p0 p1 = some r) (hk : w = some (.int r) ∧ s = s') : J X MX0_courseOf (d + 1) 0 [some (.ref 1), some (.int p0), some (.int p1), none, none] [] s w s' := by
  unfold fX0_courseOf at hh
  refine J_iconst (pc := 0) dX0_courseOf_0 ci_0 ?_
  refine J_istore_n (pc := 1) (L' := [some (.ref 1), some (.int p0), some (.int p1), some (.int (0 : Int32)), none]) dX0_courseOf_1 rfl (Nat.le_of_ble_eq_true rfl) rfl ?_
  refine J_iconst (pc := 2) dX0_courseOf_2 ci_0 ?_
  refine J_istore (pc := 3) (L' := [some (.ref 1), some (.int p0), some (.int p1), some (.int (0 : Int32)), some (.int (0 : Int32))]) dX0_courseOf_3 rfl (Nat.le_of_ble_eq_true rfl) rfl ?_
  obtain ⟨y8, hy8, hh⟩ := bd_some hh
  refine J_lp (a := ((0 : Int32), (0 : Int32))) (fun a : (Int32 × Int32) => J X MX0_courseOf (d + 1) 5 [some (.ref 1), some (.int p0), some (.int p1), some (.int a.1), some (.int a.2)] [] s w s') (Sum.elim (fun q : Int32 => w = some (.int q) ∧ s = s') (fun t : Unit => J X MX0_courseOf (d + 1) 38 [none, none, none, none, none] [] s w s')) (fun a q h1 h2 => jbX0_courseOf_5 d s p0 p1 a.1 a.2 h1 h2) hy8 ?_
  cases y8 with
  | inl q10 =>
    obtain rfl := Option.some.inj hh
    exact hk
  | inr t9 =>
    skip
    replace hh : (some (0 : Int32)) = some r := hh
    refine J_iconst (pc := 38) dX0_courseOf_38 ci_0 ?_
    obtain rfl := Option.some.inj hh
    obtain ⟨rfl, rfl⟩ := hk
    exact J_ret (w := some (.int (0 : Int32))) ⟨dX0_courseOf_39, _, rfl, rfl⟩
theorem jX0_courseOf {X : Scr} (d : Nat) (s : Mem) (p0 : Int32) (p1 : Int32) {r : Int32} (hh : fX0_courseOf s p0 p1 = some r) : J X MX0_courseOf (d + 1) 0 [some (.ref 1), some (.int p0), some (.int p1), none, none] [] s (some (.int r)) s := jjX0_courseOf d s p0 p1 hh ⟨rfl, rfl⟩
theorem dX0_sign_0 : decode cX0_sign 0 = .ok (.aload_n 0, 1) := by decide +kernel
theorem dX0_sign_1 : decode cX0_sign 1 = .ok (.iload_n 1, 1) := by decide +kernel
theorem dX0_sign_2 : decode cX0_sign 2 = .ok (.iload_n 2, 1) := by decide +kernel
theorem dX0_sign_3 : decode cX0_sign 3 = .ok (.invokevirtual 108, 3) := by decide +kernel
theorem dX0_sign_6 : decode cX0_sign 6 = .ok (.istore 4, 2) := by decide +kernel
theorem dX0_sign_8 : decode cX0_sign 8 = .ok (.iload_n 3, 1) := by decide +kernel
theorem dX0_sign_9 : decode cX0_sign 9 = .ok (.ifCond .ne 6, 3) := by decide +kernel
theorem dX0_sign_12 : decode cX0_sign 12 = .ok (.bipush 32, 2) := by decide +kernel
theorem dX0_sign_14 : decode cX0_sign 14 = .ok (.ireturn, 1) := by decide +kernel
theorem dX0_sign_15 : decode cX0_sign 15 = .ok (.iload_n 3, 1) := by decide +kernel
theorem dX0_sign_16 : decode cX0_sign 16 = .ok (.iconst 1, 1) := by decide +kernel
theorem dX0_sign_17 : decode cX0_sign 17 = .ok (.if_icmp .ne 9, 3) := by decide +kernel
theorem dX0_sign_20 : decode cX0_sign 20 = .ok (.bipush 97, 2) := by decide +kernel
theorem dX0_sign_22 : decode cX0_sign 22 = .ok (.iload 4, 2) := by decide +kernel
theorem dX0_sign_24 : decode cX0_sign 24 = .ok (.iadd, 1) := by decide +kernel
theorem dX0_sign_25 : decode cX0_sign 25 = .ok (.ireturn, 1) := by decide +kernel
theorem dX0_sign_26 : decode cX0_sign 26 = .ok (.iload_n 3, 1) := by decide +kernel
theorem dX0_sign_27 : decode cX0_sign 27 = .ok (.iconst 2, 1) := by decide +kernel
theorem dX0_sign_28 : decode cX0_sign 28 = .ok (.isub, 1) := by decide +kernel
theorem dX0_sign_29 : decode cX0_sign 29 = .ok (.istore 5, 2) := by decide +kernel
theorem dX0_sign_31 : decode cX0_sign 31 = .ok (.aload_n 0, 1) := by decide +kernel
theorem dX0_sign_32 : decode cX0_sign 32 = .ok (.iload 4, 2) := by decide +kernel
theorem dX0_sign_34 : decode cX0_sign 34 = .ok (.iload 5, 2) := by decide +kernel
theorem dX0_sign_36 : decode cX0_sign 36 = .ok (.invokevirtual 74, 3) := by decide +kernel
theorem dX0_sign_39 : decode cX0_sign 39 = .ok (.ifCond .eq 21, 3) := by decide +kernel
theorem dX0_sign_42 : decode cX0_sign 42 = .ok (.bipush 48, 2) := by decide +kernel
theorem dX0_sign_44 : decode cX0_sign 44 = .ok (.aload_n 0, 1) := by decide +kernel
theorem dX0_sign_45 : decode cX0_sign 45 = .ok (.iload_n 1, 1) := by decide +kernel
theorem dX0_sign_46 : decode cX0_sign 46 = .ok (.iload 4, 2) := by decide +kernel
theorem dX0_sign_48 : decode cX0_sign 48 = .ok (.invokevirtual 36, 3) := by decide +kernel
theorem dX0_sign_51 : decode cX0_sign 51 = .ok (.iload 5, 2) := by decide +kernel
theorem dX0_sign_53 : decode cX0_sign 53 = .ok (.invokestatic 71, 3) := by decide +kernel
theorem dX0_sign_56 : decode cX0_sign 56 = .ok (.iadd, 1) := by decide +kernel
theorem dX0_sign_57 : decode cX0_sign 57 = .ok (.goto 5, 3) := by decide +kernel
theorem dX0_sign_60 : decode cX0_sign 60 = .ok (.bipush 45, 2) := by decide +kernel
theorem dX0_sign_62 : decode cX0_sign 62 = .ok (.ireturn, 1) := by decide +kernel
def fX0_sign (s : Mem) (p0 : Int32) (p1 : Int32) (p2 : Int32) : Option Int32 :=
  (fX0_courseOf s p0 p1).bind (fun y1 => if p2 = (0 : Int32) then some (32 : Int32) else if p2 = (1 : Int32) then some (((97 : Int32) + y1)) else lt (p2 - (2 : Int32)) (fun x2 => (fX0_counts s y1 x2).bind (fun y3 => if y3 = (0 : Int32) then some (45 : Int32) else (fX0_sits s p0 y1).bind (fun y4 => (fX0_partOf y4 x2).bind (fun y5 => some (((48 : Int32) + y5)))))))
set_option maxRecDepth 4000 in
theorem jjX0_sign {X : Scr} (d : Nat) (s : Mem) (p0 : Int32) (p1 : Int32) (p2 : Int32) {r : Int32} {w : Option Value} {s' : Mem} (hh : fX0_sign s p0 p1 p2 = some r) (hk : w = some (.int r) ∧ s = s') : J X MX0_sign (d + 2) 0 [some (.ref 1), some (.int p0), some (.int p1), some (.int p2), none, none] [] s w s' := by
  unfold fX0_sign at hh
  refine J_aload_n (pc := 0) dX0_sign_0 rfl ?_
  refine J_iload_n (pc := 1) dX0_sign_1 rfl ?_
  refine J_iload_n (pc := 2) dX0_sign_2 rfl ?_
  obtain ⟨y1, hy1, hh⟩ := bd_some hh
  refine J_callVi (pc := 3) (M' := MX0_courseOf) (a := 1) (rest := []) (As := [.int p0, .int p1]) (L0 := [some (.ref 1), some (.int p0), some (.int p1), none, none]) okX0_courseOf ovX0_courseOf mlX0_108 clX0 so1 rfl rfl (Nat.le_of_ble_eq_true rfl) dX0_sign_3 rfl (Nat.le_of_ble_eq_true rfl) (jX0_courseOf (X := X) d s p0 p1 hy1) ?_
  refine J_istore (pc := 6) (L' := [some (.ref 1), some (.int p0), some (.int p1), some (.int p2), some (.int y1), none]) dX0_sign_6 rfl (Nat.le_of_ble_eq_true rfl) rfl ?_
  refine J_iload_n (pc := 8) dX0_sign_8 rfl ?_
  refine J_if_ne (pc := 9) 15 dX0_sign_9 (by decide) (fun c8 => ?_) (fun c8 => ?_)
  · replace hh := (if_neg c8).symm.trans hh
    refine J_iload_n (pc := 15) dX0_sign_15 rfl ?_
    refine J_iconst (pc := 16) dX0_sign_16 ci_1 ?_
    refine J_icmp_ne (pc := 17) 26 dX0_sign_17 (by decide) (fun c7 => ?_) (fun c7 => ?_)
    · replace hh := (if_neg c7).symm.trans hh
      refine J_iload_n (pc := 26) dX0_sign_26 rfl ?_
      refine J_iconst (pc := 27) dX0_sign_27 ci_2 ?_
      refine J_isub (pc := 28) dX0_sign_28 ?_
      refine J_istoreL (pc := 29) (fun x2 => [some (.ref 1), some (.int p0), some (.int p1), some (.int p2), some (.int y1), some (.int x2)]) dX0_sign_29 rfl (Nat.le_of_ble_eq_true rfl) (fun _ => rfl) hh (fun x2 hh => ?_)
      refine J_aload_n (pc := 31) dX0_sign_31 rfl ?_
      refine J_iload (pc := 32) dX0_sign_32 rfl ?_
      refine J_iload (pc := 34) dX0_sign_34 rfl ?_
      obtain ⟨y3, hy3, hh⟩ := bd_some hh
      refine J_callVi (pc := 36) (M' := MX0_counts) (a := 1) (rest := []) (As := [.int y1, .int x2]) (L0 := [some (.ref 1), some (.int y1), some (.int x2), none]) okX0_counts ovX0_counts mlX0_74 clX0 so1 rfl rfl (Nat.le_of_ble_eq_true rfl) dX0_sign_36 rfl (Nat.le_of_ble_eq_true rfl) (jX0_counts (X := X) (d + 1) s y1 x2 hy3) ?_
      refine J_if_eq (pc := 39) 60 dX0_sign_39 (by decide) (fun c6 => ?_) (fun c6 => ?_)
      · replace hh := (if_pos c6).symm.trans hh
        refine J_bipush (pc := 60) dX0_sign_60 cb_45 ?_
        obtain rfl := Option.some.inj hh
        obtain ⟨rfl, rfl⟩ := hk
        exact J_ret (w := some (.int (45 : Int32))) ⟨dX0_sign_62, _, rfl, rfl⟩
      · replace hh := (if_neg c6).symm.trans hh
        refine J_bipush (pc := 42) dX0_sign_42 cb_48 ?_
        refine J_aload_n (pc := 44) dX0_sign_44 rfl ?_
        refine J_iload_n (pc := 45) dX0_sign_45 rfl ?_
        refine J_iload (pc := 46) dX0_sign_46 rfl ?_
        obtain ⟨y4, hy4, hh⟩ := bd_some hh
        refine J_callVi (pc := 48) (M' := MX0_sits) (a := 1) (rest := [.int (48 : Int32)]) (As := [.int p0, .int y1]) (L0 := [some (.ref 1), some (.int p0), some (.int y1)]) okX0_sits ovX0_sits mlX0_36 clX0 so1 rfl rfl (Nat.le_of_ble_eq_true rfl) dX0_sign_48 rfl (Nat.le_of_ble_eq_true rfl) (jX0_sits (X := X) (d + 1) s p0 y1 hy4) ?_
        refine J_iload (pc := 51) dX0_sign_51 rfl ?_
        obtain ⟨y5, hy5, hh⟩ := bd_some hh
        refine J_callSi (pc := 53) (M' := MX0_partOf) (rest := [.int (48 : Int32)]) (As := [.int y4, .int x2]) (L0 := [some (.int y4), some (.int x2)]) okX0_partOf osX0_partOf mlX0_71 rfl rfl (Nat.le_of_ble_eq_true rfl) dX0_sign_53 rfl (Nat.le_of_ble_eq_true rfl) (jX0_partOf (X := X) (d + 1) s y4 x2 hy5) ?_
        refine J_iadd (pc := 56) dX0_sign_56 ?_
        refine J_goto (pc := 57) 62 dX0_sign_57 (by decide) ?_
        obtain rfl := Option.some.inj hh
        obtain ⟨rfl, rfl⟩ := hk
        exact J_ret (w := some (.int ((48 : Int32) + y5))) ⟨dX0_sign_62, _, rfl, rfl⟩
    · replace hh := (if_pos c7).symm.trans hh
      refine J_bipush (pc := 20) dX0_sign_20 cb_97 ?_
      refine J_iload (pc := 22) dX0_sign_22 rfl ?_
      refine J_iadd (pc := 24) dX0_sign_24 ?_
      obtain rfl := Option.some.inj hh
      obtain ⟨rfl, rfl⟩ := hk
      exact J_ret (w := some (.int ((97 : Int32) + y1))) ⟨dX0_sign_25, _, rfl, rfl⟩
  · replace hh := (if_pos c8).symm.trans hh
    refine J_bipush (pc := 12) dX0_sign_12 cb_32 ?_
    obtain rfl := Option.some.inj hh
    obtain ⟨rfl, rfl⟩ := hk
    exact J_ret (w := some (.int (32 : Int32))) ⟨dX0_sign_14, _, rfl, rfl⟩
theorem jX0_sign {X : Scr} (d : Nat) (s : Mem) (p0 : Int32) (p1 : Int32) (p2 : Int32) {r : Int32} (hh : fX0_sign s p0 p1 p2 = some r) : J X MX0_sign (d + 2) 0 [some (.ref 1), some (.int p0), some (.int p1), some (.int p2), none, none] [] s (some (.int r)) s := jjX0_sign d s p0 p1 p2 hh ⟨rfl, rfl⟩
