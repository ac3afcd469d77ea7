theorem dX7_seed_0 : decode cX7_seed 0 = .ok (.aload_n 0, 1) := by decide +kernel
theorem dX7_seed_1 : decode cX7_seed 1 = .ok (.getfield 18, 3) := by decide +kernel
theorem dX7_seed_4 : decode cX7_seed 4 = .ok (.istore_n 2, 1) := by decide +kernel
theorem dX7_seed_5 : decode cX7_seed 5 = .ok (.aload_n 0, 1) := by decide +kernel
theorem dX7_seed_6 : decode cX7_seed 6 = .ok (.iload_n 1, 1) := by decide +kernel
theorem dX7_seed_7 : decode cX7_seed 7 = .ok (.putfield 18, 3) := by decide +kernel
theorem dX7_seed_10 : decode cX7_seed 10 = .ok (.iload_n 2, 1) := by decide +kernel
theorem dX7_seed_11 : decode cX7_seed 11 = .ok (.ireturn, 1) := by decide +kernel
def fX7_seed (s : Mem) (p0 : Int32) : Option (Int32 × Mem) :=
  lt (s.1 19 4) (fun x1 => lt (up2 s 19 4 p0) (fun s2 => some ((x1, s2))))
set_option maxRecDepth 4000 in
theorem jjX7_seed {X : Scr} (d : Nat) (s : Mem) (p0 : Int32) {r : (Int32 × Mem)} {w : Option Value} {s' : Mem} (hh : fX7_seed s p0 = some r) (hk : w = some (.int r.1) ∧ r.2 = s') : J X MX7_seed (d + 0) 0 [some (.ref 19), some (.int p0), none] [] s w s' := by
  unfold fX7_seed at hh
  refine J_aload_n (pc := 0) dX7_seed_0 rfl ?_
  refine J_getI (pc := 1) (k := 4) flX7_18 so19 fk19_4 dX7_seed_1 ?_
  refine J_istoreL_n (pc := 4) (fun x1 => [some (.ref 19), some (.int p0), some (.int x1)]) dX7_seed_4 rfl (Nat.le_of_ble_eq_true rfl) (fun _ => rfl) hh (fun x1 hh => ?_)
  refine J_aload_n (pc := 5) dX7_seed_5 rfl ?_
  refine J_iload_n (pc := 6) dX7_seed_6 rfl ?_
  refine J_putIL (pc := 7) (k := 4) fpX7_18 so19 fk19_4 rfl rfl dX7_seed_7 hh (fun s2 hh => ?_)
  refine J_iload_n (pc := 10) dX7_seed_10 rfl ?_
  obtain rfl := Option.some.inj hh
  obtain ⟨rfl, rfl⟩ := hk
  exact J_ret (w := some (.int x1)) ⟨dX7_seed_11, _, rfl, rfl⟩
theorem jX7_seed {X : Scr} (d : Nat) (s : Mem) (p0 : Int32) {r : (Int32 × Mem)} (hh : fX7_seed s p0 = some r) : J X MX7_seed (d + 0) 0 [some (.ref 19), some (.int p0), none] [] s (some (.int r.1)) r.2 := jjX7_seed d s p0 hh ⟨rfl, rfl⟩
theorem dX7_feed_0 : decode cX7_feed 0 = .ok (.iload_n 2, 1) := by decide +kernel
theorem dX7_feed_1 : decode cX7_feed 1 = .ok (.i2l, 1) := by decide +kernel
theorem dX7_feed_2 : decode cX7_feed 2 = .ok (.lconst 1, 1) := by decide +kernel
theorem dX7_feed_3 : decode cX7_feed 3 = .ok (.ldc2_w 232, 3) := by decide +kernel
theorem dX7_feed_6 : decode cX7_feed 6 = .ok (.invokestatic 63, 3) := by decide +kernel
theorem dX7_feed_9 : decode cX7_feed 9 = .ok (.ifCond .ne 9, 3) := by decide +kernel
theorem dX7_feed_12 : decode cX7_feed 12 = .ok (.aload_n 0, 1) := by decide +kernel
theorem dX7_feed_13 : decode cX7_feed 13 = .ok (.iconst 0, 1) := by decide +kernel
theorem dX7_feed_14 : decode cX7_feed 14 = .ok (.invokevirtual 158, 3) := by decide +kernel
theorem dX7_feed_17 : decode cX7_feed 17 = .ok (.ireturn, 1) := by decide +kernel
theorem dX7_feed_18 : decode cX7_feed 18 = .ok (.aload_n 0, 1) := by decide +kernel
theorem dX7_feed_19 : decode cX7_feed 19 = .ok (.getfield 310, 3) := by decide +kernel
theorem dX7_feed_22 : decode cX7_feed 22 = .ok (.iload_n 2, 1) := by decide +kernel
theorem dX7_feed_23 : decode cX7_feed 23 = .ok (.iadd, 1) := by decide +kernel
theorem dX7_feed_24 : decode cX7_feed 24 = .ok (.bipush 120, 2) := by decide +kernel
theorem dX7_feed_26 : decode cX7_feed 26 = .ok (.if_icmp .le 9, 3) := by decide +kernel
theorem dX7_feed_29 : decode cX7_feed 29 = .ok (.aload_n 0, 1) := by decide +kernel
theorem dX7_feed_30 : decode cX7_feed 30 = .ok (.iconst 1, 1) := by decide +kernel
theorem dX7_feed_31 : decode cX7_feed 31 = .ok (.invokevirtual 158, 3) := by decide +kernel
theorem dX7_feed_34 : decode cX7_feed 34 = .ok (.ireturn, 1) := by decide +kernel
theorem dX7_feed_35 : decode cX7_feed 35 = .ok (.iload_n 2, 1) := by decide +kernel
theorem dX7_feed_36 : decode cX7_feed 36 = .ok (.iconst 1, 1) := by decide +kernel
theorem dX7_feed_37 : decode cX7_feed 37 = .ok (.isub, 1) := by decide +kernel
theorem dX7_feed_38 : decode cX7_feed 38 = .ok (.istore_n 3, 1) := by decide +kernel
theorem dX7_feed_39 : decode cX7_feed 39 = .ok (.iload_n 3, 1) := by decide +kernel
theorem dX7_feed_40 : decode cX7_feed 40 = .ok (.ifCond .lt 38, 3) := by decide +kernel
theorem dX7_feed_43 : decode cX7_feed 43 = .ok (.aload_n 0, 1) := by decide +kernel
theorem dX7_feed_44 : decode cX7_feed 44 = .ok (.getfield 40, 3) := by decide +kernel
theorem dX7_feed_47 : decode cX7_feed 47 = .ok (.aload_n 0, 1) := by decide +kernel
theorem dX7_feed_48 : decode cX7_feed 48 = .ok (.getfield 310, 3) := by decide +kernel
theorem dX7_feed_51 : decode cX7_feed 51 = .ok (.iload_n 1, 1) := by decide +kernel
theorem dX7_feed_52 : decode cX7_feed 52 = .ok (.bipush 8, 2) := by decide +kernel
theorem dX7_feed_54 : decode cX7_feed 54 = .ok (.iload_n 3, 1) := by decide +kernel
theorem dX7_feed_55 : decode cX7_feed 55 = .ok (.imul, 1) := by decide +kernel
theorem dX7_feed_56 : decode cX7_feed 56 = .ok (.ishr, 1) := by decide +kernel
theorem dX7_feed_57 : decode cX7_feed 57 = .ok (.sipush 255, 3) := by decide +kernel
theorem dX7_feed_60 : decode cX7_feed 60 = .ok (.iand, 1) := by decide +kernel
theorem dX7_feed_61 : decode cX7_feed 61 = .ok (.iastore, 1) := by decide +kernel
theorem dX7_feed_62 : decode cX7_feed 62 = .ok (.aload_n 0, 1) := by decide +kernel
theorem dX7_feed_63 : decode cX7_feed 63 = .ok (.dup, 1) := by decide +kernel
theorem dX7_feed_64 : decode cX7_feed 64 = .ok (.getfield 310, 3) := by decide +kernel
theorem dX7_feed_67 : decode cX7_feed 67 = .ok (.iconst 1, 1) := by decide +kernel
theorem dX7_feed_68 : decode cX7_feed 68 = .ok (.iadd, 1) := by decide +kernel
theorem dX7_feed_69 : decode cX7_feed 69 = .ok (.putfield 310, 3) := by decide +kernel
theorem dX7_feed_72 : decode cX7_feed 72 = .ok (.iinc 3 (-1), 3) := by decide +kernel
theorem dX7_feed_75 : decode cX7_feed 75 = .ok (.goto (-36), 3) := by decide +kernel
theorem dX7_feed_78 : decode cX7_feed 78 = .ok (.aload_n 0, 1) := by decide +kernel
theorem dX7_feed_79 : decode cX7_feed 79 = .ok (.getfield 310, 3) := by decide +kernel
theorem dX7_feed_82 : decode cX7_feed 82 = .ok (.ireturn, 1) := by decide +kernel
def bX7_feed_39 (s : Mem) (v1 : Int32) (v3 : Int32) : Option (Mem ⊕ (Int32 × Mem)) :=
  if v3 < (0 : Int32) then some (Sum.inl s) else gd (s.1 19 19) 120 (lt (up2 s 28 (s.1 19 19).toNatClampNeg ((v1 >>> (((8 : Int32) * v3) &&& 31)) &&& (255 : Int32))) (fun s4 => lt (up2 s4 19 19 ((s4.1 19 19) + (1 : Int32))) (fun s5 => lt (v3 + (-1 : Int32)) (fun x6 => some (Sum.inr (x6, s5))))))
set_option maxRecDepth 4000 in
theorem jbX7_feed_39 {X : Scr} (d : Nat) (s : Mem) (v1 : Int32) (v3 : Int32) {r : (Mem ⊕ (Int32 × Mem))} {w : Option Value} {s' : Mem} (hh : bX7_feed_39 s v1 v3 = some r) (hk : Sum.elim (fun t : Mem => J X MX7_feed (d + 1) 78 [some (.ref 19), none, none, none] [] t w s') (fun a : (Int32 × Mem) => J X MX7_feed (d + 1) 39 [some (.ref 19), some (.int v1), none, some (.int a.1)] [] a.2 w s') r) : J X MX7_feed (d + 1) 39 [some (.ref 19), some (.int v1), none, some (.int v3)] [] s w s' := by
  unfold bX7_feed_39 at hh
  refine J_iload_n (pc := 39) dX7_feed_39 rfl ?_
  refine J_if_lt (pc := 40) 78 dX7_feed_40 (by decide) (fun c7 => ?_) (fun c7 => ?_)
  · replace hh := (if_pos c7).symm.trans hh
    refine J_drop 1 (L' := [some (.ref 19), none, none, some (.int v3)]) rfl ?_
    refine J_drop 3 (L' := [some (.ref 19), none, none, none]) rfl ?_
    obtain rfl := Option.some.inj hh
    exact hk
  · replace hh := (if_neg c7).symm.trans hh
    refine J_aload_n (pc := 43) dX7_feed_43 rfl ?_
    refine J_getR (pc := 44) (k := 18) flX7_40 so19 fk19_18 dX7_feed_44 ?_
    refine J_aload_n (pc := 47) dX7_feed_47 rfl ?_
    refine J_getI (pc := 48) (k := 19) flX7_310 so19 fk19_19 dX7_feed_48 ?_
    refine J_iload_n (pc := 51) dX7_feed_51 rfl ?_
    refine J_bipush (pc := 52) dX7_feed_52 cb_8 ?_
    refine J_iload_n (pc := 54) dX7_feed_54 rfl ?_
    refine J_imul (pc := 55) dX7_feed_55 ?_
    refine J_ishr (pc := 56) dX7_feed_56 ?_
    refine J_sipush (pc := 57) dX7_feed_57 cs_255 ?_
    refine J_iand (pc := 60) dX7_feed_60 ?_
    obtain ⟨h3, hh⟩ := gd_some hh
    refine J_iastL (pc := 61) dX7_feed_61 sa28 h3 hh (fun s4 hh => ?_)
    refine J_aload_n (pc := 62) dX7_feed_62 rfl ?_
    refine J_dup (pc := 63) dX7_feed_63 rfl ?_
    refine J_getI (pc := 64) (k := 19) flX7_310 so19 fk19_19 dX7_feed_64 ?_
    refine J_iconst (pc := 67) dX7_feed_67 ci_1 ?_
    refine J_iadd (pc := 68) dX7_feed_68 ?_
    refine J_putIL (pc := 69) (k := 19) fpX7_310 so19 fk19_19 rfl rfl dX7_feed_69 hh (fun s5 hh => ?_)
    refine J_iincL (pc := 72) (v := v3 + (-1 : Int32)) (fun x6 => [some (.ref 19), some (.int v1), none, some (.int x6)]) dX7_feed_72 rfl rfl (Nat.le_of_ble_eq_true rfl) (congrArg _ ci_m1) (fun _ => rfl) hh (fun x6 hh => ?_)
    refine J_goto (pc := 75) 39 dX7_feed_75 (by decide) ?_
    obtain rfl := Option.some.inj hh
    exact hk
def fX7_feed (s : Mem) (p0 : Int32) (p1 : Int32) : Option (Int32 × Mem) :=
  (fX7_in (p1.toInt64) (1 : Int64) (4 : Int64)).bind (fun y1 => if y1 = (0 : Int32) then (fX7_finds s (0 : Int32)).bind (fun y11 => some ((y11.1, y11.2))) else if ((s.1 19 19) + p1) ≤ (120 : Int32) then lt (p1 - (1 : Int32)) (fun x2 => (lp (fun a => bX7_feed_39 a.2 p0 a.1) 600 (x2, s)).bind (fun y8 => some ((y8.1 19 19, y8)))) else (fX7_finds s (1 : Int32)).bind (fun y9 => some ((y9.1, y9.2))))
set_option maxRecDepth 4000 in
theorem jjX7_feed {X : Scr} (d : Nat) (s : Mem) (p0 : Int32) (p1 : Int32) {r : (Int32 × Mem)} {w : Option Value} {s' : Mem} (hh : fX7_feed s p0 p1 = some r) (hk : w = some (.int r.1) ∧ r.2 = s') : J X MX7_feed (d + 1) 0 [some (.ref 19), some (.int p0), some (.int p1), none] [] s w s' := by
  unfold fX7_feed at hh
  refine J_iload_n (pc := 0) dX7_feed_0 rfl ?_
  refine J_i2l (pc := 1) dX7_feed_1 ?_
  refine J_lconst (pc := 2) (v := 1) dX7_feed_2 rfl ?_
  refine J_ldc2 (pc := 3) klX7_232 dX7_feed_3 ?_
  obtain ⟨y1, hy1, hh⟩ := bd_some hh
  refine J_callSi (pc := 6) (M' := MX7_in) (rest := []) (As := [.long (p1.toInt64), .long (1 : Int64), .long (4 : Int64)]) (L0 := [some (.long (p1.toInt64)), none, some (.long (1 : Int64)), none, some (.long (4 : Int64)), none]) okX7_in osX7_in mlX7_63 rfl rfl (Nat.le_of_ble_eq_true rfl) dX7_feed_6 rfl (Nat.le_of_ble_eq_true rfl) (jX7_in (X := X) d s (p1.toInt64) (1 : Int64) (4 : Int64) hy1) ?_
  refine J_if_ne (pc := 9) 18 dX7_feed_9 (by decide) (fun c12 => ?_) (fun c12 => ?_)
  · replace hh := (if_neg c12).symm.trans hh
    refine J_aload_n (pc := 18) dX7_feed_18 rfl ?_
    refine J_getI (pc := 19) (k := 19) flX7_310 so19 fk19_19 dX7_feed_19 ?_
    refine J_iload_n (pc := 22) dX7_feed_22 rfl ?_
    refine J_iadd (pc := 23) dX7_feed_23 ?_
    refine J_bipush (pc := 24) dX7_feed_24 cb_120 ?_
    refine J_icmp_le (pc := 26) 35 dX7_feed_26 (by decide) (fun c10 => ?_) (fun c10 => ?_)
    · replace hh := (if_pos c10).symm.trans hh
      refine J_iload_n (pc := 35) dX7_feed_35 rfl ?_
      refine J_iconst (pc := 36) dX7_feed_36 ci_1 ?_
      refine J_isub (pc := 37) dX7_feed_37 ?_
      refine J_istoreL_n (pc := 38) (fun x2 => [some (.ref 19), some (.int p0), some (.int p1), some (.int x2)]) dX7_feed_38 rfl (Nat.le_of_ble_eq_true rfl) (fun _ => rfl) hh (fun x2 hh => ?_)
      refine J_drop 2 (L' := [some (.ref 19), some (.int p0), none, some (.int x2)]) rfl ?_
      obtain ⟨y8, hy8, hh⟩ := bd_some hh
      refine J_lp (a := (x2, s)) (fun a : (Int32 × Mem) => J X MX7_feed (d + 1) 39 [some (.ref 19), some (.int p0), none, some (.int a.1)] [] a.2 w s') (fun t : Mem => J X MX7_feed (d + 1) 78 [some (.ref 19), none, none, none] [] t w s') (fun a q h1 h2 => jbX7_feed_39 d a.2 p0 a.1 h1 h2) hy8 ?_
      refine J_aload_n (pc := 78) dX7_feed_78 rfl ?_
      refine J_getI (pc := 79) (k := 19) flX7_310 so19 fk19_19 dX7_feed_79 ?_
      obtain rfl := Option.some.inj hh
      obtain ⟨rfl, rfl⟩ := hk
      exact J_ret (w := some (.int (y8.1 19 19))) ⟨dX7_feed_82, _, rfl, rfl⟩
    · replace hh := (if_neg c10).symm.trans hh
      refine J_aload_n (pc := 29) dX7_feed_29 rfl ?_
      refine J_iconst (pc := 30) dX7_feed_30 ci_1 ?_
      obtain ⟨y9, hy9, hh⟩ := bd_some hh
      refine J_callVi (pc := 31) (M' := MX7_finds) (a := 19) (rest := []) (As := [.int (1 : Int32)]) (L0 := [some (.ref 19), some (.int (1 : Int32))]) okX7_finds ovX7_finds mlX7_158 clX7 so19 rfl rfl (Nat.le_of_ble_eq_true rfl) dX7_feed_31 rfl (Nat.le_of_ble_eq_true rfl) (jX7_finds (X := X) d s (1 : Int32) hy9) ?_
      obtain rfl := Option.some.inj hh
      obtain ⟨rfl, rfl⟩ := hk
      exact J_ret (w := some (.int y9.1)) ⟨dX7_feed_34, _, rfl, rfl⟩
  · replace hh := (if_pos c12).symm.trans hh
    refine J_aload_n (pc := 12) dX7_feed_12 rfl ?_
    refine J_iconst (pc := 13) dX7_feed_13 ci_0 ?_
    obtain ⟨y11, hy11, hh⟩ := bd_some hh
    refine J_callVi (pc := 14) (M' := MX7_finds) (a := 19) (rest := []) (As := [.int (0 : Int32)]) (L0 := [some (.ref 19), some (.int (0 : Int32))]) okX7_finds ovX7_finds mlX7_158 clX7 so19 rfl rfl (Nat.le_of_ble_eq_true rfl) dX7_feed_14 rfl (Nat.le_of_ble_eq_true rfl) (jX7_finds (X := X) d s (0 : Int32) hy11) ?_
    obtain rfl := Option.some.inj hh
    obtain ⟨rfl, rfl⟩ := hk
    exact J_ret (w := some (.int y11.1)) ⟨dX7_feed_17, _, rfl, rfl⟩
theorem jX7_feed {X : Scr} (d : Nat) (s : Mem) (p0 : Int32) (p1 : Int32) {r : (Int32 × Mem)} (hh : fX7_feed s p0 p1 = some r) : J X MX7_feed (d + 1) 0 [some (.ref 19), some (.int p0), some (.int p1), none] [] s (some (.int r.1)) r.2 := jjX7_feed d s p0 p1 hh ⟨rfl, rfl⟩
theorem dX7_wipe_0 : decode cX7_wipe 0 = .ok (.aload_n 0, 1) := by decide +kernel
theorem dX7_wipe_1 : decode cX7_wipe 1 = .ok (.getfield 310, 3) := by decide +kernel
theorem dX7_wipe_4 : decode cX7_wipe 4 = .ok (.istore_n 1, 1) := by decide +kernel
theorem dX7_wipe_5 : decode cX7_wipe 5 = .ok (.aload_n 0, 1) := by decide +kernel
theorem dX7_wipe_6 : decode cX7_wipe 6 = .ok (.iconst 0, 1) := by decide +kernel
theorem dX7_wipe_7 : decode cX7_wipe 7 = .ok (.putfield 310, 3) := by decide +kernel
theorem dX7_wipe_10 : decode cX7_wipe 10 = .ok (.iload_n 1, 1) := by decide +kernel
theorem dX7_wipe_11 : decode cX7_wipe 11 = .ok (.ireturn, 1) := by decide +kernel
def fX7_wipe (s : Mem)  : Option (Int32 × Mem) :=
  lt (s.1 19 19) (fun x1 => lt (up2 s 19 19 (0 : Int32)) (fun s2 => some ((x1, s2))))
set_option maxRecDepth 4000 in
theorem jjX7_wipe {X : Scr} (d : Nat) (s : Mem)  {r : (Int32 × Mem)} {w : Option Value} {s' : Mem} (hh : fX7_wipe s = some r) (hk : w = some (.int r.1) ∧ r.2 = s') : J X MX7_wipe (d + 0) 0 [some (.ref 19), none] [] s w s' := by
  unfold fX7_wipe at hh
  refine J_aload_n (pc := 0) dX7_wipe_0 rfl ?_
  refine J_getI (pc := 1) (k := 19) flX7_310 so19 fk19_19 dX7_wipe_1 ?_
  refine J_istoreL_n (pc := 4) (fun x1 => [some (.ref 19), some (.int x1)]) dX7_wipe_4 rfl (Nat.le_of_ble_eq_true rfl) (fun _ => rfl) hh (fun x1 hh => ?_)
  refine J_aload_n (pc := 5) dX7_wipe_5 rfl ?_
  refine J_iconst (pc := 6) dX7_wipe_6 ci_0 ?_
  refine J_putIL (pc := 7) (k := 19) fpX7_310 so19 fk19_19 rfl rfl dX7_wipe_7 hh (fun s2 hh => ?_)
  refine J_iload_n (pc := 10) dX7_wipe_10 rfl ?_
  obtain rfl := Option.some.inj hh
  obtain ⟨rfl, rfl⟩ := hk
  exact J_ret (w := some (.int x1)) ⟨dX7_wipe_11, _, rfl, rfl⟩
theorem jX7_wipe {X : Scr} (d : Nat) (s : Mem)  {r : (Int32 × Mem)} (hh : fX7_wipe s = some r) : J X MX7_wipe (d + 0) 0 [some (.ref 19), none] [] s (some (.int r.1)) r.2 := jjX7_wipe d s hh ⟨rfl, rfl⟩
theorem dX7_isBlank_0 : decode cX7_isBlank 0 = .ok (.aload_n 0, 1) := by decide +kernel
theorem dX7_isBlank_1 : decode cX7_isBlank 1 = .ok (.getfield 40, 3) := by decide +kernel
theorem dX7_isBlank_4 : decode cX7_isBlank 4 = .ok (.iload_n 1, 1) := by decide +kernel
theorem dX7_isBlank_5 : decode cX7_isBlank 5 = .ok (.iaload, 1) := by decide +kernel
theorem dX7_isBlank_6 : decode cX7_isBlank 6 = .ok (.bipush 32, 2) := by decide +kernel
theorem dX7_isBlank_8 : decode cX7_isBlank 8 = .ok (.if_icmp .ne 7, 3) := by decide +kernel
theorem dX7_isBlank_11 : decode cX7_isBlank 11 = .ok (.iconst 1, 1) := by decide +kernel
theorem dX7_isBlank_12 : decode cX7_isBlank 12 = .ok (.goto 4, 3) := by decide +kernel
theorem dX7_isBlank_15 : decode cX7_isBlank 15 = .ok (.iconst 0, 1) := by decide +kernel
theorem dX7_isBlank_16 : decode cX7_isBlank 16 = .ok (.ireturn, 1) := by decide +kernel
def fX7_isBlank (s : Mem) (p0 : Int32) : Option Int32 :=
  gd p0 120 (if (s.1 28 p0.toNatClampNeg) = (32 : Int32) then some (1 : Int32) else some (0 : Int32))
set_option maxRecDepth 4000 in
theorem jjX7_isBlank {X : Scr} (d : Nat) (s : Mem) (p0 : Int32) {r : Int32} {w : Option Value} {s' : Mem} (hh : fX7_isBlank s p0 = some r) (hk : w = some (.int r) ∧ s = s') : J X MX7_isBlank (d + 0) 0 [some (.ref 19), some (.int p0)] [] s w s' := by
  unfold fX7_isBlank at hh
  refine J_aload_n (pc := 0) dX7_isBlank_0 rfl ?_
  refine J_getR (pc := 1) (k := 18) flX7_40 so19 fk19_18 dX7_isBlank_1 ?_
  refine J_iload_n (pc := 4) dX7_isBlank_4 rfl ?_
  obtain ⟨h1, hh⟩ := gd_some hh
  refine J_iald (pc := 5) dX7_isBlank_5 sa28 h1 ?_
  refine J_bipush (pc := 6) dX7_isBlank_6 cb_32 ?_
  refine J_icmp_ne (pc := 8) 15 dX7_isBlank_8 (by decide) (fun c2 => ?_) (fun c2 => ?_)
  · replace hh := (if_neg c2).symm.trans hh
    refine J_iconst (pc := 15) dX7_isBlank_15 ci_0 ?_
    obtain rfl := Option.some.inj hh
    obtain ⟨rfl, rfl⟩ := hk
    exact J_ret (w := some (.int (0 : Int32))) ⟨dX7_isBlank_16, _, rfl, rfl⟩
  · replace hh := (if_pos c2).symm.trans hh
    refine J_iconst (pc := 11) dX7_isBlank_11 ci_1 ?_
    refine J_goto (pc := 12) 16 dX7_isBlank_12 (by decide) ?_
    obtain rfl := Option.some.inj hh
    obtain ⟨rfl, rfl⟩ := hk
    exact J_ret (w := some (.int (1 : Int32))) ⟨dX7_isBlank_16, _, rfl, rfl⟩
theorem jX7_isBlank {X : Scr} (d : Nat) (s : Mem) (p0 : Int32) {r : Int32} (hh : fX7_isBlank s p0 = some r) : J X MX7_isBlank (d + 0) 0 [some (.ref 19), some (.int p0)] [] s (some (.int r)) s := jjX7_isBlank d s p0 hh ⟨rfl, rfl⟩
theorem dX7_goesOn_0 : decode cX7_goesOn 0 = .ok (.aload_n 0, 1) := by decide +kernel
theorem dX7_goesOn_1 : decode cX7_goesOn 1 = .ok (.getfield 313, 3) := by decide +kernel
theorem dX7_goesOn_4 : decode cX7_goesOn 4 = .ok (.ifCond .lt 4, 3) := by decide +kernel
theorem dX7_goesOn_7 : decode cX7_goesOn 7 = .ok (.return_, 1) := by decide +kernel
theorem dX7_goesOn_8 : decode cX7_goesOn 8 = .ok (.aload_n 0, 1) := by decide +kernel
theorem dX7_goesOn_9 : decode cX7_goesOn 9 = .ok (.aload_n 0, 1) := by decide +kernel
theorem dX7_goesOn_10 : decode cX7_goesOn 10 = .ok (.getfield 316, 3) := by decide +kernel
theorem dX7_goesOn_13 : decode cX7_goesOn 13 = .ok (.putfield 319, 3) := by decide +kernel
theorem dX7_goesOn_16 : decode cX7_goesOn 16 = .ok (.aload_n 0, 1) := by decide +kernel
theorem dX7_goesOn_17 : decode cX7_goesOn 17 = .ok (.getfield 319, 3) := by decide +kernel
theorem dX7_goesOn_20 : decode cX7_goesOn 20 = .ok (.aload_n 0, 1) := by decide +kernel
theorem dX7_goesOn_21 : decode cX7_goesOn 21 = .ok (.getfield 310, 3) := by decide +kernel
theorem dX7_goesOn_24 : decode cX7_goesOn 24 = .ok (.if_icmp .ge 27, 3) := by decide +kernel
theorem dX7_goesOn_27 : decode cX7_goesOn 27 = .ok (.aload_n 0, 1) := by decide +kernel
theorem dX7_goesOn_28 : decode cX7_goesOn 28 = .ok (.aload_n 0, 1) := by decide +kernel
theorem dX7_goesOn_29 : decode cX7_goesOn 29 = .ok (.getfield 319, 3) := by decide +kernel
theorem dX7_goesOn_32 : decode cX7_goesOn 32 = .ok (.invokevirtual 322, 3) := by decide +kernel
theorem dX7_goesOn_35 : decode cX7_goesOn 35 = .ok (.ifCond .eq 16, 3) := by decide +kernel
theorem dX7_goesOn_38 : decode cX7_goesOn 38 = .ok (.aload_n 0, 1) := by decide +kernel
theorem dX7_goesOn_39 : decode cX7_goesOn 39 = .ok (.dup, 1) := by decide +kernel
theorem dX7_goesOn_40 : decode cX7_goesOn 40 = .ok (.getfield 319, 3) := by decide +kernel
theorem dX7_goesOn_43 : decode cX7_goesOn 43 = .ok (.iconst 1, 1) := by decide +kernel
theorem dX7_goesOn_44 : decode cX7_goesOn 44 = .ok (.iadd, 1) := by decide +kernel
theorem dX7_goesOn_45 : decode cX7_goesOn 45 = .ok (.putfield 319, 3) := by decide +kernel
theorem dX7_goesOn_48 : decode cX7_goesOn 48 = .ok (.goto (-32), 3) := by decide +kernel
theorem dX7_goesOn_51 : decode cX7_goesOn 51 = .ok (.aload_n 0, 1) := by decide +kernel
theorem dX7_goesOn_52 : decode cX7_goesOn 52 = .ok (.aload_n 0, 1) := by decide +kernel
theorem dX7_goesOn_53 : decode cX7_goesOn 53 = .ok (.getfield 319, 3) := by decide +kernel
theorem dX7_goesOn_56 : decode cX7_goesOn 56 = .ok (.putfield 316, 3) := by decide +kernel
theorem dX7_goesOn_59 : decode cX7_goesOn 59 = .ok (.aload_n 0, 1) := by decide +kernel
theorem dX7_goesOn_60 : decode cX7_goesOn 60 = .ok (.getfield 316, 3) := by decide +kernel
theorem dX7_goesOn_63 : decode cX7_goesOn 63 = .ok (.aload_n 0, 1) := by decide +kernel
theorem dX7_goesOn_64 : decode cX7_goesOn 64 = .ok (.getfield 310, 3) := by decide +kernel
theorem dX7_goesOn_67 : decode cX7_goesOn 67 = .ok (.if_icmp .ge 27, 3) := by decide +kernel
theorem dX7_goesOn_70 : decode cX7_goesOn 70 = .ok (.aload_n 0, 1) := by decide +kernel
theorem dX7_goesOn_71 : decode cX7_goesOn 71 = .ok (.aload_n 0, 1) := by decide +kernel
theorem dX7_goesOn_72 : decode cX7_goesOn 72 = .ok (.getfield 316, 3) := by decide +kernel
theorem dX7_goesOn_75 : decode cX7_goesOn 75 = .ok (.invokevirtual 322, 3) := by decide +kernel
theorem dX7_goesOn_78 : decode cX7_goesOn 78 = .ok (.ifCond .ne 16, 3) := by decide +kernel
theorem dX7_goesOn_81 : decode cX7_goesOn 81 = .ok (.aload_n 0, 1) := by decide +kernel
theorem dX7_goesOn_82 : decode cX7_goesOn 82 = .ok (.dup, 1) := by decide +kernel
theorem dX7_goesOn_83 : decode cX7_goesOn 83 = .ok (.getfield 316, 3) := by decide +kernel
theorem dX7_goesOn_86 : decode cX7_goesOn 86 = .ok (.iconst 1, 1) := by decide +kernel
theorem dX7_goesOn_87 : decode cX7_goesOn 87 = .ok (.iadd, 1) := by decide +kernel
theorem dX7_goesOn_88 : decode cX7_goesOn 88 = .ok (.putfield 316, 3) := by decide +kernel
theorem dX7_goesOn_91 : decode cX7_goesOn 91 = .ok (.goto (-32), 3) := by decide +kernel
theorem dX7_goesOn_94 : decode cX7_goesOn 94 = .ok (.return_, 1) := by decide +kernel
def bX7_goesOn_16 (s : Mem)  : Option (Mem ⊕ Mem) :=
  if (s.1 19 19) ≤ (s.1 19 20) then some (Sum.inl s) else (fX7_isBlank s (s.1 19 20)).bind (fun y2 => if y2 = (0 : Int32) then some (Sum.inl s) else lt (up2 s 19 20 ((s.1 19 20) + (1 : Int32))) (fun s3 => some (Sum.inr s3)))
set_option maxRecDepth 4000 in
theorem jbX7_goesOn_16 {X : Scr} (d : Nat) (s : Mem)  {r : (Mem ⊕ Mem)} {w : Option Value} {s' : Mem} (hh : bX7_goesOn_16 s = some r) (hk : Sum.elim (fun t : Mem => J X MX7_goesOn (d + 1) 51 [some (.ref 19)] [] t w s') (fun a : Mem => J X MX7_goesOn (d + 1) 16 [some (.ref 19)] [] a w s') r) : J X MX7_goesOn (d + 1) 16 [some (.ref 19)] [] s w s' := by
  unfold bX7_goesOn_16 at hh
  refine J_aload_n (pc := 16) dX7_goesOn_16 rfl ?_
  refine J_getI (pc := 17) (k := 20) flX7_319 so19 fk19_20 dX7_goesOn_17 ?_
  refine J_aload_n (pc := 20) dX7_goesOn_20 rfl ?_
  refine J_getI (pc := 21) (k := 19) flX7_310 so19 fk19_19 dX7_goesOn_21 ?_
  refine J_icmp_ge (pc := 24) 51 dX7_goesOn_24 (by decide) (fun c5 => ?_) (fun c5 => ?_)
  · replace hh := (if_pos c5).symm.trans hh
    obtain rfl := Option.some.inj hh
    exact hk
  · replace hh := (if_neg c5).symm.trans hh
    refine J_aload_n (pc := 27) dX7_goesOn_27 rfl ?_
    refine J_aload_n (pc := 28) dX7_goesOn_28 rfl ?_
    refine J_getI (pc := 29) (k := 20) flX7_319 so19 fk19_20 dX7_goesOn_29 ?_
    obtain ⟨y2, hy2, hh⟩ := bd_some hh
    refine J_callVi (pc := 32) (M' := MX7_isBlank) (a := 19) (rest := []) (As := [.int (s.1 19 20)]) (L0 := [some (.ref 19), some (.int (s.1 19 20))]) okX7_isBlank ovX7_isBlank mlX7_322 clX7 so19 rfl rfl (Nat.le_of_ble_eq_true rfl) dX7_goesOn_32 rfl (Nat.le_of_ble_eq_true rfl) (jX7_isBlank (X := X) d s (s.1 19 20) hy2) ?_
    refine J_if_eq (pc := 35) 51 dX7_goesOn_35 (by decide) (fun c4 => ?_) (fun c4 => ?_)
    · replace hh := (if_pos c4).symm.trans hh
      obtain rfl := Option.some.inj hh
      exact hk
    · replace hh := (if_neg c4).symm.trans hh
      refine J_aload_n (pc := 38) dX7_goesOn_38 rfl ?_
      refine J_dup (pc := 39) dX7_goesOn_39 rfl ?_
      refine J_getI (pc := 40) (k := 20) flX7_319 so19 fk19_20 dX7_goesOn_40 ?_
      refine J_iconst (pc := 43) dX7_goesOn_43 ci_1 ?_
      refine J_iadd (pc := 44) dX7_goesOn_44 ?_
      refine J_putIL (pc := 45) (k := 20) fpX7_319 so19 fk19_20 rfl rfl dX7_goesOn_45 hh (fun s3 hh => ?_)
      refine J_goto (pc := 48) 16 dX7_goesOn_48 (by decide) ?_
      obtain rfl := Option.some.inj hh
      exact hk
def bX7_goesOn_59 (s : Mem)  : Option (Mem ⊕ Mem) :=
  if (s.1 19 19) ≤ (s.1 19 21) then some (Sum.inl s) else (fX7_isBlank s (s.1 19 21)).bind (fun y8 => if y8 = (0 : Int32) then lt (up2 s 19 21 ((s.1 19 21) + (1 : Int32))) (fun s9 => some (Sum.inr s9)) else some (Sum.inl s))
set_option maxRecDepth 4000 in
theorem jbX7_goesOn_59 {X : Scr} (d : Nat) (s : Mem)  {r : (Mem ⊕ Mem)} {w : Option Value} {s' : Mem} (hh : bX7_goesOn_59 s = some r) (hk : Sum.elim (fun t : Mem => J X MX7_goesOn (d + 1) 94 [none] [] t w s') (fun a : Mem => J X MX7_goesOn (d + 1) 59 [some (.ref 19)] [] a w s') r) : J X MX7_goesOn (d + 1) 59 [some (.ref 19)] [] s w s' := by
  unfold bX7_goesOn_59 at hh
  refine J_aload_n (pc := 59) dX7_goesOn_59 rfl ?_
  refine J_getI (pc := 60) (k := 21) flX7_316 so19 fk19_21 dX7_goesOn_60 ?_
  refine J_aload_n (pc := 63) dX7_goesOn_63 rfl ?_
  refine J_getI (pc := 64) (k := 19) flX7_310 so19 fk19_19 dX7_goesOn_64 ?_
  refine J_icmp_ge (pc := 67) 94 dX7_goesOn_67 (by decide) (fun c11 => ?_) (fun c11 => ?_)
  · replace hh := (if_pos c11).symm.trans hh
    refine J_drop 0 (L' := [none]) rfl ?_
    obtain rfl := Option.some.inj hh
    exact hk
  · replace hh := (if_neg c11).symm.trans hh
    refine J_aload_n (pc := 70) dX7_goesOn_70 rfl ?_
    refine J_aload_n (pc := 71) dX7_goesOn_71 rfl ?_
    refine J_getI (pc := 72) (k := 21) flX7_316 so19 fk19_21 dX7_goesOn_72 ?_
    obtain ⟨y8, hy8, hh⟩ := bd_some hh
    refine J_callVi (pc := 75) (M' := MX7_isBlank) (a := 19) (rest := []) (As := [.int (s.1 19 21)]) (L0 := [some (.ref 19), some (.int (s.1 19 21))]) okX7_isBlank ovX7_isBlank mlX7_322 clX7 so19 rfl rfl (Nat.le_of_ble_eq_true rfl) dX7_goesOn_75 rfl (Nat.le_of_ble_eq_true rfl) (jX7_isBlank (X := X) d s (s.1 19 21) hy8) ?_
    refine J_if_ne (pc := 78) 94 dX7_goesOn_78 (by decide) (fun c10 => ?_) (fun c10 => ?_)
    · replace hh := (if_neg c10).symm.trans hh
      refine J_drop 0 (L' := [none]) rfl ?_
      obtain rfl := Option.some.inj hh
      exact hk
    · replace hh := (if_pos c10).symm.trans hh
      refine J_aload_n (pc := 81) dX7_goesOn_81 rfl ?_
      refine J_dup (pc := 82) dX7_goesOn_82 rfl ?_
      refine J_getI (pc := 83) (k := 21) flX7_316 so19 fk19_21 dX7_goesOn_83 ?_
      refine J_iconst (pc := 86) dX7_goesOn_86 ci_1 ?_
      refine J_iadd (pc := 87) dX7_goesOn_87 ?_
      refine J_putIL (pc := 88) (k := 21) fpX7_316 so19 fk19_21 rfl rfl dX7_goesOn_88 hh (fun s9 hh => ?_)
      refine J_goto (pc := 91) 59 dX7_goesOn_91 (by decide) ?_
      obtain rfl := Option.some.inj hh
      exact hk
def fX7_goesOn (s : Mem)  : Option Mem :=
  if (s.1 19 22) < (0 : Int32) then lt (up2 s 19 20 (s.1 19 21)) (fun s1 => (lp (fun a => bX7_goesOn_16 a) 600 s1).bind (fun y6 => lt (up2 y6 19 21 (y6.1 19 20)) (fun s7 => (lp (fun a => bX7_goesOn_59 a) 600 s7).bind (fun y12 => some y12)))) else some s
set_option maxRecDepth 4000 in
theorem jjX7_goesOn {X : Scr} (d : Nat) (s : Mem)  {r : Mem} {w : Option Value} {s' : Mem} (hh : fX7_goesOn s = some r) (hk : w = none ∧ r = s') : J X MX7_goesOn (d + 1) 0 [some (.ref 19)] [] s w s' := by
  unfold fX7_goesOn at hh
  refine J_aload_n (pc := 0) dX7_goesOn_0 rfl ?_
  refine J_getI (pc := 1) (k := 22) flX7_313 so19 fk19_22 dX7_goesOn_1 ?_
  refine J_if_lt (pc := 4) 8 dX7_goesOn_4 (by decide) (fun c13 => ?_) (fun c13 => ?_)
  · replace hh := (if_pos c13).symm.trans hh
    refine J_aload_n (pc := 8) dX7_goesOn_8 rfl ?_
    refine J_aload_n (pc := 9) dX7_goesOn_9 rfl ?_
    refine J_getI (pc := 10) (k := 21) flX7_316 so19 fk19_21 dX7_goesOn_10 ?_
    refine J_putIL (pc := 13) (k := 20) fpX7_319 so19 fk19_20 rfl rfl dX7_goesOn_13 hh (fun s1 hh => ?_)
    obtain ⟨y6, hy6, hh⟩ := bd_some hh
    refine J_lp (a := s1) (fun a : Mem => J X MX7_goesOn (d + 1) 16 [some (.ref 19)] [] a w s') (fun t : Mem => J X MX7_goesOn (d + 1) 51 [some (.ref 19)] [] t w s') (fun a q h1 h2 => jbX7_goesOn_16 d a h1 h2) hy6 ?_
    refine J_aload_n (pc := 51) dX7_goesOn_51 rfl ?_
    refine J_aload_n (pc := 52) dX7_goesOn_52 rfl ?_
    refine J_getI (pc := 53) (k := 20) flX7_319 so19 fk19_20 dX7_goesOn_53 ?_
    refine J_putIL (pc := 56) (k := 21) fpX7_316 so19 fk19_21 rfl rfl dX7_goesOn_56 hh (fun s7 hh => ?_)
    obtain ⟨y12, hy12, hh⟩ := bd_some hh
    refine J_lp (a := s7) (fun a : Mem => J X MX7_goesOn (d + 1) 59 [some (.ref 19)] [] a w s') (fun t : Mem => J X MX7_goesOn (d + 1) 94 [none] [] t w s') (fun a q h1 h2 => jbX7_goesOn_59 d a h1 h2) hy12 ?_
    obtain rfl := Option.some.inj hh
    obtain ⟨rfl, rfl⟩ := hk
    exact J_ret (w := none) ⟨dX7_goesOn_94, rfl⟩
  · replace hh := (if_neg c13).symm.trans hh
    obtain rfl := Option.some.inj hh
    obtain ⟨rfl, rfl⟩ := hk
    exact J_ret (w := none) ⟨dX7_goesOn_7, rfl⟩
theorem jX7_goesOn {X : Scr} (d : Nat) (s : Mem)  {r : Mem} (hh : fX7_goesOn s = some r) : J X MX7_goesOn (d + 1) 0 [some (.ref 19)] [] s (none) r := jjX7_goesOn d s hh ⟨rfl, rfl⟩
theorem dX7_must_0 : decode cX7_must 0 = .ok (.aload_n 0, 1) := by decide +kernel
theorem dX7_must_1 : decode cX7_must 1 = .ok (.getfield 313, 3) := by decide +kernel
theorem dX7_must_4 : decode cX7_must 4 = .ok (.ifCond .ge 15, 3) := by decide +kernel
theorem dX7_must_7 : decode cX7_must 7 = .ok (.iload_n 1, 1) := by decide +kernel
theorem dX7_must_8 : decode cX7_must 8 = .ok (.ifCond .ne 11, 3) := by decide +kernel
theorem dX7_must_11 : decode cX7_must 11 = .ok (.aload_n 0, 1) := by decide +kernel
theorem dX7_must_12 : decode cX7_must 12 = .ok (.aload_n 0, 1) := by decide +kernel
theorem dX7_must_13 : decode cX7_must 13 = .ok (.getfield 319, 3) := by decide +kernel
theorem dX7_must_16 : decode cX7_must 16 = .ok (.putfield 313, 3) := by decide +kernel
theorem dX7_must_19 : decode cX7_must 19 = .ok (.return_, 1) := by decide +kernel
def fX7_must (s : Mem) (p0 : Int32) : Option Mem :=
  if (0 : Int32) ≤ (s.1 19 22) then some s else if p0 = (0 : Int32) then lt (up2 s 19 22 (s.1 19 20)) (fun s1 => some s1) else some s
set_option maxRecDepth 4000 in
theorem jjX7_must {X : Scr} (d : Nat) (s : Mem) (p0 : Int32) {r : Mem} {w : Option Value} {s' : Mem} (hh : fX7_must s p0 = some r) (hk : w = none ∧ r = s') : J X MX7_must (d + 0) 0 [some (.ref 19), some (.int p0)] [] s w s' := by
  unfold fX7_must at hh
  refine J_aload_n (pc := 0) dX7_must_0 rfl ?_
  refine J_getI (pc := 1) (k := 22) flX7_313 so19 fk19_22 dX7_must_1 ?_
  refine J_if_ge (pc := 4) 19 dX7_must_4 (by decide) (fun c3 => ?_) (fun c3 => ?_)
  · replace hh := (if_pos c3).symm.trans hh
    obtain rfl := Option.some.inj hh
    obtain ⟨rfl, rfl⟩ := hk
    exact J_ret (w := none) ⟨dX7_must_19, rfl⟩
  · replace hh := (if_neg c3).symm.trans hh
    refine J_iload_n (pc := 7) dX7_must_7 rfl ?_
    refine J_if_ne (pc := 8) 19 dX7_must_8 (by decide) (fun c2 => ?_) (fun c2 => ?_)
    · replace hh := (if_neg c2).symm.trans hh
      obtain rfl := Option.some.inj hh
      obtain ⟨rfl, rfl⟩ := hk
      exact J_ret (w := none) ⟨dX7_must_19, rfl⟩
    · replace hh := (if_pos c2).symm.trans hh
      refine J_aload_n (pc := 11) dX7_must_11 rfl ?_
      refine J_aload_n (pc := 12) dX7_must_12 rfl ?_
      refine J_getI (pc := 13) (k := 20) flX7_319 so19 fk19_20 dX7_must_13 ?_
      refine J_putIL (pc := 16) (k := 22) fpX7_313 so19 fk19_22 rfl rfl dX7_must_16 hh (fun s1 hh => ?_)
      obtain rfl := Option.some.inj hh
      obtain ⟨rfl, rfl⟩ := hk
      exact J_ret (w := none) ⟨dX7_must_19, rfl⟩
theorem jX7_must {X : Scr} (d : Nat) (s : Mem) (p0 : Int32) {r : Mem} (hh : fX7_must s p0 = some r) : J X MX7_must (d + 0) 0 [some (.ref 19), some (.int p0)] [] s (none) r := jjX7_must d s p0 hh ⟨rfl, rfl⟩
theorem dX7_isWord_0 : decode cX7_isWord 0 = .ok (.aload_n 0, 1) := by decide +kernel
theorem dX7_isWord_1 : decode cX7_isWord 1 = .ok (.getfield 313, 3) := by decide +kernel
theorem dX7_isWord_4 : decode cX7_isWord 4 = .ok (.ifCond .ge 34, 3) := by decide +kernel
theorem dX7_isWord_7 : decode cX7_isWord 7 = .ok (.aload_n 0, 1) := by decide +kernel
theorem dX7_isWord_8 : decode cX7_isWord 8 = .ok (.getfield 316, 3) := by decide +kernel
theorem dX7_isWord_11 : decode cX7_isWord 11 = .ok (.aload_n 0, 1) := by decide +kernel
theorem dX7_isWord_12 : decode cX7_isWord 12 = .ok (.getfield 319, 3) := by decide +kernel
theorem dX7_isWord_15 : decode cX7_isWord 15 = .ok (.isub, 1) := by decide +kernel
theorem dX7_isWord_16 : decode cX7_isWord 16 = .ok (.aload_n 1, 1) := by decide +kernel
theorem dX7_isWord_17 : decode cX7_isWord 17 = .ok (.invokevirtual 325, 3) := by decide +kernel
theorem dX7_isWord_20 : decode cX7_isWord 20 = .ok (.if_icmp .ne 18, 3) := by decide +kernel
theorem dX7_isWord_23 : decode cX7_isWord 23 = .ok (.aload_n 0, 1) := by decide +kernel
theorem dX7_isWord_24 : decode cX7_isWord 24 = .ok (.getfield 319, 3) := by decide +kernel
theorem dX7_isWord_27 : decode cX7_isWord 27 = .ok (.aload_n 0, 1) := by decide +kernel
theorem dX7_isWord_28 : decode cX7_isWord 28 = .ok (.getfield 310, 3) := by decide +kernel
theorem dX7_isWord_31 : decode cX7_isWord 31 = .ok (.if_icmp .ge 7, 3) := by decide +kernel
theorem dX7_isWord_34 : decode cX7_isWord 34 = .ok (.iconst 1, 1) := by decide +kernel
theorem dX7_isWord_35 : decode cX7_isWord 35 = .ok (.goto 4, 3) := by decide +kernel
theorem dX7_isWord_38 : decode cX7_isWord 38 = .ok (.iconst 0, 1) := by decide +kernel
theorem dX7_isWord_39 : decode cX7_isWord 39 = .ok (.istore_n 2, 1) := by decide +kernel
theorem dX7_isWord_40 : decode cX7_isWord 40 = .ok (.iconst 0, 1) := by decide +kernel
theorem dX7_isWord_41 : decode cX7_isWord 41 = .ok (.istore_n 3, 1) := by decide +kernel
theorem dX7_isWord_42 : decode cX7_isWord 42 = .ok (.iload_n 3, 1) := by decide +kernel
theorem dX7_isWord_43 : decode cX7_isWord 43 = .ok (.aload_n 1, 1) := by decide +kernel
theorem dX7_isWord_44 : decode cX7_isWord 44 = .ok (.invokevirtual 325, 3) := by decide +kernel
theorem dX7_isWord_47 : decode cX7_isWord 47 = .ok (.if_icmp .ge 38, 3) := by decide +kernel
theorem dX7_isWord_50 : decode cX7_isWord 50 = .ok (.iload_n 2, 1) := by decide +kernel
theorem dX7_isWord_51 : decode cX7_isWord 51 = .ok (.ifCond .eq 34, 3) := by decide +kernel
theorem dX7_isWord_54 : decode cX7_isWord 54 = .ok (.aload_n 0, 1) := by decide +kernel
theorem dX7_isWord_55 : decode cX7_isWord 55 = .ok (.getfield 40, 3) := by decide +kernel
theorem dX7_isWord_58 : decode cX7_isWord 58 = .ok (.aload_n 0, 1) := by decide +kernel
theorem dX7_isWord_59 : decode cX7_isWord 59 = .ok (.getfield 319, 3) := by decide +kernel
theorem dX7_isWord_62 : decode cX7_isWord 62 = .ok (.iload_n 3, 1) := by decide +kernel
theorem dX7_isWord_63 : decode cX7_isWord 63 = .ok (.iadd, 1) := by decide +kernel
theorem dX7_isWord_64 : decode cX7_isWord 64 = .ok (.iaload, 1) := by decide +kernel
theorem dX7_isWord_65 : decode cX7_isWord 65 = .ok (.aload_n 1, 1) := by decide +kernel
theorem dX7_isWord_66 : decode cX7_isWord 66 = .ok (.iload_n 3, 1) := by decide +kernel
theorem dX7_isWord_67 : decode cX7_isWord 67 = .ok (.invokevirtual 331, 3) := by decide +kernel
theorem dX7_isWord_70 : decode cX7_isWord 70 = .ok (.if_icmp .ne 7, 3) := by decide +kernel
theorem dX7_isWord_73 : decode cX7_isWord 73 = .ok (.iconst 1, 1) := by decide +kernel
theorem dX7_isWord_74 : decode cX7_isWord 74 = .ok (.goto 4, 3) := by decide +kernel
theorem dX7_isWord_77 : decode cX7_isWord 77 = .ok (.iconst 0, 1) := by decide +kernel
theorem dX7_isWord_78 : decode cX7_isWord 78 = .ok (.istore_n 2, 1) := by decide +kernel
theorem dX7_isWord_79 : decode cX7_isWord 79 = .ok (.iinc 3 1, 3) := by decide +kernel
theorem dX7_isWord_82 : decode cX7_isWord 82 = .ok (.goto (-40), 3) := by decide +kernel
theorem dX7_isWord_85 : decode cX7_isWord 85 = .ok (.iload_n 2, 1) := by decide +kernel
theorem dX7_isWord_86 : decode cX7_isWord 86 = .ok (.ireturn, 1) := by decide +kernel
def bX7_isWord_42 (s : Mem) (v1 : Nat) (v2 : Int32) (v3 : Int32) : Option (Int32 ⊕ (Int32 × Int32)) :=
  (fT_length v1).bind (fun y1 => if y1 ≤ v3 then some (Sum.inl v2) else if v2 = (0 : Int32) then some (Sum.inl v2) else gd ((s.1 19 20) + v3) 120 ((fT_charAt v1 v3).bind (fun y4 => if (s.1 28 ((s.1 19 20) + v3).toNatClampNeg) = y4 then lt (v3 + (1 : Int32)) (fun x7 => some (Sum.inr ((1 : Int32), x7))) else lt (v3 + (1 : Int32)) (fun x6 => some (Sum.inr ((0 : Int32), x6))))))
set_option maxRecDepth 4000 in
theorem jbX7_isWord_42 {X : Scr} (d : Nat) (s : Mem) (v1 : Nat) (v2 : Int32) (v3 : Int32) {r : (Int32 ⊕ (Int32 × Int32))} {w : Option Value} {s' : Mem} (hh : bX7_isWord_42 s v1 v2 v3 = some r) (hk : Sum.elim (fun t : Int32 => J X MX7_isWord (d + 5) 85 [none, none, some (.int t), none] [] s w s') (fun a : (Int32 × Int32) => J X MX7_isWord (d + 5) 42 [some (.ref 19), some (.ref (1000 + v1)), some (.int a.1), some (.int a.2)] [] s w s') r) : J X MX7_isWord (d + 5) 42 [some (.ref 19), some (.ref (1000 + v1)), some (.int v2), some (.int v3)] [] s w s' := by
  unfold bX7_isWord_42 at hh
  refine J_iload_n (pc := 42) dX7_isWord_42 rfl ?_
  refine J_aload_n (pc := 43) dX7_isWord_43 rfl ?_
  obtain ⟨y1, hy1, hh⟩ := bd_some hh
  obtain ⟨b2, hb2, hy1⟩ := jT_length (X := X) (d + 3) s v1 hy1
  refine J_callTi (pc := 44) (M' := MJ0_length_8abf5) (rest := [.int v3]) (As := []) okJ0_length_8abf5 ovJ0_length_8abf5 rfl mlX7_325 hb2 rfl rfl (Nat.le_of_ble_eq_true rfl) dX7_isWord_44 rfl (Nat.le_of_ble_eq_true rfl) hy1 ?_
  refine J_icmp_ge (pc := 47) 85 dX7_isWord_47 (by decide) (fun c10 => ?_) (fun c10 => ?_)
  · replace hh := (if_pos c10).symm.trans hh
    refine J_drop 0 (L' := [none, some (.ref (1000 + v1)), some (.int v2), some (.int v3)]) rfl ?_
    refine J_drop 1 (L' := [none, none, some (.int v2), some (.int v3)]) rfl ?_
    refine J_drop 3 (L' := [none, none, some (.int v2), none]) rfl ?_
    obtain rfl := Option.some.inj hh
    exact hk
  · replace hh := (if_neg c10).symm.trans hh
    refine J_iload_n (pc := 50) dX7_isWord_50 rfl ?_
    refine J_if_eq (pc := 51) 85 dX7_isWord_51 (by decide) (fun c9 => ?_) (fun c9 => ?_)
    · replace hh := (if_pos c9).symm.trans hh
      refine J_drop 0 (L' := [none, some (.ref (1000 + v1)), some (.int v2), some (.int v3)]) rfl ?_
      refine J_drop 1 (L' := [none, none, some (.int v2), some (.int v3)]) rfl ?_
      refine J_drop 3 (L' := [none, none, some (.int v2), none]) rfl ?_
      obtain rfl := Option.some.inj hh
      exact hk
    · replace hh := (if_neg c9).symm.trans hh
      refine J_aload_n (pc := 54) dX7_isWord_54 rfl ?_
      refine J_getR (pc := 55) (k := 18) flX7_40 so19 fk19_18 dX7_isWord_55 ?_
      refine J_aload_n (pc := 58) dX7_isWord_58 rfl ?_
      refine J_getI (pc := 59) (k := 20) flX7_319 so19 fk19_20 dX7_isWord_59 ?_
      refine J_iload_n (pc := 62) dX7_isWord_62 rfl ?_
      refine J_iadd (pc := 63) dX7_isWord_63 ?_
      obtain ⟨h3, hh⟩ := gd_some hh
      refine J_iald (pc := 64) dX7_isWord_64 sa28 h3 ?_
      refine J_aload_n (pc := 65) dX7_isWord_65 rfl ?_
      refine J_iload_n (pc := 66) dX7_isWord_66 rfl ?_
      obtain ⟨y4, hy4, hh⟩ := bd_some hh
      obtain ⟨b5, hb5, hy4⟩ := jT_charAt (X := X) (d + 0) s v1 v3 hy4
      refine J_callTi (pc := 67) (M' := MJ0_charAt_5068e) (rest := [.int (s.1 28 ((s.1 19 20) + v3).toNatClampNeg)]) (As := [.int v3]) okJ0_charAt_5068e ovJ0_charAt_5068e rfl mlX7_331 hb5 rfl rfl (Nat.le_of_ble_eq_true rfl) dX7_isWord_67 rfl (Nat.le_of_ble_eq_true rfl) hy4 ?_
      refine J_icmp_ne (pc := 70) 77 dX7_isWord_70 (by decide) (fun c8 => ?_) (fun c8 => ?_)
      · replace hh := (if_neg c8).symm.trans hh
        refine J_iconst (pc := 77) dX7_isWord_77 ci_0 ?_
        refine J_istore_n (pc := 78) (L' := [some (.ref 19), some (.ref (1000 + v1)), some (.int (0 : Int32)), some (.int v3)]) dX7_isWord_78 rfl (Nat.le_of_ble_eq_true rfl) rfl ?_
        refine J_iincL (pc := 79) (v := v3 + (1 : Int32)) (fun x6 => [some (.ref 19), some (.ref (1000 + v1)), some (.int (0 : Int32)), some (.int x6)]) dX7_isWord_79 rfl rfl (Nat.le_of_ble_eq_true rfl) (congrArg _ ci_1) (fun _ => rfl) hh (fun x6 hh => ?_)
        refine J_goto (pc := 82) 42 dX7_isWord_82 (by decide) ?_
        obtain rfl := Option.some.inj hh
        exact hk
      · replace hh := (if_pos c8).symm.trans hh
        refine J_iconst (pc := 73) dX7_isWord_73 ci_1 ?_
        refine J_goto (pc := 74) 78 dX7_isWord_74 (by decide) ?_
        refine J_istore_n (pc := 78) (L' := [some (.ref 19), some (.ref (1000 + v1)), some (.int (1 : Int32)), some (.int v3)]) dX7_isWord_78 rfl (Nat.le_of_ble_eq_true rfl) rfl ?_
        refine J_iincL (pc := 79) (v := v3 + (1 : Int32)) (fun x7 => [some (.ref 19), some (.ref (1000 + v1)), some (.int (1 : Int32)), some (.int x7)]) dX7_isWord_79 rfl rfl (Nat.le_of_ble_eq_true rfl) (congrArg _ ci_1) (fun _ => rfl) hh (fun x7 hh => ?_)
        refine J_goto (pc := 82) 42 dX7_isWord_82 (by decide) ?_
        obtain rfl := Option.some.inj hh
        exact hk
def gX7_isWord_39 (s : Mem) (v1 : Nat) (k0 : Int32) : Option Int32 :=
  (lp (fun a => bX7_isWord_42 s v1 a.1 a.2) 600 (k0, (0 : Int32))).bind (fun y11 => gz y11 (some y11))
set_option maxRecDepth 4000 in
theorem jgX7_isWord_39 {X : Scr} (d : Nat) (s : Mem) (v1 : Nat) (k0 : Int32) {r : Int32} {w : Option Value} {s' : Mem} (hh : gX7_isWord_39 s v1 k0 = some r) (hk : w = some (.int r) ∧ s = s') : J X MX7_isWord (d + 5) 39 [some (.ref 19), some (.ref (1000 + v1)), none, none] [.int k0] s w s' := by
  unfold gX7_isWord_39 at hh
  refine J_istore_n (pc := 39) (L' := [some (.ref 19), some (.ref (1000 + v1)), some (.int k0), none]) dX7_isWord_39 rfl (Nat.le_of_ble_eq_true rfl) rfl ?_
  refine J_iconst (pc := 40) dX7_isWord_40 ci_0 ?_
  refine J_istore_n (pc := 41) (L' := [some (.ref 19), some (.ref (1000 + v1)), some (.int k0), some (.int (0 : Int32))]) dX7_isWord_41 rfl (Nat.le_of_ble_eq_true rfl) rfl ?_
  obtain ⟨y11, hy11, hh⟩ := bd_some hh
  refine J_lp (a := (k0, (0 : Int32))) (fun a : (Int32 × Int32) => J X MX7_isWord (d + 5) 42 [some (.ref 19), some (.ref (1000 + v1)), some (.int a.1), some (.int a.2)] [] s w s') (fun t : Int32 => J X MX7_isWord (d + 5) 85 [none, none, some (.int t), none] [] s w s') (fun a q h1 h2 => jbX7_isWord_42 d s v1 a.1 a.2 h1 h2) hy11 ?_
  refine J_iload_n (pc := 85) dX7_isWord_85 rfl ?_
  obtain ⟨hz12, hh⟩ := gz_some hh
  obtain rfl := Option.some.inj hh
  obtain ⟨rfl, rfl⟩ := hk
  exact J_ret (w := some (.int y11)) ⟨dX7_isWord_86, _, rfl, (nz_bool hz12)⟩
def gX7_isWord_38 (s : Mem) (v1 : Nat) : Option Int32 :=
  gX7_isWord_39 s v1 (0 : Int32)
set_option maxRecDepth 4000 in
theorem jgX7_isWord_38 {X : Scr} (d : Nat) (s : Mem) (v1 : Nat) {r : Int32} {w : Option Value} {s' : Mem} (hh : gX7_isWord_38 s v1 = some r) (hk : w = some (.int r) ∧ s = s') : J X MX7_isWord (d + 5) 38 [some (.ref 19), some (.ref (1000 + v1)), none, none] [] s w s' := by
  unfold gX7_isWord_38 at hh
  refine J_iconst (pc := 38) dX7_isWord_38 ci_0 ?_
  exact jgX7_isWord_39 d s v1 (0 : Int32) hh hk
def fX7_isWord (s : Mem) (p0 : Nat) : Option Int32 :=
  if (0 : Int32) ≤ (s.1 19 22) then gX7_isWord_38 s p0 else (fT_length p0).bind (fun y13 => if ((s.1 19 21) - (s.1 19 20)) = y13 then if (s.1 19 19) ≤ (s.1 19 20) then gX7_isWord_38 s p0 else gX7_isWord_39 s p0 (1 : Int32) else gX7_isWord_38 s p0)
set_option maxRecDepth 4000 in
theorem jjX7_isWord {X : Scr} (d : Nat) (s : Mem) (p0 : Nat) {r : Int32} {w : Option Value} {s' : Mem} (hh : fX7_isWord s p0 = some r) (hk : w = some (.int r) ∧ s = s') : J X MX7_isWord (d + 5) 0 [some (.ref 19), some (.ref (1000 + p0)), none, none] [] s w s' := by
  unfold fX7_isWord at hh
  refine J_aload_n (pc := 0) dX7_isWord_0 rfl ?_
  refine J_getI (pc := 1) (k := 22) flX7_313 so19 fk19_22 dX7_isWord_1 ?_
  refine J_if_ge (pc := 4) 38 dX7_isWord_4 (by decide) (fun c17 => ?_) (fun c17 => ?_)
  · replace hh := (if_pos c17).symm.trans hh
    exact jgX7_isWord_38 d s p0 hh hk
  · replace hh := (if_neg c17).symm.trans hh
    refine J_aload_n (pc := 7) dX7_isWord_7 rfl ?_
    refine J_getI (pc := 8) (k := 21) flX7_316 so19 fk19_21 dX7_isWord_8 ?_
    refine J_aload_n (pc := 11) dX7_isWord_11 rfl ?_
    refine J_getI (pc := 12) (k := 20) flX7_319 so19 fk19_20 dX7_isWord_12 ?_
    refine J_isub (pc := 15) dX7_isWord_15 ?_
    refine J_aload_n (pc := 16) dX7_isWord_16 rfl ?_
    obtain ⟨y13, hy13, hh⟩ := bd_some hh
    obtain ⟨b14, hb14, hy13⟩ := jT_length (X := X) (d + 3) s p0 hy13
    refine J_callTi (pc := 17) (M' := MJ0_length_8abf5) (rest := [.int ((s.1 19 21) - (s.1 19 20))]) (As := []) okJ0_length_8abf5 ovJ0_length_8abf5 rfl mlX7_325 hb14 rfl rfl (Nat.le_of_ble_eq_true rfl) dX7_isWord_17 rfl (Nat.le_of_ble_eq_true rfl) hy13 ?_
    refine J_icmp_ne (pc := 20) 38 dX7_isWord_20 (by decide) (fun c16 => ?_) (fun c16 => ?_)
    · replace hh := (if_neg c16).symm.trans hh
      exact jgX7_isWord_38 d s p0 hh hk
    · replace hh := (if_pos c16).symm.trans hh
      refine J_aload_n (pc := 23) dX7_isWord_23 rfl ?_
      refine J_getI (pc := 24) (k := 20) flX7_319 so19 fk19_20 dX7_isWord_24 ?_
      refine J_aload_n (pc := 27) dX7_isWord_27 rfl ?_
      refine J_getI (pc := 28) (k := 19) flX7_310 so19 fk19_19 dX7_isWord_28 ?_
      refine J_icmp_ge (pc := 31) 38 dX7_isWord_31 (by decide) (fun c15 => ?_) (fun c15 => ?_)
      · replace hh := (if_pos c15).symm.trans hh
        exact jgX7_isWord_38 d s p0 hh hk
      · replace hh := (if_neg c15).symm.trans hh
        refine J_iconst (pc := 34) dX7_isWord_34 ci_1 ?_
        refine J_goto (pc := 35) 39 dX7_isWord_35 (by decide) ?_
        exact jgX7_isWord_39 d s p0 (1 : Int32) hh hk
theorem jX7_isWord {X : Scr} (d : Nat) (s : Mem) (p0 : Nat) {r : Int32} (hh : fX7_isWord s p0 = some r) : J X MX7_isWord (d + 5) 0 [some (.ref 19), some (.ref (1000 + p0)), none, none] [] s (some (.int r)) s := jjX7_isWord d s p0 hh ⟨rfl, rfl⟩
theorem dX7_takes_0 : decode cX7_takes 0 = .ok (.aload_n 0, 1) := by decide +kernel
theorem dX7_takes_1 : decode cX7_takes 1 = .ok (.aload_n 1, 1) := by decide +kernel
theorem dX7_takes_2 : decode cX7_takes 2 = .ok (.invokevirtual 335, 3) := by decide +kernel
theorem dX7_takes_5 : decode cX7_takes 5 = .ok (.istore_n 2, 1) := by decide +kernel
theorem dX7_takes_6 : decode cX7_takes 6 = .ok (.iload_n 2, 1) := by decide +kernel
theorem dX7_takes_7 : decode cX7_takes 7 = .ok (.ifCond .eq 7, 3) := by decide +kernel
theorem dX7_takes_10 : decode cX7_takes 10 = .ok (.aload_n 0, 1) := by decide +kernel
theorem dX7_takes_11 : decode cX7_takes 11 = .ok (.invokevirtual 339, 3) := by decide +kernel
theorem dX7_takes_14 : decode cX7_takes 14 = .ok (.iload_n 2, 1) := by decide +kernel
theorem dX7_takes_15 : decode cX7_takes 15 = .ok (.ireturn, 1) := by decide +kernel
def fX7_takes (s : Mem) (p0 : Nat) : Option (Int32 × Mem) :=
  (fX7_isWord s p0).bind (fun y1 => if y1 = (0 : Int32) then gz y1 (some ((y1, s))) else (fX7_goesOn s).bind (fun y3 => gz y1 (some ((y1, y3)))))
set_option maxRecDepth 4000 in
theorem jjX7_takes {X : Scr} (d : Nat) (s : Mem) (p0 : Nat) {r : (Int32 × Mem)} {w : Option Value} {s' : Mem} (hh : fX7_takes s p0 = some r) (hk : w = some (.int r.1) ∧ r.2 = s') : J X MX7_takes (d + 6) 0 [some (.ref 19), some (.ref (1000 + p0)), none] [] s w s' := by
  unfold fX7_takes at hh
  refine J_aload_n (pc := 0) dX7_takes_0 rfl ?_
  refine J_aload_n (pc := 1) dX7_takes_1 rfl ?_
  obtain ⟨y1, hy1, hh⟩ := bd_some hh
  refine J_callVi (pc := 2) (M' := MX7_isWord) (a := 19) (rest := []) (As := [.ref (1000 + p0)]) (L0 := [some (.ref 19), some (.ref (1000 + p0)), none, none]) okX7_isWord ovX7_isWord mlX7_335 clX7 so19 rfl rfl (Nat.le_of_ble_eq_true rfl) dX7_takes_2 rfl (Nat.le_of_ble_eq_true rfl) (jX7_isWord (X := X) d s p0 hy1) ?_
  refine J_istore_n (pc := 5) (L' := [some (.ref 19), some (.ref (1000 + p0)), some (.int y1)]) dX7_takes_5 rfl (Nat.le_of_ble_eq_true rfl) rfl ?_
  refine J_iload_n (pc := 6) dX7_takes_6 rfl ?_
  refine J_if_eq (pc := 7) 14 dX7_takes_7 (by decide) (fun c5 => ?_) (fun c5 => ?_)
  · replace hh := (if_pos c5).symm.trans hh
    refine J_iload_n (pc := 14) dX7_takes_14 rfl ?_
    obtain ⟨hz2, hh⟩ := gz_some hh
    obtain rfl := Option.some.inj hh
    obtain ⟨rfl, rfl⟩ := hk
    exact J_ret (w := some (.int y1)) ⟨dX7_takes_15, _, rfl, (nz_bool hz2)⟩
  · replace hh := (if_neg c5).symm.trans hh
    refine J_aload_n (pc := 10) dX7_takes_10 rfl ?_
    obtain ⟨y3, hy3, hh⟩ := bd_some hh
    refine J_callV0 (pc := 11) (M' := MX7_goesOn) (a := 19) (rest := []) (As := []) (L0 := [some (.ref 19)]) okX7_goesOn ovX7_goesOn mlX7_339 clX7 so19 rfl rfl (Nat.le_of_ble_eq_true rfl) dX7_takes_11 rfl (Nat.le_of_ble_eq_true rfl) (jX7_goesOn (X := X) (d + 4) s hy3) ?_
    refine J_iload_n (pc := 14) dX7_takes_14 rfl ?_
    obtain ⟨hz4, hh⟩ := gz_some hh
    obtain rfl := Option.some.inj hh
    obtain ⟨rfl, rfl⟩ := hk
    exact J_ret (w := some (.int y1)) ⟨dX7_takes_15, _, rfl, (nz_bool hz4)⟩
theorem jX7_takes {X : Scr} (d : Nat) (s : Mem) (p0 : Nat) {r : (Int32 × Mem)} (hh : fX7_takes s p0 = some r) : J X MX7_takes (d + 6) 0 [some (.ref 19), some (.ref (1000 + p0)), none] [] s (some (.int r.1)) r.2 := jjX7_takes d s p0 hh ⟨rfl, rfl⟩
theorem dX7_numberHere_0 : decode cX7_numberHere 0 = .ok (.aload_n 0, 1) := by decide +kernel
theorem dX7_numberHere_1 : decode cX7_numberHere 1 = .ok (.getfield 316, 3) := by decide +kernel
theorem dX7_numberHere_4 : decode cX7_numberHere 4 = .ok (.aload_n 0, 1) := by decide +kernel
theorem dX7_numberHere_5 : decode cX7_numberHere 5 = .ok (.getfield 319, 3) := by decide +kernel
theorem dX7_numberHere_8 : decode cX7_numberHere 8 = .ok (.isub, 1) := by decide +kernel
theorem dX7_numberHere_9 : decode cX7_numberHere 9 = .ok (.istore_n 2, 1) := by decide +kernel
theorem dX7_numberHere_10 : decode cX7_numberHere 10 = .ok (.aload_n 0, 1) := by decide +kernel
theorem dX7_numberHere_11 : decode cX7_numberHere 11 = .ok (.getfield 313, 3) := by decide +kernel
theorem dX7_numberHere_14 : decode cX7_numberHere 14 = .ok (.ifCond .ge 15, 3) := by decide +kernel
theorem dX7_numberHere_17 : decode cX7_numberHere 17 = .ok (.iload_n 2, 1) := by decide +kernel
theorem dX7_numberHere_18 : decode cX7_numberHere 18 = .ok (.i2l, 1) := by decide +kernel
theorem dX7_numberHere_19 : decode cX7_numberHere 19 = .ok (.lconst 1, 1) := by decide +kernel
theorem dX7_numberHere_20 : decode cX7_numberHere 20 = .ok (.ldc2_w 143, 3) := by decide +kernel
theorem dX7_numberHere_23 : decode cX7_numberHere 23 = .ok (.invokestatic 63, 3) := by decide +kernel
theorem dX7_numberHere_26 : decode cX7_numberHere 26 = .ok (.ifCond .ne 5, 3) := by decide +kernel
theorem dX7_numberHere_29 : decode cX7_numberHere 29 = .ok (.iconst (-1), 1) := by decide +kernel
theorem dX7_numberHere_30 : decode cX7_numberHere 30 = .ok (.ireturn, 1) := by decide +kernel
theorem dX7_numberHere_31 : decode cX7_numberHere 31 = .ok (.iconst 0, 1) := by decide +kernel
theorem dX7_numberHere_32 : decode cX7_numberHere 32 = .ok (.istore_n 3, 1) := by decide +kernel
theorem dX7_numberHere_33 : decode cX7_numberHere 33 = .ok (.aload_n 0, 1) := by decide +kernel
theorem dX7_numberHere_34 : decode cX7_numberHere 34 = .ok (.getfield 319, 3) := by decide +kernel
theorem dX7_numberHere_37 : decode cX7_numberHere 37 = .ok (.istore 4, 2) := by decide +kernel
theorem dX7_numberHere_39 : decode cX7_numberHere 39 = .ok (.iload 4, 2) := by decide +kernel
theorem dX7_numberHere_41 : decode cX7_numberHere 41 = .ok (.aload_n 0, 1) := by decide +kernel
theorem dX7_numberHere_42 : decode cX7_numberHere 42 = .ok (.getfield 316, 3) := by decide +kernel
theorem dX7_numberHere_45 : decode cX7_numberHere 45 = .ok (.if_icmp .ge 47, 3) := by decide +kernel
theorem dX7_numberHere_48 : decode cX7_numberHere 48 = .ok (.aload_n 0, 1) := by decide +kernel
theorem dX7_numberHere_49 : decode cX7_numberHere 49 = .ok (.getfield 40, 3) := by decide +kernel
theorem dX7_numberHere_52 : decode cX7_numberHere 52 = .ok (.iload 4, 2) := by decide +kernel
theorem dX7_numberHere_54 : decode cX7_numberHere 54 = .ok (.iaload, 1) := by decide +kernel
theorem dX7_numberHere_55 : decode cX7_numberHere 55 = .ok (.i2l, 1) := by decide +kernel
theorem dX7_numberHere_56 : decode cX7_numberHere 56 = .ok (.ldc2_w 342, 3) := by decide +kernel
theorem dX7_numberHere_59 : decode cX7_numberHere 59 = .ok (.ldc2_w 344, 3) := by decide +kernel
theorem dX7_numberHere_62 : decode cX7_numberHere 62 = .ok (.invokestatic 63, 3) := by decide +kernel
theorem dX7_numberHere_65 : decode cX7_numberHere 65 = .ok (.ifCond .ne 5, 3) := by decide +kernel
theorem dX7_numberHere_68 : decode cX7_numberHere 68 = .ok (.iconst (-1), 1) := by decide +kernel
theorem dX7_numberHere_69 : decode cX7_numberHere 69 = .ok (.ireturn, 1) := by decide +kernel
theorem dX7_numberHere_70 : decode cX7_numberHere 70 = .ok (.bipush 10, 2) := by decide +kernel
theorem dX7_numberHere_72 : decode cX7_numberHere 72 = .ok (.iload_n 3, 1) := by decide +kernel
theorem dX7_numberHere_73 : decode cX7_numberHere 73 = .ok (.imul, 1) := by decide +kernel
theorem dX7_numberHere_74 : decode cX7_numberHere 74 = .ok (.aload_n 0, 1) := by decide +kernel
theorem dX7_numberHere_75 : decode cX7_numberHere 75 = .ok (.getfield 40, 3) := by decide +kernel
theorem dX7_numberHere_78 : decode cX7_numberHere 78 = .ok (.iload 4, 2) := by decide +kernel
theorem dX7_numberHere_80 : decode cX7_numberHere 80 = .ok (.iaload, 1) := by decide +kernel
theorem dX7_numberHere_81 : decode cX7_numberHere 81 = .ok (.iadd, 1) := by decide +kernel
theorem dX7_numberHere_82 : decode cX7_numberHere 82 = .ok (.bipush 48, 2) := by decide +kernel
theorem dX7_numberHere_84 : decode cX7_numberHere 84 = .ok (.isub, 1) := by decide +kernel
theorem dX7_numberHere_85 : decode cX7_numberHere 85 = .ok (.istore_n 3, 1) := by decide +kernel
theorem dX7_numberHere_86 : decode cX7_numberHere 86 = .ok (.iinc 4 1, 3) := by decide +kernel
theorem dX7_numberHere_89 : decode cX7_numberHere 89 = .ok (.goto (-50), 3) := by decide +kernel
theorem dX7_numberHere_92 : decode cX7_numberHere 92 = .ok (.iload_n 2, 1) := by decide +kernel
theorem dX7_numberHere_93 : decode cX7_numberHere 93 = .ok (.iconst 2, 1) := by decide +kernel
theorem dX7_numberHere_94 : decode cX7_numberHere 94 = .ok (.if_icmp .ne 9, 3) := by decide +kernel
theorem dX7_numberHere_97 : decode cX7_numberHere 97 = .ok (.iload_n 3, 1) := by decide +kernel
theorem dX7_numberHere_98 : decode cX7_numberHere 98 = .ok (.bipush 10, 2) := by decide +kernel
theorem dX7_numberHere_100 : decode cX7_numberHere 100 = .ok (.if_icmp .lt 8, 3) := by decide +kernel
theorem dX7_numberHere_103 : decode cX7_numberHere 103 = .ok (.iload_n 3, 1) := by decide +kernel
theorem dX7_numberHere_104 : decode cX7_numberHere 104 = .ok (.iload_n 1, 1) := by decide +kernel
theorem dX7_numberHere_105 : decode cX7_numberHere 105 = .ok (.if_icmp .le 7, 3) := by decide +kernel
theorem dX7_numberHere_108 : decode cX7_numberHere 108 = .ok (.iconst (-1), 1) := by decide +kernel
theorem dX7_numberHere_109 : decode cX7_numberHere 109 = .ok (.goto 4, 3) := by decide +kernel
theorem dX7_numberHere_112 : decode cX7_numberHere 112 = .ok (.iload_n 3, 1) := by decide +kernel
theorem dX7_numberHere_113 : decode cX7_numberHere 113 = .ok (.ireturn, 1) := by decide +kernel
def bX7_numberHere_39 (s : Mem) (v1 : Int32) (v2 : Int32) (v3 : Int32) (v4 : Int32) : Option ((Int32 ⊕ Int32) ⊕ (Int32 × Int32)) :=
  if (s.1 19 21) ≤ v4 then some (Sum.inl (Sum.inr v3)) else gd v4 120 ((fX7_in ((s.1 28 v4.toNatClampNeg).toInt64) (48 : Int64) (57 : Int64)).bind (fun y5 => if y5 = (0 : Int32) then some (Sum.inl (Sum.inl (-1 : Int32))) else gd v4 120 (lt ((((10 : Int32) * v3) + (s.1 28 v4.toNatClampNeg)) - (48 : Int32)) (fun x7 => lt (v4 + (1 : Int32)) (fun x8 => some (Sum.inr (x7, x8)))))))
set_option maxRecDepth 4000 in
theorem jbX7_numberHere_39 {X : Scr} (d : Nat) (s : Mem) (v1 : Int32) (v2 : Int32) (v3 : Int32) (v4 : Int32) {r : ((Int32 ⊕ Int32) ⊕ (Int32 × Int32))} {w : Option Value} {s' : Mem} (hh : bX7_numberHere_39 s v1 v2 v3 v4 = some r) (hk : Sum.elim (Sum.elim (fun q : Int32 => w = some (.int q) ∧ s = s') (fun t : Int32 => J X MX7_numberHere (d + 1) 92 [none, some (.int v1), some (.int v2), some (.int t), none] [] s w s')) (fun a : (Int32 × Int32) => J X MX7_numberHere (d + 1) 39 [some (.ref 19), some (.int v1), some (.int v2), some (.int a.1), some (.int a.2)] [] s w s') r) : J X MX7_numberHere (d + 1) 39 [some (.ref 19), some (.int v1), some (.int v2), some (.int v3), some (.int v4)] [] s w s' := by
  unfold bX7_numberHere_39 at hh
  refine J_iload (pc := 39) dX7_numberHere_39 rfl ?_
  refine J_aload_n (pc := 41) dX7_numberHere_41 rfl ?_
  refine J_getI (pc := 42) (k := 21) flX7_316 so19 fk19_21 dX7_numberHere_42 ?_
  refine J_icmp_ge (pc := 45) 92 dX7_numberHere_45 (by decide) (fun c10 => ?_) (fun c10 => ?_)
  · replace hh := (if_pos c10).symm.trans hh
    refine J_drop 0 (L' := [none, some (.int v1), some (.int v2), some (.int v3), some (.int v4)]) rfl ?_
    refine J_drop 4 (L' := [none, some (.int v1), some (.int v2), some (.int v3), none]) rfl ?_
    obtain rfl := Option.some.inj hh
    exact hk
  · replace hh := (if_neg c10).symm.trans hh
    refine J_aload_n (pc := 48) dX7_numberHere_48 rfl ?_
    refine J_getR (pc := 49) (k := 18) flX7_40 so19 fk19_18 dX7_numberHere_49 ?_
    refine J_iload (pc := 52) dX7_numberHere_52 rfl ?_
    obtain ⟨h4, hh⟩ := gd_some hh
    refine J_iald (pc := 54) dX7_numberHere_54 sa28 h4 ?_
    refine J_i2l (pc := 55) dX7_numberHere_55 ?_
    refine J_ldc2 (pc := 56) klX7_342 dX7_numberHere_56 ?_
    refine J_ldc2 (pc := 59) klX7_344 dX7_numberHere_59 ?_
    obtain ⟨y5, hy5, hh⟩ := bd_some hh
    refine J_callSi (pc := 62) (M' := MX7_in) (rest := []) (As := [.long ((s.1 28 v4.toNatClampNeg).toInt64), .long (48 : Int64), .long (57 : Int64)]) (L0 := [some (.long ((s.1 28 v4.toNatClampNeg).toInt64)), none, some (.long (48 : Int64)), none, some (.long (57 : Int64)), none]) okX7_in osX7_in mlX7_63 rfl rfl (Nat.le_of_ble_eq_true rfl) dX7_numberHere_62 rfl (Nat.le_of_ble_eq_true rfl) (jX7_in (X := X) d s ((s.1 28 v4.toNatClampNeg).toInt64) (48 : Int64) (57 : Int64) hy5) ?_
    refine J_if_ne (pc := 65) 70 dX7_numberHere_65 (by decide) (fun c9 => ?_) (fun c9 => ?_)
    · replace hh := (if_neg c9).symm.trans hh
      refine J_bipush (pc := 70) dX7_numberHere_70 cb_10 ?_
      refine J_iload_n (pc := 72) dX7_numberHere_72 rfl ?_
      refine J_imul (pc := 73) dX7_numberHere_73 ?_
      refine J_aload_n (pc := 74) dX7_numberHere_74 rfl ?_
      refine J_getR (pc := 75) (k := 18) flX7_40 so19 fk19_18 dX7_numberHere_75 ?_
      refine J_iload (pc := 78) dX7_numberHere_78 rfl ?_
      obtain ⟨h6, hh⟩ := gd_some hh
      refine J_iald (pc := 80) dX7_numberHere_80 sa28 h6 ?_
      refine J_iadd (pc := 81) dX7_numberHere_81 ?_
      refine J_bipush (pc := 82) dX7_numberHere_82 cb_48 ?_
      refine J_isub (pc := 84) dX7_numberHere_84 ?_
      refine J_istoreL_n (pc := 85) (fun x7 => [some (.ref 19), some (.int v1), some (.int v2), some (.int x7), some (.int v4)]) dX7_numberHere_85 rfl (Nat.le_of_ble_eq_true rfl) (fun _ => rfl) hh (fun x7 hh => ?_)
      refine J_iincL (pc := 86) (v := v4 + (1 : Int32)) (fun x8 => [some (.ref 19), some (.int v1), some (.int v2), some (.int x7), some (.int x8)]) dX7_numberHere_86 rfl rfl (Nat.le_of_ble_eq_true rfl) (congrArg _ ci_1) (fun _ => rfl) hh (fun x8 hh => ?_)
      refine J_goto (pc := 89) 39 dX7_numberHere_89 (by decide) ?_
      obtain rfl := Option.some.inj hh
      exact hk
    · replace hh := (if_pos c9).symm.trans hh
      refine J_iconst (pc := 68) dX7_numberHere_68 ci_m1 ?_
      obtain rfl := Option.some.inj hh
      obtain ⟨rfl, rfl⟩ := hk
      exact J_ret (w := some (.int (-1 : Int32))) ⟨dX7_numberHere_69, _, rfl, rfl⟩
def gX7_numberHere_103 (s : Mem) (v1 : Int32) (v3 : Int32) : Option Int32 :=
  if v3 ≤ v1 then some v3 else some (-1 : Int32)
set_option maxRecDepth 4000 in
theorem jgX7_numberHere_103 {X : Scr} (d : Nat) (s : Mem) (v1 : Int32) (v3 : Int32) {r : Int32} {w : Option Value} {s' : Mem} (hh : gX7_numberHere_103 s v1 v3 = some r) (hk : w = some (.int r) ∧ s = s') : J X MX7_numberHere (d + 1) 103 [none, some (.int v1), none, some (.int v3), none] [] s w s' := by
  unfold gX7_numberHere_103 at hh
  refine J_iload_n (pc := 103) dX7_numberHere_103 rfl ?_
  refine J_iload_n (pc := 104) dX7_numberHere_104 rfl ?_
  refine J_icmp_le (pc := 105) 112 dX7_numberHere_105 (by decide) (fun c14 => ?_) (fun c14 => ?_)
  · replace hh := (if_pos c14).symm.trans hh
    refine J_iload_n (pc := 112) dX7_numberHere_112 rfl ?_
    obtain rfl := Option.some.inj hh
    obtain ⟨rfl, rfl⟩ := hk
    exact J_ret (w := some (.int v3)) ⟨dX7_numberHere_113, _, rfl, rfl⟩
  · replace hh := (if_neg c14).symm.trans hh
    refine J_iconst (pc := 108) dX7_numberHere_108 ci_m1 ?_
    refine J_goto (pc := 109) 113 dX7_numberHere_109 (by decide) ?_
    obtain rfl := Option.some.inj hh
    obtain ⟨rfl, rfl⟩ := hk
    exact J_ret (w := some (.int (-1 : Int32))) ⟨dX7_numberHere_113, _, rfl, rfl⟩
def fX7_numberHere (s : Mem) (p0 : Int32) : Option Int32 :=
  lt ((s.1 19 21) - (s.1 19 20)) (fun x1 => if (0 : Int32) ≤ (s.1 19 22) then some (-1 : Int32) else (fX7_in (x1.toInt64) (1 : Int64) (2 : Int64)).bind (fun y2 => if y2 = (0 : Int32) then some (-1 : Int32) else lt (s.1 19 20) (fun x3 => (lp (fun a => bX7_numberHere_39 s p0 x1 a.1 a.2) 600 ((0 : Int32), x3)).bind (fun y11 => Sum.elim (fun q13 => some q13) (fun t12 => if x1 = (2 : Int32) then if t12 < (10 : Int32) then some (-1 : Int32) else gX7_numberHere_103 s p0 t12 else gX7_numberHere_103 s p0 t12) y11))))
set_option maxRecDepth 4000 in
theorem jjX7_numberHere {X : Scr} (d : Nat) (s : Mem) (p0 : Int32) {r : Int32} {w : Option Value} {s' : Mem} (hh : fX7_numberHere s p0 = some r) (hk : w = some (.int r) ∧ s = s') : J X MX7_numberHere (d + 1) 0 [some (.ref 19), some (.int p0), none, none, none] [] s w s' := by
  unfold fX7_numberHere at hh
  refine J_aload_n (pc := 0) dX7_numberHere_0 rfl ?_
  refine J_getI (pc := 1) (k := 21) flX7_316 so19 fk19_21 dX7_numberHere_1 ?_
  refine J_aload_n (pc := 4) dX7_numberHere_4 rfl ?_
  refine J_getI (pc := 5) (k := 20) flX7_319 so19 fk19_20 dX7_numberHere_5 ?_
  refine J_isub (pc := 8) dX7_numberHere_8 ?_
  refine J_istoreL_n (pc := 9) (fun x1 => [some (.ref 19), some (.int p0), some (.int x1), none, none]) dX7_numberHere_9 rfl (Nat.le_of_ble_eq_true rfl) (fun _ => rfl) hh (fun x1 hh => ?_)
  refine J_aload_n (pc := 10) dX7_numberHere_10 rfl ?_
  refine J_getI (pc := 11) (k := 22) flX7_313 so19 fk19_22 dX7_numberHere_11 ?_
  refine J_if_ge (pc := 14) 29 dX7_numberHere_14 (by decide) (fun c18 => ?_) (fun c18 => ?_)
  · replace hh := (if_pos c18).symm.trans hh
    refine J_iconst (pc := 29) dX7_numberHere_29 ci_m1 ?_
    obtain rfl := Option.some.inj hh
    obtain ⟨rfl, rfl⟩ := hk
    exact J_ret (w := some (.int (-1 : Int32))) ⟨dX7_numberHere_30, _, rfl, rfl⟩
  · replace hh := (if_neg c18).symm.trans hh
    refine J_iload_n (pc := 17) dX7_numberHere_17 rfl ?_
    refine J_i2l (pc := 18) dX7_numberHere_18 ?_
    refine J_lconst (pc := 19) (v := 1) dX7_numberHere_19 rfl ?_
    refine J_ldc2 (pc := 20) klX7_143 dX7_numberHere_20 ?_
    obtain ⟨y2, hy2, hh⟩ := bd_some hh
    refine J_callSi (pc := 23) (M' := MX7_in) (rest := []) (As := [.long (x1.toInt64), .long (1 : Int64), .long (2 : Int64)]) (L0 := [some (.long (x1.toInt64)), none, some (.long (1 : Int64)), none, some (.long (2 : Int64)), none]) okX7_in osX7_in mlX7_63 rfl rfl (Nat.le_of_ble_eq_true rfl) dX7_numberHere_23 rfl (Nat.le_of_ble_eq_true rfl) (jX7_in (X := X) d s (x1.toInt64) (1 : Int64) (2 : Int64) hy2) ?_
    refine J_if_ne (pc := 26) 31 dX7_numberHere_26 (by decide) (fun c17 => ?_) (fun c17 => ?_)
    · replace hh := (if_neg c17).symm.trans hh
      refine J_iconst (pc := 31) dX7_numberHere_31 ci_0 ?_
      refine J_istore_n (pc := 32) (L' := [some (.ref 19), some (.int p0), some (.int x1), some (.int (0 : Int32)), none]) dX7_numberHere_32 rfl (Nat.le_of_ble_eq_true rfl) rfl ?_
      refine J_aload_n (pc := 33) dX7_numberHere_33 rfl ?_
      refine J_getI (pc := 34) (k := 20) flX7_319 so19 fk19_20 dX7_numberHere_34 ?_
      refine J_istoreL (pc := 37) (fun x3 => [some (.ref 19), some (.int p0), some (.int x1), some (.int (0 : Int32)), some (.int x3)]) dX7_numberHere_37 rfl (Nat.le_of_ble_eq_true rfl) (fun _ => rfl) hh (fun x3 hh => ?_)
      obtain ⟨y11, hy11, hh⟩ := bd_some hh
      refine J_lp (a := ((0 : Int32), x3)) (fun a : (Int32 × Int32) => J X MX7_numberHere (d + 1) 39 [some (.ref 19), some (.int p0), some (.int x1), some (.int a.1), some (.int a.2)] [] s w s') (Sum.elim (fun q : Int32 => w = some (.int q) ∧ s = s') (fun t : Int32 => J X MX7_numberHere (d + 1) 92 [none, some (.int p0), some (.int x1), some (.int t), none] [] s w s')) (fun a q h1 h2 => jbX7_numberHere_39 d s p0 x1 a.1 a.2 h1 h2) hy11 ?_
      cases y11 with
      | inl q13 =>
        obtain rfl := Option.some.inj hh
        exact hk
      | inr t12 =>
        skip
        replace hh : (if x1 = (2 : Int32) then if t12 < (10 : Int32) then some (-1 : Int32) else gX7_numberHere_103 s p0 t12 else gX7_numberHere_103 s p0 t12) = some r := hh
        refine J_iload_n (pc := 92) dX7_numberHere_92 rfl ?_
        refine J_iconst (pc := 93) dX7_numberHere_93 ci_2 ?_
        refine J_icmp_ne (pc := 94) 103 dX7_numberHere_94 (by decide) (fun c16 => ?_) (fun c16 => ?_)
        · replace hh := (if_neg c16).symm.trans hh
          refine J_drop 2 (L' := [none, some (.int p0), none, some (.int t12), none]) rfl ?_
          exact jgX7_numberHere_103 d s p0 t12 hh hk
        · replace hh := (if_pos c16).symm.trans hh
          refine J_iload_n (pc := 97) dX7_numberHere_97 rfl ?_
          refine J_bipush (pc := 98) dX7_numberHere_98 cb_10 ?_
          refine J_icmp_lt (pc := 100) 108 dX7_numberHere_100 (by decide) (fun c15 => ?_) (fun c15 => ?_)
          · replace hh := (if_pos c15).symm.trans hh
            refine J_iconst (pc := 108) dX7_numberHere_108 ci_m1 ?_
            refine J_goto (pc := 109) 113 dX7_numberHere_109 (by decide) ?_
            obtain rfl := Option.some.inj hh
            obtain ⟨rfl, rfl⟩ := hk
            exact J_ret (w := some (.int (-1 : Int32))) ⟨dX7_numberHere_113, _, rfl, rfl⟩
          · replace hh := (if_neg c15).symm.trans hh
            refine J_drop 2 (L' := [none, some (.int p0), none, some (.int t12), none]) rfl ?_
            exact jgX7_numberHere_103 d s p0 t12 hh hk
    · replace hh := (if_pos c17).symm.trans hh
      refine J_iconst (pc := 29) dX7_numberHere_29 ci_m1 ?_
      obtain rfl := Option.some.inj hh
      obtain ⟨rfl, rfl⟩ := hk
      exact J_ret (w := some (.int (-1 : Int32))) ⟨dX7_numberHere_30, _, rfl, rfl⟩
theorem jX7_numberHere {X : Scr} (d : Nat) (s : Mem) (p0 : Int32) {r : Int32} (hh : fX7_numberHere s p0 = some r) : J X MX7_numberHere (d + 1) 0 [some (.ref 19), some (.int p0), none, none, none] [] s (some (.int r)) s := jjX7_numberHere d s p0 hh ⟨rfl, rfl⟩
theorem dX7_number_0 : decode cX7_number 0 = .ok (.aload_n 0, 1) := by decide +kernel
theorem dX7_number_1 : decode cX7_number 1 = .ok (.iload_n 1, 1) := by decide +kernel
theorem dX7_number_2 : decode cX7_number 2 = .ok (.invokevirtual 346, 3) := by decide +kernel
theorem dX7_number_5 : decode cX7_number 5 = .ok (.istore_n 2, 1) := by decide +kernel
theorem dX7_number_6 : decode cX7_number 6 = .ok (.aload_n 0, 1) := by decide +kernel
theorem dX7_number_7 : decode cX7_number 7 = .ok (.iload_n 2, 1) := by decide +kernel
theorem dX7_number_8 : decode cX7_number 8 = .ok (.ifCond .lt 7, 3) := by decide +kernel
theorem dX7_number_11 : decode cX7_number 11 = .ok (.iconst 1, 1) := by decide +kernel
theorem dX7_number_12 : decode cX7_number 12 = .ok (.goto 4, 3) := by decide +kernel
theorem dX7_number_15 : decode cX7_number 15 = .ok (.iconst 0, 1) := by decide +kernel
theorem dX7_number_16 : decode cX7_number 16 = .ok (.invokevirtual 349, 3) := by decide +kernel
theorem dX7_number_19 : decode cX7_number 19 = .ok (.aload_n 0, 1) := by decide +kernel
theorem dX7_number_20 : decode cX7_number 20 = .ok (.invokevirtual 339, 3) := by decide +kernel
theorem dX7_number_23 : decode cX7_number 23 = .ok (.iload_n 2, 1) := by decide +kernel
theorem dX7_number_24 : decode cX7_number 24 = .ok (.ireturn, 1) := by decide +kernel
def gX7_number_16 (s : Mem) (v2 : Int32) (k0 : Int32) : Option (Int32 × Mem) :=
  (fX7_must s k0).bind (fun y2 => (fX7_goesOn y2).bind (fun y3 => some ((v2, y3))))
set_option maxRecDepth 4000 in
theorem jgX7_number_16 {X : Scr} (d : Nat) (s : Mem) (v2 : Int32) (k0 : Int32) {r : (Int32 × Mem)} {w : Option Value} {s' : Mem} (hh : gX7_number_16 s v2 k0 = some r) (hk : w = some (.int r.1) ∧ r.2 = s') : J X MX7_number (d + 2) 16 [some (.ref 19), none, some (.int v2)] [.int k0, .ref 19] s w s' := by
  unfold gX7_number_16 at hh
  obtain ⟨y2, hy2, hh⟩ := bd_some hh
  refine J_callV0 (pc := 16) (M' := MX7_must) (a := 19) (rest := []) (As := [.int k0]) (L0 := [some (.ref 19), some (.int k0)]) okX7_must ovX7_must mlX7_349 clX7 so19 rfl rfl (Nat.le_of_ble_eq_true rfl) dX7_number_16 rfl (Nat.le_of_ble_eq_true rfl) (jX7_must (X := X) (d + 1) s k0 hy2) ?_
  refine J_aload_n (pc := 19) dX7_number_19 rfl ?_
  obtain ⟨y3, hy3, hh⟩ := bd_some hh
  refine J_callV0 (pc := 20) (M' := MX7_goesOn) (a := 19) (rest := []) (As := []) (L0 := [some (.ref 19)]) okX7_goesOn ovX7_goesOn mlX7_339 clX7 so19 rfl rfl (Nat.le_of_ble_eq_true rfl) dX7_number_20 rfl (Nat.le_of_ble_eq_true rfl) (jX7_goesOn (X := X) d y2 hy3) ?_
  refine J_iload_n (pc := 23) dX7_number_23 rfl ?_
  obtain rfl := Option.some.inj hh
  obtain ⟨rfl, rfl⟩ := hk
  exact J_ret (w := some (.int v2)) ⟨dX7_number_24, _, rfl, rfl⟩
def fX7_number (s : Mem) (p0 : Int32) : Option (Int32 × Mem) :=
  (fX7_numberHere s p0).bind (fun y1 => if y1 < (0 : Int32) then gX7_number_16 s y1 (0 : Int32) else gX7_number_16 s y1 (1 : Int32))
set_option maxRecDepth 4000 in
theorem jjX7_number {X : Scr} (d : Nat) (s : Mem) (p0 : Int32) {r : (Int32 × Mem)} {w : Option Value} {s' : Mem} (hh : fX7_number s p0 = some r) (hk : w = some (.int r.1) ∧ r.2 = s') : J X MX7_number (d + 2) 0 [some (.ref 19), some (.int p0), none] [] s w s' := by
  unfold fX7_number at hh
  refine J_aload_n (pc := 0) dX7_number_0 rfl ?_
  refine J_iload_n (pc := 1) dX7_number_1 rfl ?_
  obtain ⟨y1, hy1, hh⟩ := bd_some hh
  refine J_callVi (pc := 2) (M' := MX7_numberHere) (a := 19) (rest := []) (As := [.int p0]) (L0 := [some (.ref 19), some (.int p0), none, none, none]) okX7_numberHere ovX7_numberHere mlX7_346 clX7 so19 rfl rfl (Nat.le_of_ble_eq_true rfl) dX7_number_2 rfl (Nat.le_of_ble_eq_true rfl) (jX7_numberHere (X := X) d s p0 hy1) ?_
  refine J_istore_n (pc := 5) (L' := [some (.ref 19), some (.int p0), some (.int y1)]) dX7_number_5 rfl (Nat.le_of_ble_eq_true rfl) rfl ?_
  refine J_aload_n (pc := 6) dX7_number_6 rfl ?_
  refine J_iload_n (pc := 7) dX7_number_7 rfl ?_
  refine J_if_lt (pc := 8) 15 dX7_number_8 (by decide) (fun c4 => ?_) (fun c4 => ?_)
  · replace hh := (if_pos c4).symm.trans hh
    refine J_iconst (pc := 15) dX7_number_15 ci_0 ?_
    refine J_drop 1 (L' := [some (.ref 19), none, some (.int y1)]) rfl ?_
    exact jgX7_number_16 d s y1 (0 : Int32) hh hk
  · replace hh := (if_neg c4).symm.trans hh
    refine J_iconst (pc := 11) dX7_number_11 ci_1 ?_
    refine J_goto (pc := 12) 16 dX7_number_12 (by decide) ?_
    refine J_drop 1 (L' := [some (.ref 19), none, some (.int y1)]) rfl ?_
    exact jgX7_number_16 d s y1 (1 : Int32) hh hk
theorem jX7_number {X : Scr} (d : Nat) (s : Mem) (p0 : Int32) {r : (Int32 × Mem)} (hh : fX7_number s p0 = some r) : J X MX7_number (d + 2) 0 [some (.ref 19), some (.int p0), none] [] s (some (.int r.1)) r.2 := jjX7_number d s p0 hh ⟨rfl, rfl⟩
theorem dX7_courseHere_0 : decode cX7_courseHere 0 = .ok (.aload_n 0, 1) := by decide +kernel
theorem dX7_courseHere_1 : decode cX7_courseHere 1 = .ok (.getfield 313, 3) := by decide +kernel
theorem dX7_courseHere_4 : decode cX7_courseHere 4 = .ok (.ifCond .ge 53, 3) := by decide +kernel
theorem dX7_courseHere_7 : decode cX7_courseHere 7 = .ok (.aload_n 0, 1) := by decide +kernel
theorem dX7_courseHere_8 : decode cX7_courseHere 8 = .ok (.getfield 316, 3) := by decide +kernel
theorem dX7_courseHere_11 : decode cX7_courseHere 11 = .ok (.aload_n 0, 1) := by decide +kernel
theorem dX7_courseHere_12 : decode cX7_courseHere 12 = .ok (.getfield 319, 3) := by decide +kernel
theorem dX7_courseHere_15 : decode cX7_courseHere 15 = .ok (.isub, 1) := by decide +kernel
theorem dX7_courseHere_16 : decode cX7_courseHere 16 = .ok (.iconst 1, 1) := by decide +kernel
theorem dX7_courseHere_17 : decode cX7_courseHere 17 = .ok (.if_icmp .ne 40, 3) := by decide +kernel
theorem dX7_courseHere_20 : decode cX7_courseHere 20 = .ok (.aload_n 0, 1) := by decide +kernel
theorem dX7_courseHere_21 : decode cX7_courseHere 21 = .ok (.getfield 40, 3) := by decide +kernel
theorem dX7_courseHere_24 : decode cX7_courseHere 24 = .ok (.aload_n 0, 1) := by decide +kernel
theorem dX7_courseHere_25 : decode cX7_courseHere 25 = .ok (.getfield 319, 3) := by decide +kernel
theorem dX7_courseHere_28 : decode cX7_courseHere 28 = .ok (.iaload, 1) := by decide +kernel
theorem dX7_courseHere_29 : decode cX7_courseHere 29 = .ok (.i2l, 1) := by decide +kernel
theorem dX7_courseHere_30 : decode cX7_courseHere 30 = .ok (.ldc2_w 353, 3) := by decide +kernel
theorem dX7_courseHere_33 : decode cX7_courseHere 33 = .ok (.ldc2_w 355, 3) := by decide +kernel
theorem dX7_courseHere_36 : decode cX7_courseHere 36 = .ok (.invokestatic 63, 3) := by decide +kernel
theorem dX7_courseHere_39 : decode cX7_courseHere 39 = .ok (.ifCond .eq 18, 3) := by decide +kernel
theorem dX7_courseHere_42 : decode cX7_courseHere 42 = .ok (.aload_n 0, 1) := by decide +kernel
theorem dX7_courseHere_43 : decode cX7_courseHere 43 = .ok (.getfield 40, 3) := by decide +kernel
theorem dX7_courseHere_46 : decode cX7_courseHere 46 = .ok (.aload_n 0, 1) := by decide +kernel
theorem dX7_courseHere_47 : decode cX7_courseHere 47 = .ok (.getfield 319, 3) := by decide +kernel
theorem dX7_courseHere_50 : decode cX7_courseHere 50 = .ok (.iaload, 1) := by decide +kernel
theorem dX7_courseHere_51 : decode cX7_courseHere 51 = .ok (.bipush 97, 2) := by decide +kernel
theorem dX7_courseHere_53 : decode cX7_courseHere 53 = .ok (.isub, 1) := by decide +kernel
theorem dX7_courseHere_54 : decode cX7_courseHere 54 = .ok (.goto 4, 3) := by decide +kernel
theorem dX7_courseHere_57 : decode cX7_courseHere 57 = .ok (.iconst (-1), 1) := by decide +kernel
theorem dX7_courseHere_58 : decode cX7_courseHere 58 = .ok (.ireturn, 1) := by decide +kernel
def fX7_courseHere (s : Mem)  : Option Int32 :=
  if (0 : Int32) ≤ (s.1 19 22) then some (-1 : Int32) else if ((s.1 19 21) - (s.1 19 20)) = (1 : Int32) then gd (s.1 19 20) 120 ((fX7_in ((s.1 28 (s.1 19 20).toNatClampNeg).toInt64) (97 : Int64) (100 : Int64)).bind (fun y2 => if y2 = (0 : Int32) then some (-1 : Int32) else gd (s.1 19 20) 120 (some (((s.1 28 (s.1 19 20).toNatClampNeg) - (97 : Int32)))))) else some (-1 : Int32)
set_option maxRecDepth 4000 in
theorem jjX7_courseHere {X : Scr} (d : Nat) (s : Mem)  {r : Int32} {w : Option Value} {s' : Mem} (hh : fX7_courseHere s = some r) (hk : w = some (.int r) ∧ s = s') : J X MX7_courseHere (d + 1) 0 [some (.ref 19)] [] s w s' := by
  unfold fX7_courseHere at hh
  refine J_aload_n (pc := 0) dX7_courseHere_0 rfl ?_
  refine J_getI (pc := 1) (k := 22) flX7_313 so19 fk19_22 dX7_courseHere_1 ?_
  refine J_if_ge (pc := 4) 57 dX7_courseHere_4 (by decide) (fun c6 => ?_) (fun c6 => ?_)
  · replace hh := (if_pos c6).symm.trans hh
    refine J_iconst (pc := 57) dX7_courseHere_57 ci_m1 ?_
    obtain rfl := Option.some.inj hh
    obtain ⟨rfl, rfl⟩ := hk
    exact J_ret (w := some (.int (-1 : Int32))) ⟨dX7_courseHere_58, _, rfl, rfl⟩
  · replace hh := (if_neg c6).symm.trans hh
    refine J_aload_n (pc := 7) dX7_courseHere_7 rfl ?_
    refine J_getI (pc := 8) (k := 21) flX7_316 so19 fk19_21 dX7_courseHere_8 ?_
    refine J_aload_n (pc := 11) dX7_courseHere_11 rfl ?_
    refine J_getI (pc := 12) (k := 20) flX7_319 so19 fk19_20 dX7_courseHere_12 ?_
    refine J_isub (pc := 15) dX7_courseHere_15 ?_
    refine J_iconst (pc := 16) dX7_courseHere_16 ci_1 ?_
    refine J_icmp_ne (pc := 17) 57 dX7_courseHere_17 (by decide) (fun c5 => ?_) (fun c5 => ?_)
    · replace hh := (if_neg c5).symm.trans hh
      refine J_iconst (pc := 57) dX7_courseHere_57 ci_m1 ?_
      obtain rfl := Option.some.inj hh
      obtain ⟨rfl, rfl⟩ := hk
      exact J_ret (w := some (.int (-1 : Int32))) ⟨dX7_courseHere_58, _, rfl, rfl⟩
    · replace hh := (if_pos c5).symm.trans hh
      refine J_aload_n (pc := 20) dX7_courseHere_20 rfl ?_
      refine J_getR (pc := 21) (k := 18) flX7_40 so19 fk19_18 dX7_courseHere_21 ?_
      refine J_aload_n (pc := 24) dX7_courseHere_24 rfl ?_
      refine J_getI (pc := 25) (k := 20) flX7_319 so19 fk19_20 dX7_courseHere_25 ?_
      obtain ⟨h1, hh⟩ := gd_some hh
      refine J_iald (pc := 28) dX7_courseHere_28 sa28 h1 ?_
      refine J_i2l (pc := 29) dX7_courseHere_29 ?_
      refine J_ldc2 (pc := 30) klX7_353 dX7_courseHere_30 ?_
      refine J_ldc2 (pc := 33) klX7_355 dX7_courseHere_33 ?_
      obtain ⟨y2, hy2, hh⟩ := bd_some hh
      refine J_callSi (pc := 36) (M' := MX7_in) (rest := []) (As := [.long ((s.1 28 (s.1 19 20).toNatClampNeg).toInt64), .long (97 : Int64), .long (100 : Int64)]) (L0 := [some (.long ((s.1 28 (s.1 19 20).toNatClampNeg).toInt64)), none, some (.long (97 : Int64)), none, some (.long (100 : Int64)), none]) okX7_in osX7_in mlX7_63 rfl rfl (Nat.le_of_ble_eq_true rfl) dX7_courseHere_36 rfl (Nat.le_of_ble_eq_true rfl) (jX7_in (X := X) d s ((s.1 28 (s.1 19 20).toNatClampNeg).toInt64) (97 : Int64) (100 : Int64) hy2) ?_
      refine J_if_eq (pc := 39) 57 dX7_courseHere_39 (by decide) (fun c4 => ?_) (fun c4 => ?_)
      · replace hh := (if_pos c4).symm.trans hh
        refine J_iconst (pc := 57) dX7_courseHere_57 ci_m1 ?_
        obtain rfl := Option.some.inj hh
        obtain ⟨rfl, rfl⟩ := hk
        exact J_ret (w := some (.int (-1 : Int32))) ⟨dX7_courseHere_58, _, rfl, rfl⟩
      · replace hh := (if_neg c4).symm.trans hh
        refine J_aload_n (pc := 42) dX7_courseHere_42 rfl ?_
        refine J_getR (pc := 43) (k := 18) flX7_40 so19 fk19_18 dX7_courseHere_43 ?_
        refine J_aload_n (pc := 46) dX7_courseHere_46 rfl ?_
        refine J_getI (pc := 47) (k := 20) flX7_319 so19 fk19_20 dX7_courseHere_47 ?_
        obtain ⟨h3, hh⟩ := gd_some hh
        refine J_iald (pc := 50) dX7_courseHere_50 sa28 h3 ?_
        refine J_bipush (pc := 51) dX7_courseHere_51 cb_97 ?_
        refine J_isub (pc := 53) dX7_courseHere_53 ?_
        refine J_goto (pc := 54) 58 dX7_courseHere_54 (by decide) ?_
        obtain rfl := Option.some.inj hh
        obtain ⟨rfl, rfl⟩ := hk
        exact J_ret (w := some (.int ((s.1 28 (s.1 19 20).toNatClampNeg) - (97 : Int32)))) ⟨dX7_courseHere_58, _, rfl, rfl⟩
theorem jX7_courseHere {X : Scr} (d : Nat) (s : Mem)  {r : Int32} (hh : fX7_courseHere s = some r) : J X MX7_courseHere (d + 1) 0 [some (.ref 19)] [] s (some (.int r)) s := jjX7_courseHere d s hh ⟨rfl, rfl⟩
theorem dX7_hours_0 : decode cX7_hours 0 = .ok (.iconst 0, 1) := by decide +kernel
theorem dX7_hours_1 : decode cX7_hours 1 = .ok (.istore_n 1, 1) := by decide +kernel
theorem dX7_hours_2 : decode cX7_hours 2 = .ok (.aload_n 0, 1) := by decide +kernel
theorem dX7_hours_3 : decode cX7_hours 3 = .ok (.aload_n 0, 1) := by decide +kernel
theorem dX7_hours_4 : decode cX7_hours 4 = .ok (.bipush 19, 2) := by decide +kernel
theorem dX7_hours_6 : decode cX7_hours 6 = .ok (.invokevirtual 346, 3) := by decide +kernel
theorem dX7_hours_9 : decode cX7_hours 9 = .ok (.ifCond .lt 7, 3) := by decide +kernel
theorem dX7_hours_12 : decode cX7_hours 12 = .ok (.iconst 1, 1) := by decide +kernel
theorem dX7_hours_13 : decode cX7_hours 13 = .ok (.goto 4, 3) := by decide +kernel
theorem dX7_hours_16 : decode cX7_hours 16 = .ok (.iconst 0, 1) := by decide +kernel
theorem dX7_hours_17 : decode cX7_hours 17 = .ok (.invokevirtual 349, 3) := by decide +kernel
theorem dX7_hours_20 : decode cX7_hours 20 = .ok (.aload_n 0, 1) := by decide +kernel
theorem dX7_hours_21 : decode cX7_hours 21 = .ok (.bipush 19, 2) := by decide +kernel
theorem dX7_hours_23 : decode cX7_hours 23 = .ok (.invokevirtual 346, 3) := by decide +kernel
theorem dX7_hours_26 : decode cX7_hours 26 = .ok (.ifCond .lt 21, 3) := by decide +kernel
theorem dX7_hours_29 : decode cX7_hours 29 = .ok (.iload_n 1, 1) := by decide +kernel
theorem dX7_hours_30 : decode cX7_hours 30 = .ok (.iconst 1, 1) := by decide +kernel
theorem dX7_hours_31 : decode cX7_hours 31 = .ok (.aload_n 0, 1) := by decide +kernel
theorem dX7_hours_32 : decode cX7_hours 32 = .ok (.bipush 19, 2) := by decide +kernel
theorem dX7_hours_34 : decode cX7_hours 34 = .ok (.invokevirtual 346, 3) := by decide +kernel
theorem dX7_hours_37 : decode cX7_hours 37 = .ok (.ishl, 1) := by decide +kernel
theorem dX7_hours_38 : decode cX7_hours 38 = .ok (.ior, 1) := by decide +kernel
theorem dX7_hours_39 : decode cX7_hours 39 = .ok (.istore_n 1, 1) := by decide +kernel
theorem dX7_hours_40 : decode cX7_hours 40 = .ok (.aload_n 0, 1) := by decide +kernel
theorem dX7_hours_41 : decode cX7_hours 41 = .ok (.invokevirtual 339, 3) := by decide +kernel
theorem dX7_hours_44 : decode cX7_hours 44 = .ok (.goto (-24), 3) := by decide +kernel
theorem dX7_hours_47 : decode cX7_hours 47 = .ok (.iload_n 1, 1) := by decide +kernel
theorem dX7_hours_48 : decode cX7_hours 48 = .ok (.ireturn, 1) := by decide +kernel
def bX7_hours_20 (s : Mem) (v1 : Int32) : Option ((Int32 × Mem) ⊕ (Int32 × Mem)) :=
  (fX7_numberHere s (19 : Int32)).bind (fun y3 => if y3 < (0 : Int32) then some (Sum.inl (v1, s)) else (fX7_numberHere s (19 : Int32)).bind (fun y4 => lt (v1 ||| ((1 : Int32) <<< (y4 &&& 31))) (fun x5 => (fX7_goesOn s).bind (fun y6 => some (Sum.inr (x5, y6))))))
set_option maxRecDepth 4000 in
theorem jbX7_hours_20 {X : Scr} (d : Nat) (s : Mem) (v1 : Int32) {r : ((Int32 × Mem) ⊕ (Int32 × Mem))} {w : Option Value} {s' : Mem} (hh : bX7_hours_20 s v1 = some r) (hk : Sum.elim (fun t : (Int32 × Mem) => J X MX7_hours (d + 2) 47 [none, some (.int t.1)] [] t.2 w s') (fun a : (Int32 × Mem) => J X MX7_hours (d + 2) 20 [some (.ref 19), some (.int a.1)] [] a.2 w s') r) : J X MX7_hours (d + 2) 20 [some (.ref 19), some (.int v1)] [] s w s' := by
  unfold bX7_hours_20 at hh
  refine J_aload_n (pc := 20) dX7_hours_20 rfl ?_
  refine J_bipush (pc := 21) dX7_hours_21 cb_19 ?_
  obtain ⟨y3, hy3, hh⟩ := bd_some hh
  refine J_callVi (pc := 23) (M' := MX7_numberHere) (a := 19) (rest := []) (As := [.int (19 : Int32)]) (L0 := [some (.ref 19), some (.int (19 : Int32)), none, none, none]) okX7_numberHere ovX7_numberHere mlX7_346 clX7 so19 rfl rfl (Nat.le_of_ble_eq_true rfl) dX7_hours_23 rfl (Nat.le_of_ble_eq_true rfl) (jX7_numberHere (X := X) d s (19 : Int32) hy3) ?_
  refine J_if_lt (pc := 26) 47 dX7_hours_26 (by decide) (fun c7 => ?_) (fun c7 => ?_)
  · replace hh := (if_pos c7).symm.trans hh
    refine J_drop 0 (L' := [none, some (.int v1)]) rfl ?_
    obtain rfl := Option.some.inj hh
    exact hk
  · replace hh := (if_neg c7).symm.trans hh
    refine J_iload_n (pc := 29) dX7_hours_29 rfl ?_
    refine J_iconst (pc := 30) dX7_hours_30 ci_1 ?_
    refine J_aload_n (pc := 31) dX7_hours_31 rfl ?_
    refine J_bipush (pc := 32) dX7_hours_32 cb_19 ?_
    obtain ⟨y4, hy4, hh⟩ := bd_some hh
    refine J_callVi (pc := 34) (M' := MX7_numberHere) (a := 19) (rest := [.int (1 : Int32), .int v1]) (As := [.int (19 : Int32)]) (L0 := [some (.ref 19), some (.int (19 : Int32)), none, none, none]) okX7_numberHere ovX7_numberHere mlX7_346 clX7 so19 rfl rfl (Nat.le_of_ble_eq_true rfl) dX7_hours_34 rfl (Nat.le_of_ble_eq_true rfl) (jX7_numberHere (X := X) d s (19 : Int32) hy4) ?_
    refine J_ishl (pc := 37) dX7_hours_37 ?_
    refine J_ior (pc := 38) dX7_hours_38 ?_
    refine J_istoreL_n (pc := 39) (fun x5 => [some (.ref 19), some (.int x5)]) dX7_hours_39 rfl (Nat.le_of_ble_eq_true rfl) (fun _ => rfl) hh (fun x5 hh => ?_)
    refine J_aload_n (pc := 40) dX7_hours_40 rfl ?_
    obtain ⟨y6, hy6, hh⟩ := bd_some hh
    refine J_callV0 (pc := 41) (M' := MX7_goesOn) (a := 19) (rest := []) (As := []) (L0 := [some (.ref 19)]) okX7_goesOn ovX7_goesOn mlX7_339 clX7 so19 rfl rfl (Nat.le_of_ble_eq_true rfl) dX7_hours_41 rfl (Nat.le_of_ble_eq_true rfl) (jX7_goesOn (X := X) d s hy6) ?_
    refine J_goto (pc := 44) 20 dX7_hours_44 (by decide) ?_
    obtain rfl := Option.some.inj hh
    exact hk
def gX7_hours_17 (s : Mem) (v1 : Int32) (k0 : Int32) : Option (Int32 × Mem) :=
  (fX7_must s k0).bind (fun y2 => (lp (fun a => bX7_hours_20 a.2 a.1) 600 (v1, y2)).bind (fun y8 => some ((y8.1, y8.2))))
set_option maxRecDepth 4000 in
theorem jgX7_hours_17 {X : Scr} (d : Nat) (s : Mem) (v1 : Int32) (k0 : Int32) {r : (Int32 × Mem)} {w : Option Value} {s' : Mem} (hh : gX7_hours_17 s v1 k0 = some r) (hk : w = some (.int r.1) ∧ r.2 = s') : J X MX7_hours (d + 2) 17 [some (.ref 19), some (.int v1)] [.int k0, .ref 19] s w s' := by
  unfold gX7_hours_17 at hh
  obtain ⟨y2, hy2, hh⟩ := bd_some hh
  refine J_callV0 (pc := 17) (M' := MX7_must) (a := 19) (rest := []) (As := [.int k0]) (L0 := [some (.ref 19), some (.int k0)]) okX7_must ovX7_must mlX7_349 clX7 so19 rfl rfl (Nat.le_of_ble_eq_true rfl) dX7_hours_17 rfl (Nat.le_of_ble_eq_true rfl) (jX7_must (X := X) (d + 1) s k0 hy2) ?_
  obtain ⟨y8, hy8, hh⟩ := bd_some hh
  refine J_lp (a := (v1, y2)) (fun a : (Int32 × Mem) => J X MX7_hours (d + 2) 20 [some (.ref 19), some (.int a.1)] [] a.2 w s') (fun t : (Int32 × Mem) => J X MX7_hours (d + 2) 47 [none, some (.int t.1)] [] t.2 w s') (fun a q h1 h2 => jbX7_hours_20 d a.2 a.1 h1 h2) hy8 ?_
  refine J_iload_n (pc := 47) dX7_hours_47 rfl ?_
  obtain rfl := Option.some.inj hh
  obtain ⟨rfl, rfl⟩ := hk
  exact J_ret (w := some (.int y8.1)) ⟨dX7_hours_48, _, rfl, rfl⟩
def fX7_hours (s : Mem)  : Option (Int32 × Mem) :=
  (fX7_numberHere s (19 : Int32)).bind (fun y1 => if y1 < (0 : Int32) then gX7_hours_17 s (0 : Int32) (0 : Int32) else gX7_hours_17 s (0 : Int32) (1 : Int32))
set_option maxRecDepth 4000 in
theorem jjX7_hours {X : Scr} (d : Nat) (s : Mem)  {r : (Int32 × Mem)} {w : Option Value} {s' : Mem} (hh : fX7_hours s = some r) (hk : w = some (.int r.1) ∧ r.2 = s') : J X MX7_hours (d + 2) 0 [some (.ref 19), none] [] s w s' := by
  unfold fX7_hours at hh
  refine J_iconst (pc := 0) dX7_hours_0 ci_0 ?_
  refine J_istore_n (pc := 1) (L' := [some (.ref 19), some (.int (0 : Int32))]) dX7_hours_1 rfl (Nat.le_of_ble_eq_true rfl) rfl ?_
  refine J_aload_n (pc := 2) dX7_hours_2 rfl ?_
  refine J_aload_n (pc := 3) dX7_hours_3 rfl ?_
  refine J_bipush (pc := 4) dX7_hours_4 cb_19 ?_
  obtain ⟨y1, hy1, hh⟩ := bd_some hh
  refine J_callVi (pc := 6) (M' := MX7_numberHere) (a := 19) (rest := [.ref 19]) (As := [.int (19 : Int32)]) (L0 := [some (.ref 19), some (.int (19 : Int32)), none, none, none]) okX7_numberHere ovX7_numberHere mlX7_346 clX7 so19 rfl rfl (Nat.le_of_ble_eq_true rfl) dX7_hours_6 rfl (Nat.le_of_ble_eq_true rfl) (jX7_numberHere (X := X) d s (19 : Int32) hy1) ?_
  refine J_if_lt (pc := 9) 16 dX7_hours_9 (by decide) (fun c9 => ?_) (fun c9 => ?_)
  · replace hh := (if_pos c9).symm.trans hh
    refine J_iconst (pc := 16) dX7_hours_16 ci_0 ?_
    exact jgX7_hours_17 d s (0 : Int32) (0 : Int32) hh hk
  · replace hh := (if_neg c9).symm.trans hh
    refine J_iconst (pc := 12) dX7_hours_12 ci_1 ?_
    refine J_goto (pc := 13) 17 dX7_hours_13 (by decide) ?_
    exact jgX7_hours_17 d s (0 : Int32) (1 : Int32) hh hk
theorem jX7_hours {X : Scr} (d : Nat) (s : Mem)  {r : (Int32 × Mem)} (hh : fX7_hours s = some r) : J X MX7_hours (d + 2) 0 [some (.ref 19), none] [] s (some (.int r.1)) r.2 := jjX7_hours d s hh ⟨rfl, rfl⟩
theorem dX7_courses_0 : decode cX7_courses 0 = .ok (.iconst 0, 1) := by decide +kernel
theorem dX7_courses_1 : decode cX7_courses 1 = .ok (.istore_n 1, 1) := by decide +kernel
theorem dX7_courses_2 : decode cX7_courses 2 = .ok (.aload_n 0, 1) := by decide +kernel
theorem dX7_courses_3 : decode cX7_courses 3 = .ok (.aload_n 0, 1) := by decide +kernel
theorem dX7_courses_4 : decode cX7_courses 4 = .ok (.invokevirtual 357, 3) := by decide +kernel
theorem dX7_courses_7 : decode cX7_courses 7 = .ok (.ifCond .lt 7, 3) := by decide +kernel
theorem dX7_courses_10 : decode cX7_courses 10 = .ok (.iconst 1, 1) := by decide +kernel
theorem dX7_courses_11 : decode cX7_courses 11 = .ok (.goto 4, 3) := by decide +kernel
theorem dX7_courses_14 : decode cX7_courses 14 = .ok (.iconst 0, 1) := by decide +kernel
theorem dX7_courses_15 : decode cX7_courses 15 = .ok (.invokevirtual 349, 3) := by decide +kernel
theorem dX7_courses_18 : decode cX7_courses 18 = .ok (.aload_n 0, 1) := by decide +kernel
theorem dX7_courses_19 : decode cX7_courses 19 = .ok (.invokevirtual 357, 3) := by decide +kernel
theorem dX7_courses_22 : decode cX7_courses 22 = .ok (.ifCond .lt 19, 3) := by decide +kernel
theorem dX7_courses_25 : decode cX7_courses 25 = .ok (.iload_n 1, 1) := by decide +kernel
theorem dX7_courses_26 : decode cX7_courses 26 = .ok (.iconst 1, 1) := by decide +kernel
theorem dX7_courses_27 : decode cX7_courses 27 = .ok (.aload_n 0, 1) := by decide +kernel
theorem dX7_courses_28 : decode cX7_courses 28 = .ok (.invokevirtual 357, 3) := by decide +kernel
theorem dX7_courses_31 : decode cX7_courses 31 = .ok (.ishl, 1) := by decide +kernel
theorem dX7_courses_32 : decode cX7_courses 32 = .ok (.ior, 1) := by decide +kernel
theorem dX7_courses_33 : decode cX7_courses 33 = .ok (.istore_n 1, 1) := by decide +kernel
theorem dX7_courses_34 : decode cX7_courses 34 = .ok (.aload_n 0, 1) := by decide +kernel
theorem dX7_courses_35 : decode cX7_courses 35 = .ok (.invokevirtual 339, 3) := by decide +kernel
theorem dX7_courses_38 : decode cX7_courses 38 = .ok (.goto (-20), 3) := by decide +kernel
theorem dX7_courses_41 : decode cX7_courses 41 = .ok (.iload_n 1, 1) := by decide +kernel
theorem dX7_courses_42 : decode cX7_courses 42 = .ok (.ireturn, 1) := by decide +kernel
def bX7_courses_18 (s : Mem) (v1 : Int32) : Option ((Int32 × Mem) ⊕ (Int32 × Mem)) :=
  (fX7_courseHere s).bind (fun y3 => if y3 < (0 : Int32) then some (Sum.inl (v1, s)) else (fX7_courseHere s).bind (fun y4 => lt (v1 ||| ((1 : Int32) <<< (y4 &&& 31))) (fun x5 => (fX7_goesOn s).bind (fun y6 => some (Sum.inr (x5, y6))))))
set_option maxRecDepth 4000 in
theorem jbX7_courses_18 {X : Scr} (d : Nat) (s : Mem) (v1 : Int32) {r : ((Int32 × Mem) ⊕ (Int32 × Mem))} {w : Option Value} {s' : Mem} (hh : bX7_courses_18 s v1 = some r) (hk : Sum.elim (fun t : (Int32 × Mem) => J X MX7_courses (d + 2) 41 [none, some (.int t.1)] [] t.2 w s') (fun a : (Int32 × Mem) => J X MX7_courses (d + 2) 18 [some (.ref 19), some (.int a.1)] [] a.2 w s') r) : J X MX7_courses (d + 2) 18 [some (.ref 19), some (.int v1)] [] s w s' := by
  unfold bX7_courses_18 at hh
  refine J_aload_n (pc := 18) dX7_courses_18 rfl ?_
  obtain ⟨y3, hy3, hh⟩ := bd_some hh
  refine J_callVi (pc := 19) (M' := MX7_courseHere) (a := 19) (rest := []) (As := []) (L0 := [some (.ref 19)]) okX7_courseHere ovX7_courseHere mlX7_357 clX7 so19 rfl rfl (Nat.le_of_ble_eq_true rfl) dX7_courses_19 rfl (Nat.le_of_ble_eq_true rfl) (jX7_courseHere (X := X) d s hy3) ?_
  refine J_if_lt (pc := 22) 41 dX7_courses_22 (by decide) (fun c7 => ?_) (fun c7 => ?_)
  · replace hh := (if_pos c7).symm.trans hh
    refine J_drop 0 (L' := [none, some (.int v1)]) rfl ?_
    obtain rfl := Option.some.inj hh
    exact hk
  · replace hh := (if_neg c7).symm.trans hh
    refine J_iload_n (pc := 25) dX7_courses_25 rfl ?_
    refine J_iconst (pc := 26) dX7_courses_26 ci_1 ?_
    refine J_aload_n (pc := 27) dX7_courses_27 rfl ?_
    obtain ⟨y4, hy4, hh⟩ := bd_some hh
    refine J_callVi (pc := 28) (M' := MX7_courseHere) (a := 19) (rest := [.int (1 : Int32), .int v1]) (As := []) (L0 := [some (.ref 19)]) okX7_courseHere ovX7_courseHere mlX7_357 clX7 so19 rfl rfl (Nat.le_of_ble_eq_true rfl) dX7_courses_28 rfl (Nat.le_of_ble_eq_true rfl) (jX7_courseHere (X := X) d s hy4) ?_
    refine J_ishl (pc := 31) dX7_courses_31 ?_
    refine J_ior (pc := 32) dX7_courses_32 ?_
    refine J_istoreL_n (pc := 33) (fun x5 => [some (.ref 19), some (.int x5)]) dX7_courses_33 rfl (Nat.le_of_ble_eq_true rfl) (fun _ => rfl) hh (fun x5 hh => ?_)
    refine J_aload_n (pc := 34) dX7_courses_34 rfl ?_
    obtain ⟨y6, hy6, hh⟩ := bd_some hh
    refine J_callV0 (pc := 35) (M' := MX7_goesOn) (a := 19) (rest := []) (As := []) (L0 := [some (.ref 19)]) okX7_goesOn ovX7_goesOn mlX7_339 clX7 so19 rfl rfl (Nat.le_of_ble_eq_true rfl) dX7_courses_35 rfl (Nat.le_of_ble_eq_true rfl) (jX7_goesOn (X := X) d s hy6) ?_
    refine J_goto (pc := 38) 18 dX7_courses_38 (by decide) ?_
    obtain rfl := Option.some.inj hh
    exact hk
def gX7_courses_15 (s : Mem) (v1 : Int32) (k0 : Int32) : Option (Int32 × Mem) :=
  (fX7_must s k0).bind (fun y2 => (lp (fun a => bX7_courses_18 a.2 a.1) 600 (v1, y2)).bind (fun y8 => some ((y8.1, y8.2))))
set_option maxRecDepth 4000 in
theorem jgX7_courses_15 {X : Scr} (d : Nat) (s : Mem) (v1 : Int32) (k0 : Int32) {r : (Int32 × Mem)} {w : Option Value} {s' : Mem} (hh : gX7_courses_15 s v1 k0 = some r) (hk : w = some (.int r.1) ∧ r.2 = s') : J X MX7_courses (d + 2) 15 [some (.ref 19), some (.int v1)] [.int k0, .ref 19] s w s' := by
  unfold gX7_courses_15 at hh
  obtain ⟨y2, hy2, hh⟩ := bd_some hh
  refine J_callV0 (pc := 15) (M' := MX7_must) (a := 19) (rest := []) (As := [.int k0]) (L0 := [some (.ref 19), some (.int k0)]) okX7_must ovX7_must mlX7_349 clX7 so19 rfl rfl (Nat.le_of_ble_eq_true rfl) dX7_courses_15 rfl (Nat.le_of_ble_eq_true rfl) (jX7_must (X := X) (d + 1) s k0 hy2) ?_
  obtain ⟨y8, hy8, hh⟩ := bd_some hh
  refine J_lp (a := (v1, y2)) (fun a : (Int32 × Mem) => J X MX7_courses (d + 2) 18 [some (.ref 19), some (.int a.1)] [] a.2 w s') (fun t : (Int32 × Mem) => J X MX7_courses (d + 2) 41 [none, some (.int t.1)] [] t.2 w s') (fun a q h1 h2 => jbX7_courses_18 d a.2 a.1 h1 h2) hy8 ?_
  refine J_iload_n (pc := 41) dX7_courses_41 rfl ?_
  obtain rfl := Option.some.inj hh
  obtain ⟨rfl, rfl⟩ := hk
  exact J_ret (w := some (.int y8.1)) ⟨dX7_courses_42, _, rfl, rfl⟩
def fX7_courses (s : Mem)  : Option (Int32 × Mem) :=
  (fX7_courseHere s).bind (fun y1 => if y1 < (0 : Int32) then gX7_courses_15 s (0 : Int32) (0 : Int32) else gX7_courses_15 s (0 : Int32) (1 : Int32))
set_option maxRecDepth 4000 in
theorem jjX7_courses {X : Scr} (d : Nat) (s : Mem)  {r : (Int32 × Mem)} {w : Option Value} {s' : Mem} (hh : fX7_courses s = some r) (hk : w = some (.int r.1) ∧ r.2 = s') : J X MX7_courses (d + 2) 0 [some (.ref 19), none] [] s w s' := by
  unfold fX7_courses at hh
  refine J_iconst (pc := 0) dX7_courses_0 ci_0 ?_
  refine J_istore_n (pc := 1) (L' := [some (.ref 19), some (.int (0 : Int32))]) dX7_courses_1 rfl (Nat.le_of_ble_eq_true rfl) rfl ?_
  refine J_aload_n (pc := 2) dX7_courses_2 rfl ?_
  refine J_aload_n (pc := 3) dX7_courses_3 rfl ?_
  obtain ⟨y1, hy1, hh⟩ := bd_some hh
  refine J_callVi (pc := 4) (M' := MX7_courseHere) (a := 19) (rest := [.ref 19]) (As := []) (L0 := [some (.ref 19)]) okX7_courseHere ovX7_courseHere mlX7_357 clX7 so19 rfl rfl (Nat.le_of_ble_eq_true rfl) dX7_courses_4 rfl (Nat.le_of_ble_eq_true rfl) (jX7_courseHere (X := X) d s hy1) ?_
  refine J_if_lt (pc := 7) 14 dX7_courses_7 (by decide) (fun c9 => ?_) (fun c9 => ?_)
  · replace hh := (if_pos c9).symm.trans hh
    refine J_iconst (pc := 14) dX7_courses_14 ci_0 ?_
    exact jgX7_courses_15 d s (0 : Int32) (0 : Int32) hh hk
  · replace hh := (if_neg c9).symm.trans hh
    refine J_iconst (pc := 10) dX7_courses_10 ci_1 ?_
    refine J_goto (pc := 11) 15 dX7_courses_11 (by decide) ?_
    exact jgX7_courses_15 d s (0 : Int32) (1 : Int32) hh hk
theorem jX7_courses {X : Scr} (d : Nat) (s : Mem)  {r : (Int32 × Mem)} (hh : fX7_courses s = some r) : J X MX7_courses (d + 2) 0 [some (.ref 19), none] [] s (some (.int r.1)) r.2 := jjX7_courses d s hh ⟨rfl, rfl⟩
theorem dX7_kindWord_0 : decode cX7_kindWord 0 = .ok (.iload_n 0, 1) := by decide +kernel
theorem dX7_kindWord_1 : decode cX7_kindWord 1 = .ok (.ifCond .ne 9, 3) := by decide +kernel
theorem dX7_kindWord_4 : decode cX7_kindWord 4 = .ok (.ldc_w 360, 3) := by decide +kernel
theorem dX7_kindWord_7 : decode cX7_kindWord 7 = .ok (.goto 50, 3) := by decide +kernel
theorem dX7_kindWord_10 : decode cX7_kindWord 10 = .ok (.iload_n 0, 1) := by decide +kernel
theorem dX7_kindWord_11 : decode cX7_kindWord 11 = .ok (.iconst 1, 1) := by decide +kernel
theorem dX7_kindWord_12 : decode cX7_kindWord 12 = .ok (.if_icmp .ne 9, 3) := by decide +kernel
theorem dX7_kindWord_15 : decode cX7_kindWord 15 = .ok (.ldc_w 362, 3) := by decide +kernel
theorem dX7_kindWord_18 : decode cX7_kindWord 18 = .ok (.goto 39, 3) := by decide +kernel
theorem dX7_kindWord_21 : decode cX7_kindWord 21 = .ok (.iload_n 0, 1) := by decide +kernel
theorem dX7_kindWord_22 : decode cX7_kindWord 22 = .ok (.iconst 2, 1) := by decide +kernel
theorem dX7_kindWord_23 : decode cX7_kindWord 23 = .ok (.if_icmp .ne 9, 3) := by decide +kernel
theorem dX7_kindWord_26 : decode cX7_kindWord 26 = .ok (.ldc_w 364, 3) := by decide +kernel
theorem dX7_kindWord_29 : decode cX7_kindWord 29 = .ok (.goto 28, 3) := by decide +kernel
theorem dX7_kindWord_32 : decode cX7_kindWord 32 = .ok (.iload_n 0, 1) := by decide +kernel
theorem dX7_kindWord_33 : decode cX7_kindWord 33 = .ok (.iconst 3, 1) := by decide +kernel
theorem dX7_kindWord_34 : decode cX7_kindWord 34 = .ok (.if_icmp .ne 9, 3) := by decide +kernel
theorem dX7_kindWord_37 : decode cX7_kindWord 37 = .ok (.ldc_w 366, 3) := by decide +kernel
theorem dX7_kindWord_40 : decode cX7_kindWord 40 = .ok (.goto 17, 3) := by decide +kernel
theorem dX7_kindWord_43 : decode cX7_kindWord 43 = .ok (.iload_n 0, 1) := by decide +kernel
theorem dX7_kindWord_44 : decode cX7_kindWord 44 = .ok (.iconst 4, 1) := by decide +kernel
theorem dX7_kindWord_45 : decode cX7_kindWord 45 = .ok (.if_icmp .ne 9, 3) := by decide +kernel
theorem dX7_kindWord_48 : decode cX7_kindWord 48 = .ok (.ldc_w 368, 3) := by decide +kernel
theorem dX7_kindWord_51 : decode cX7_kindWord 51 = .ok (.goto 6, 3) := by decide +kernel
theorem dX7_kindWord_54 : decode cX7_kindWord 54 = .ok (.ldc_w 370, 3) := by decide +kernel
theorem dX7_kindWord_57 : decode cX7_kindWord 57 = .ok (.areturn, 1) := by decide +kernel
def fX7_kindWord (p0 : Int32) : Option Nat :=
  if p0 = (0 : Int32) then some 14 else if p0 = (1 : Int32) then some 15 else if p0 = (2 : Int32) then some 16 else if p0 = (3 : Int32) then some 17 else if p0 = (4 : Int32) then some 18 else some 19
set_option maxRecDepth 4000 in
theorem jjX7_kindWord {X : Scr} (d : Nat) {s : Mem} (p0 : Int32) {r : Nat} {w : Option Value} {s' : Mem} (hh : fX7_kindWord p0 = some r) (hk : w = some (.ref (1000 + r)) ∧ s = s') : J X MX7_kindWord (d + 0) 0 [some (.int p0)] [] s w s' := by
  unfold fX7_kindWord at hh
  refine J_iload_n (pc := 0) dX7_kindWord_0 rfl ?_
  refine J_if_ne (pc := 1) 10 dX7_kindWord_1 (by decide) (fun c5 => ?_) (fun c5 => ?_)
  · replace hh := (if_neg c5).symm.trans hh
    refine J_iload_n (pc := 10) dX7_kindWord_10 rfl ?_
    refine J_iconst (pc := 11) dX7_kindWord_11 ci_1 ?_
    refine J_icmp_ne (pc := 12) 21 dX7_kindWord_12 (by decide) (fun c4 => ?_) (fun c4 => ?_)
    · replace hh := (if_neg c4).symm.trans hh
      refine J_iload_n (pc := 21) dX7_kindWord_21 rfl ?_
      refine J_iconst (pc := 22) dX7_kindWord_22 ci_2 ?_
      refine J_icmp_ne (pc := 23) 32 dX7_kindWord_23 (by decide) (fun c3 => ?_) (fun c3 => ?_)
      · replace hh := (if_neg c3).symm.trans hh
        refine J_iload_n (pc := 32) dX7_kindWord_32 rfl ?_
        refine J_iconst (pc := 33) dX7_kindWord_33 ci_3 ?_
        refine J_icmp_ne (pc := 34) 43 dX7_kindWord_34 (by decide) (fun c2 => ?_) (fun c2 => ?_)
        · replace hh := (if_neg c2).symm.trans hh
          refine J_iload_n (pc := 43) dX7_kindWord_43 rfl ?_
          refine J_iconst (pc := 44) dX7_kindWord_44 ci_4 ?_
          refine J_icmp_ne (pc := 45) 54 dX7_kindWord_45 (by decide) (fun c1 => ?_) (fun c1 => ?_)
          · replace hh := (if_neg c1).symm.trans hh
            refine J_ldcwS (pc := 54) (i := 19) sl19 dX7_kindWord_54 ?_
            obtain rfl := Option.some.inj hh
            obtain ⟨rfl, rfl⟩ := hk
            exact J_ret (w := some (.ref (1000 + 19))) ⟨dX7_kindWord_57, _, rfl⟩
          · replace hh := (if_pos c1).symm.trans hh
            refine J_ldcwS (pc := 48) (i := 18) sl18 dX7_kindWord_48 ?_
            refine J_goto (pc := 51) 57 dX7_kindWord_51 (by decide) ?_
            obtain rfl := Option.some.inj hh
            obtain ⟨rfl, rfl⟩ := hk
            exact J_ret (w := some (.ref (1000 + 18))) ⟨dX7_kindWord_57, _, rfl⟩
        · replace hh := (if_pos c2).symm.trans hh
          refine J_ldcwS (pc := 37) (i := 17) sl17 dX7_kindWord_37 ?_
          refine J_goto (pc := 40) 57 dX7_kindWord_40 (by decide) ?_
          obtain rfl := Option.some.inj hh
          obtain ⟨rfl, rfl⟩ := hk
          exact J_ret (w := some (.ref (1000 + 17))) ⟨dX7_kindWord_57, _, rfl⟩
      · replace hh := (if_pos c3).symm.trans hh
        refine J_ldcwS (pc := 26) (i := 16) sl16 dX7_kindWord_26 ?_
        refine J_goto (pc := 29) 57 dX7_kindWord_29 (by decide) ?_
        obtain rfl := Option.some.inj hh
        obtain ⟨rfl, rfl⟩ := hk
        exact J_ret (w := some (.ref (1000 + 16))) ⟨dX7_kindWord_57, _, rfl⟩
    · replace hh := (if_pos c4).symm.trans hh
      refine J_ldcwS (pc := 15) (i := 15) sl15 dX7_kindWord_15 ?_
      refine J_goto (pc := 18) 57 dX7_kindWord_18 (by decide) ?_
      obtain rfl := Option.some.inj hh
      obtain ⟨rfl, rfl⟩ := hk
      exact J_ret (w := some (.ref (1000 + 15))) ⟨dX7_kindWord_57, _, rfl⟩
  · replace hh := (if_pos c5).symm.trans hh
    refine J_ldcwS (pc := 4) (i := 14) sl14 dX7_kindWord_4 ?_
    refine J_goto (pc := 7) 57 dX7_kindWord_7 (by decide) ?_
    obtain rfl := Option.some.inj hh
    obtain ⟨rfl, rfl⟩ := hk
    exact J_ret (w := some (.ref (1000 + 14))) ⟨dX7_kindWord_57, _, rfl⟩
theorem jX7_kindWord {X : Scr} (d : Nat) (s : Mem) (p0 : Int32) {r : Nat} (hh : fX7_kindWord p0 = some r) : J X MX7_kindWord (d + 0) 0 [some (.int p0)] [] s (some (.ref (1000 + r))) s := jjX7_kindWord d p0 hh ⟨rfl, rfl⟩
theorem dX7_pupilItem_0 : decode cX7_pupilItem 0 = .ok (.aload_n 0, 1) := by decide +kernel
theorem dX7_pupilItem_1 : decode cX7_pupilItem 1 = .ok (.aload_n 0, 1) := by decide +kernel
theorem dX7_pupilItem_2 : decode cX7_pupilItem 2 = .ok (.getfield 9, 3) := by decide +kernel
theorem dX7_pupilItem_5 : decode cX7_pupilItem 5 = .ok (.bipush 96, 2) := by decide +kernel
theorem dX7_pupilItem_7 : decode cX7_pupilItem 7 = .ok (.iaload, 1) := by decide +kernel
theorem dX7_pupilItem_8 : decode cX7_pupilItem 8 = .ok (.bipush 6, 2) := by decide +kernel
theorem dX7_pupilItem_10 : decode cX7_pupilItem 10 = .ok (.if_icmp .ge 7, 3) := by decide +kernel
theorem dX7_pupilItem_13 : decode cX7_pupilItem 13 = .ok (.iconst 1, 1) := by decide +kernel
theorem dX7_pupilItem_14 : decode cX7_pupilItem 14 = .ok (.goto 4, 3) := by decide +kernel
theorem dX7_pupilItem_17 : decode cX7_pupilItem 17 = .ok (.iconst 0, 1) := by decide +kernel
theorem dX7_pupilItem_18 : decode cX7_pupilItem 18 = .ok (.invokevirtual 349, 3) := by decide +kernel
theorem dX7_pupilItem_21 : decode cX7_pupilItem 21 = .ok (.aload_n 0, 1) := by decide +kernel
theorem dX7_pupilItem_22 : decode cX7_pupilItem 22 = .ok (.invokevirtual 339, 3) := by decide +kernel
theorem dX7_pupilItem_25 : decode cX7_pupilItem 25 = .ok (.aload_n 0, 1) := by decide +kernel
theorem dX7_pupilItem_26 : decode cX7_pupilItem 26 = .ok (.ldc_w 371, 3) := by decide +kernel
theorem dX7_pupilItem_29 : decode cX7_pupilItem 29 = .ok (.invokevirtual 372, 3) := by decide +kernel
theorem dX7_pupilItem_32 : decode cX7_pupilItem 32 = .ok (.ifCond .eq 10, 3) := by decide +kernel
theorem dX7_pupilItem_35 : decode cX7_pupilItem 35 = .ok (.aload_n 0, 1) := by decide +kernel
theorem dX7_pupilItem_36 : decode cX7_pupilItem 36 = .ok (.invokevirtual 375, 3) := by decide +kernel
theorem dX7_pupilItem_39 : decode cX7_pupilItem 39 = .ok (.goto 4, 3) := by decide +kernel
theorem dX7_pupilItem_42 : decode cX7_pupilItem 42 = .ok (.iconst 0, 1) := by decide +kernel
theorem dX7_pupilItem_43 : decode cX7_pupilItem 43 = .ok (.istore_n 2, 1) := by decide +kernel
theorem dX7_pupilItem_44 : decode cX7_pupilItem 44 = .ok (.aload_n 0, 1) := by decide +kernel
theorem dX7_pupilItem_45 : decode cX7_pupilItem 45 = .ok (.ldc_w 378, 3) := by decide +kernel
theorem dX7_pupilItem_48 : decode cX7_pupilItem 48 = .ok (.invokevirtual 372, 3) := by decide +kernel
theorem dX7_pupilItem_51 : decode cX7_pupilItem 51 = .ok (.ifCond .eq 10, 3) := by decide +kernel
theorem dX7_pupilItem_54 : decode cX7_pupilItem 54 = .ok (.aload_n 0, 1) := by decide +kernel
theorem dX7_pupilItem_55 : decode cX7_pupilItem 55 = .ok (.invokevirtual 380, 3) := by decide +kernel
theorem dX7_pupilItem_58 : decode cX7_pupilItem 58 = .ok (.goto 4, 3) := by decide +kernel
theorem dX7_pupilItem_61 : decode cX7_pupilItem 61 = .ok (.iconst 0, 1) := by decide +kernel
theorem dX7_pupilItem_62 : decode cX7_pupilItem 62 = .ok (.istore_n 3, 1) := by decide +kernel
theorem dX7_pupilItem_63 : decode cX7_pupilItem 63 = .ok (.aload_n 0, 1) := by decide +kernel
theorem dX7_pupilItem_64 : decode cX7_pupilItem 64 = .ok (.getfield 313, 3) := by decide +kernel
theorem dX7_pupilItem_67 : decode cX7_pupilItem 67 = .ok (.ifCond .ge 10, 3) := by decide +kernel
theorem dX7_pupilItem_70 : decode cX7_pupilItem 70 = .ok (.aload_n 0, 1) := by decide +kernel
theorem dX7_pupilItem_71 : decode cX7_pupilItem 71 = .ok (.iload_n 1, 1) := by decide +kernel
theorem dX7_pupilItem_72 : decode cX7_pupilItem 72 = .ok (.iload_n 2, 1) := by decide +kernel
theorem dX7_pupilItem_73 : decode cX7_pupilItem 73 = .ok (.iload_n 3, 1) := by decide +kernel
theorem dX7_pupilItem_74 : decode cX7_pupilItem 74 = .ok (.invokevirtual 193, 3) := by decide +kernel
theorem dX7_pupilItem_77 : decode cX7_pupilItem 77 = .ok (.return_, 1) := by decide +kernel
def gX7_pupilItem_62 (s : Mem) (v1 : Int32) (v2 : Int32) (k0 : Int32) : Option Mem :=
  if (0 : Int32) ≤ (s.1 19 22) then some s else (fX7_comes s v1 v2 k0).bind (fun y6 => some y6)
set_option maxRecDepth 4000 in
theorem jgX7_pupilItem_62 {X : Scr} (d : Nat) (s : Mem) (v1 : Int32) (v2 : Int32) (k0 : Int32) {r : Mem} {w : Option Value} {s' : Mem} (hh : gX7_pupilItem_62 s v1 v2 k0 = some r) (hk : w = none ∧ r = s') : J X MX7_pupilItem (d + 7) 62 [some (.ref 19), some (.int v1), some (.int v2), none] [.int k0] s w s' := by
  unfold gX7_pupilItem_62 at hh
  refine J_istore_n (pc := 62) (L' := [some (.ref 19), some (.int v1), some (.int v2), some (.int k0)]) dX7_pupilItem_62 rfl (Nat.le_of_ble_eq_true rfl) rfl ?_
  refine J_aload_n (pc := 63) dX7_pupilItem_63 rfl ?_
  refine J_getI (pc := 64) (k := 22) flX7_313 so19 fk19_22 dX7_pupilItem_64 ?_
  refine J_if_ge (pc := 67) 77 dX7_pupilItem_67 (by decide) (fun c7 => ?_) (fun c7 => ?_)
  · replace hh := (if_pos c7).symm.trans hh
    obtain rfl := Option.some.inj hh
    obtain ⟨rfl, rfl⟩ := hk
    exact J_ret (w := none) ⟨dX7_pupilItem_77, rfl⟩
  · replace hh := (if_neg c7).symm.trans hh
    refine J_aload_n (pc := 70) dX7_pupilItem_70 rfl ?_
    refine J_iload_n (pc := 71) dX7_pupilItem_71 rfl ?_
    refine J_iload_n (pc := 72) dX7_pupilItem_72 rfl ?_
    refine J_iload_n (pc := 73) dX7_pupilItem_73 rfl ?_
    obtain ⟨y6, hy6, hh⟩ := bd_some hh
    refine J_callV0 (pc := 74) (M' := MX7_comes) (a := 19) (rest := []) (As := [.int v1, .int v2, .int k0]) (L0 := [some (.ref 19), some (.int v1), some (.int v2), some (.int k0), none, none]) okX7_comes ovX7_comes mlX7_193 clX7 so19 rfl rfl (Nat.le_of_ble_eq_true rfl) dX7_pupilItem_74 rfl (Nat.le_of_ble_eq_true rfl) (jX7_comes (X := X) (d + 6) s v1 v2 k0 hy6) ?_
    obtain rfl := Option.some.inj hh
    obtain ⟨rfl, rfl⟩ := hk
    exact J_ret (w := none) ⟨dX7_pupilItem_77, rfl⟩
def gX7_pupilItem_43 (s : Mem) (v1 : Int32) (k0 : Int32) : Option Mem :=
  (fX7_takes s 21).bind (fun y5 => if y5.1 = (0 : Int32) then gX7_pupilItem_62 y5.2 v1 k0 (0 : Int32) else (fX7_courses y5.2).bind (fun y8 => gX7_pupilItem_62 y8.2 v1 k0 y8.1))
set_option maxRecDepth 4000 in
theorem jgX7_pupilItem_43 {X : Scr} (d : Nat) (s : Mem) (v1 : Int32) (k0 : Int32) {r : Mem} {w : Option Value} {s' : Mem} (hh : gX7_pupilItem_43 s v1 k0 = some r) (hk : w = none ∧ r = s') : J X MX7_pupilItem (d + 7) 43 [some (.ref 19), some (.int v1), none, none] [.int k0] s w s' := by
  unfold gX7_pupilItem_43 at hh
  refine J_istore_n (pc := 43) (L' := [some (.ref 19), some (.int v1), some (.int k0), none]) dX7_pupilItem_43 rfl (Nat.le_of_ble_eq_true rfl) rfl ?_
  refine J_aload_n (pc := 44) dX7_pupilItem_44 rfl ?_
  refine J_ldcwS (pc := 45) (i := 21) sl21 dX7_pupilItem_45 ?_
  obtain ⟨y5, hy5, hh⟩ := bd_some hh
  refine J_callVi (pc := 48) (M' := MX7_takes) (a := 19) (rest := []) (As := [.ref (1000 + 21)]) (L0 := [some (.ref 19), some (.ref (1000 + 21)), none]) okX7_takes ovX7_takes mlX7_372 clX7 so19 rfl rfl (Nat.le_of_ble_eq_true rfl) dX7_pupilItem_48 rfl (Nat.le_of_ble_eq_true rfl) (jX7_takes (X := X) d s 21 hy5) ?_
  refine J_if_eq (pc := 51) 61 dX7_pupilItem_51 (by decide) (fun c9 => ?_) (fun c9 => ?_)
  · replace hh := (if_pos c9).symm.trans hh
    refine J_iconst (pc := 61) dX7_pupilItem_61 ci_0 ?_
    exact jgX7_pupilItem_62 d y5.2 v1 k0 (0 : Int32) hh hk
  · replace hh := (if_neg c9).symm.trans hh
    refine J_aload_n (pc := 54) dX7_pupilItem_54 rfl ?_
    obtain ⟨y8, hy8, hh⟩ := bd_some hh
    refine J_callVi (pc := 55) (M' := MX7_courses) (a := 19) (rest := []) (As := []) (L0 := [some (.ref 19), none]) okX7_courses ovX7_courses mlX7_380 clX7 so19 rfl rfl (Nat.le_of_ble_eq_true rfl) dX7_pupilItem_55 rfl (Nat.le_of_ble_eq_true rfl) (jX7_courses (X := X) (d + 4) y5.2 hy8) ?_
    refine J_goto (pc := 58) 62 dX7_pupilItem_58 (by decide) ?_
    exact jgX7_pupilItem_62 d y8.2 v1 k0 y8.1 hh hk
def gX7_pupilItem_18 (s : Mem) (v1 : Int32) (k0 : Int32) : Option Mem :=
  (fX7_must s k0).bind (fun y2 => (fX7_goesOn y2).bind (fun y3 => (fX7_takes y3 20).bind (fun y4 => if y4.1 = (0 : Int32) then gX7_pupilItem_43 y4.2 v1 (0 : Int32) else (fX7_hours y4.2).bind (fun y10 => gX7_pupilItem_43 y10.2 v1 y10.1))))
set_option maxRecDepth 4000 in
theorem jgX7_pupilItem_18 {X : Scr} (d : Nat) (s : Mem) (v1 : Int32) (k0 : Int32) {r : Mem} {w : Option Value} {s' : Mem} (hh : gX7_pupilItem_18 s v1 k0 = some r) (hk : w = none ∧ r = s') : J X MX7_pupilItem (d + 7) 18 [some (.ref 19), some (.int v1), none, none] [.int k0, .ref 19] s w s' := by
  unfold gX7_pupilItem_18 at hh
  obtain ⟨y2, hy2, hh⟩ := bd_some hh
  refine J_callV0 (pc := 18) (M' := MX7_must) (a := 19) (rest := []) (As := [.int k0]) (L0 := [some (.ref 19), some (.int k0)]) okX7_must ovX7_must mlX7_349 clX7 so19 rfl rfl (Nat.le_of_ble_eq_true rfl) dX7_pupilItem_18 rfl (Nat.le_of_ble_eq_true rfl) (jX7_must (X := X) (d + 6) s k0 hy2) ?_
  refine J_aload_n (pc := 21) dX7_pupilItem_21 rfl ?_
  obtain ⟨y3, hy3, hh⟩ := bd_some hh
  refine J_callV0 (pc := 22) (M' := MX7_goesOn) (a := 19) (rest := []) (As := []) (L0 := [some (.ref 19)]) okX7_goesOn ovX7_goesOn mlX7_339 clX7 so19 rfl rfl (Nat.le_of_ble_eq_true rfl) dX7_pupilItem_22 rfl (Nat.le_of_ble_eq_true rfl) (jX7_goesOn (X := X) (d + 5) y2 hy3) ?_
  refine J_aload_n (pc := 25) dX7_pupilItem_25 rfl ?_
  refine J_ldcwS (pc := 26) (i := 20) sl20 dX7_pupilItem_26 ?_
  obtain ⟨y4, hy4, hh⟩ := bd_some hh
  refine J_callVi (pc := 29) (M' := MX7_takes) (a := 19) (rest := []) (As := [.ref (1000 + 20)]) (L0 := [some (.ref 19), some (.ref (1000 + 20)), none]) okX7_takes ovX7_takes mlX7_372 clX7 so19 rfl rfl (Nat.le_of_ble_eq_true rfl) dX7_pupilItem_29 rfl (Nat.le_of_ble_eq_true rfl) (jX7_takes (X := X) d y3 20 hy4) ?_
  refine J_if_eq (pc := 32) 42 dX7_pupilItem_32 (by decide) (fun c11 => ?_) (fun c11 => ?_)
  · replace hh := (if_pos c11).symm.trans hh
    refine J_iconst (pc := 42) dX7_pupilItem_42 ci_0 ?_
    exact jgX7_pupilItem_43 d y4.2 v1 (0 : Int32) hh hk
  · replace hh := (if_neg c11).symm.trans hh
    refine J_aload_n (pc := 35) dX7_pupilItem_35 rfl ?_
    obtain ⟨y10, hy10, hh⟩ := bd_some hh
    refine J_callVi (pc := 36) (M' := MX7_hours) (a := 19) (rest := []) (As := []) (L0 := [some (.ref 19), none]) okX7_hours ovX7_hours mlX7_375 clX7 so19 rfl rfl (Nat.le_of_ble_eq_true rfl) dX7_pupilItem_36 rfl (Nat.le_of_ble_eq_true rfl) (jX7_hours (X := X) (d + 4) y4.2 hy10) ?_
    refine J_goto (pc := 39) 43 dX7_pupilItem_39 (by decide) ?_
    exact jgX7_pupilItem_43 d y10.2 v1 y10.1 hh hk
def fX7_pupilItem (s : Mem) (p0 : Int32) : Option Mem :=
  gd (96 : Int32) 139 (if (6 : Int32) ≤ (s.1 20 (96 : Int32).toNatClampNeg) then gX7_pupilItem_18 s p0 (0 : Int32) else gX7_pupilItem_18 s p0 (1 : Int32))
set_option maxRecDepth 4000 in
theorem jjX7_pupilItem {X : Scr} (d : Nat) (s : Mem) (p0 : Int32) {r : Mem} {w : Option Value} {s' : Mem} (hh : fX7_pupilItem s p0 = some r) (hk : w = none ∧ r = s') : J X MX7_pupilItem (d + 7) 0 [some (.ref 19), some (.int p0), none, none] [] s w s' := by
  unfold fX7_pupilItem at hh
  refine J_aload_n (pc := 0) dX7_pupilItem_0 rfl ?_
  refine J_aload_n (pc := 1) dX7_pupilItem_1 rfl ?_
  refine J_getR (pc := 2) (k := 0) flX7_9 so19 fk19_0 dX7_pupilItem_2 ?_
  refine J_bipush (pc := 5) dX7_pupilItem_5 cb_96 ?_
  obtain ⟨h1, hh⟩ := gd_some hh
  refine J_iald (pc := 7) dX7_pupilItem_7 sa20 h1 ?_
  refine J_bipush (pc := 8) dX7_pupilItem_8 cb_6 ?_
  refine J_icmp_ge (pc := 10) 17 dX7_pupilItem_10 (by decide) (fun c12 => ?_) (fun c12 => ?_)
  · replace hh := (if_pos c12).symm.trans hh
    refine J_iconst (pc := 17) dX7_pupilItem_17 ci_0 ?_
    exact jgX7_pupilItem_18 d s p0 (0 : Int32) hh hk
  · replace hh := (if_neg c12).symm.trans hh
    refine J_iconst (pc := 13) dX7_pupilItem_13 ci_1 ?_
    refine J_goto (pc := 14) 18 dX7_pupilItem_14 (by decide) ?_
    exact jgX7_pupilItem_18 d s p0 (1 : Int32) hh hk
theorem jX7_pupilItem {X : Scr} (d : Nat) (s : Mem) (p0 : Int32) {r : Mem} (hh : fX7_pupilItem s p0 = some r) : J X MX7_pupilItem (d + 7) 0 [some (.ref 19), some (.int p0), none, none] [] s (none) r := jjX7_pupilItem d s p0 hh ⟨rfl, rfl⟩
theorem dX7_sectionItem_0 : decode cX7_sectionItem 0 = .ok (.aload_n 0, 1) := by decide +kernel
theorem dX7_sectionItem_1 : decode cX7_sectionItem 1 = .ok (.invokevirtual 339, 3) := by decide +kernel
theorem dX7_sectionItem_4 : decode cX7_sectionItem 4 = .ok (.aload_n 0, 1) := by decide +kernel
theorem dX7_sectionItem_5 : decode cX7_sectionItem 5 = .ok (.invokevirtual 357, 3) := by decide +kernel
theorem dX7_sectionItem_8 : decode cX7_sectionItem 8 = .ok (.istore_n 2, 1) := by decide +kernel
theorem dX7_sectionItem_9 : decode cX7_sectionItem 9 = .ok (.aload_n 0, 1) := by decide +kernel
theorem dX7_sectionItem_10 : decode cX7_sectionItem 10 = .ok (.iload_n 2, 1) := by decide +kernel
theorem dX7_sectionItem_11 : decode cX7_sectionItem 11 = .ok (.ifCond .lt 7, 3) := by decide +kernel
theorem dX7_sectionItem_14 : decode cX7_sectionItem 14 = .ok (.iconst 1, 1) := by decide +kernel
theorem dX7_sectionItem_15 : decode cX7_sectionItem 15 = .ok (.goto 4, 3) := by decide +kernel
theorem dX7_sectionItem_18 : decode cX7_sectionItem 18 = .ok (.iconst 0, 1) := by decide +kernel
theorem dX7_sectionItem_19 : decode cX7_sectionItem 19 = .ok (.invokevirtual 349, 3) := by decide +kernel
theorem dX7_sectionItem_22 : decode cX7_sectionItem 22 = .ok (.aload_n 0, 1) := by decide +kernel
theorem dX7_sectionItem_23 : decode cX7_sectionItem 23 = .ok (.invokevirtual 339, 3) := by decide +kernel
theorem dX7_sectionItem_26 : decode cX7_sectionItem 26 = .ok (.aload_n 0, 1) := by decide +kernel
theorem dX7_sectionItem_27 : decode cX7_sectionItem 27 = .ok (.iconst 1, 1) := by decide +kernel
theorem dX7_sectionItem_28 : decode cX7_sectionItem 28 = .ok (.invokevirtual 383, 3) := by decide +kernel
theorem dX7_sectionItem_31 : decode cX7_sectionItem 31 = .ok (.istore_n 3, 1) := by decide +kernel
theorem dX7_sectionItem_32 : decode cX7_sectionItem 32 = .ok (.aload_n 0, 1) := by decide +kernel
theorem dX7_sectionItem_33 : decode cX7_sectionItem 33 = .ok (.invokevirtual 375, 3) := by decide +kernel
theorem dX7_sectionItem_36 : decode cX7_sectionItem 36 = .ok (.istore 4, 2) := by decide +kernel
theorem dX7_sectionItem_38 : decode cX7_sectionItem 38 = .ok (.aload_n 0, 1) := by decide +kernel
theorem dX7_sectionItem_39 : decode cX7_sectionItem 39 = .ok (.aload_n 0, 1) := by decide +kernel
theorem dX7_sectionItem_40 : decode cX7_sectionItem 40 = .ok (.ldc_w 386, 3) := by decide +kernel
theorem dX7_sectionItem_43 : decode cX7_sectionItem 43 = .ok (.invokevirtual 335, 3) := by decide +kernel
theorem dX7_sectionItem_46 : decode cX7_sectionItem 46 = .ok (.invokevirtual 349, 3) := by decide +kernel
theorem dX7_sectionItem_49 : decode cX7_sectionItem 49 = .ok (.aload_n 0, 1) := by decide +kernel
theorem dX7_sectionItem_50 : decode cX7_sectionItem 50 = .ok (.invokevirtual 339, 3) := by decide +kernel
theorem dX7_sectionItem_53 : decode cX7_sectionItem 53 = .ok (.aload_n 0, 1) := by decide +kernel
theorem dX7_sectionItem_54 : decode cX7_sectionItem 54 = .ok (.getfield 319, 3) := by decide +kernel
theorem dX7_sectionItem_57 : decode cX7_sectionItem 57 = .ok (.istore 5, 2) := by decide +kernel
theorem dX7_sectionItem_59 : decode cX7_sectionItem 59 = .ok (.aload_n 0, 1) := by decide +kernel
theorem dX7_sectionItem_60 : decode cX7_sectionItem 60 = .ok (.bipush 9, 2) := by decide +kernel
theorem dX7_sectionItem_62 : decode cX7_sectionItem 62 = .ok (.invokevirtual 383, 3) := by decide +kernel
theorem dX7_sectionItem_65 : decode cX7_sectionItem 65 = .ok (.istore 6, 2) := by decide +kernel
theorem dX7_sectionItem_67 : decode cX7_sectionItem 67 = .ok (.iconst (-1), 1) := by decide +kernel
theorem dX7_sectionItem_68 : decode cX7_sectionItem 68 = .ok (.istore 7, 2) := by decide +kernel
theorem dX7_sectionItem_70 : decode cX7_sectionItem 70 = .ok (.aload_n 0, 1) := by decide +kernel
theorem dX7_sectionItem_71 : decode cX7_sectionItem 71 = .ok (.ldc_w 388, 3) := by decide +kernel
theorem dX7_sectionItem_74 : decode cX7_sectionItem 74 = .ok (.invokevirtual 372, 3) := by decide +kernel
theorem dX7_sectionItem_77 : decode cX7_sectionItem 77 = .ok (.ifCond .eq 16, 3) := by decide +kernel
theorem dX7_sectionItem_80 : decode cX7_sectionItem 80 = .ok (.aload_n 0, 1) := by decide +kernel
theorem dX7_sectionItem_81 : decode cX7_sectionItem 81 = .ok (.getfield 319, 3) := by decide +kernel
theorem dX7_sectionItem_84 : decode cX7_sectionItem 84 = .ok (.istore 5, 2) := by decide +kernel
theorem dX7_sectionItem_86 : decode cX7_sectionItem 86 = .ok (.aload_n 0, 1) := by decide +kernel
theorem dX7_sectionItem_87 : decode cX7_sectionItem 87 = .ok (.iconst 1, 1) := by decide +kernel
theorem dX7_sectionItem_88 : decode cX7_sectionItem 88 = .ok (.invokevirtual 383, 3) := by decide +kernel
theorem dX7_sectionItem_91 : decode cX7_sectionItem 91 = .ok (.istore 7, 2) := by decide +kernel
theorem dX7_sectionItem_93 : decode cX7_sectionItem 93 = .ok (.aload_n 0, 1) := by decide +kernel
theorem dX7_sectionItem_94 : decode cX7_sectionItem 94 = .ok (.getfield 313, 3) := by decide +kernel
theorem dX7_sectionItem_97 : decode cX7_sectionItem 97 = .ok (.ifCond .ge 25, 3) := by decide +kernel
theorem dX7_sectionItem_100 : decode cX7_sectionItem 100 = .ok (.aload_n 0, 1) := by decide +kernel
theorem dX7_sectionItem_101 : decode cX7_sectionItem 101 = .ok (.iload_n 2, 1) := by decide +kernel
theorem dX7_sectionItem_102 : decode cX7_sectionItem 102 = .ok (.iload_n 1, 1) := by decide +kernel
theorem dX7_sectionItem_103 : decode cX7_sectionItem 103 = .ok (.iload_n 3, 1) := by decide +kernel
theorem dX7_sectionItem_104 : decode cX7_sectionItem 104 = .ok (.iload 4, 2) := by decide +kernel
theorem dX7_sectionItem_106 : decode cX7_sectionItem 106 = .ok (.iload 6, 2) := by decide +kernel
theorem dX7_sectionItem_108 : decode cX7_sectionItem 108 = .ok (.iload 7, 2) := by decide +kernel
theorem dX7_sectionItem_110 : decode cX7_sectionItem 110 = .ok (.invokevirtual 164, 3) := by decide +kernel
theorem dX7_sectionItem_113 : decode cX7_sectionItem 113 = .ok (.ifCond .ne 9, 3) := by decide +kernel
theorem dX7_sectionItem_116 : decode cX7_sectionItem 116 = .ok (.aload_n 0, 1) := by decide +kernel
theorem dX7_sectionItem_117 : decode cX7_sectionItem 117 = .ok (.iload 5, 2) := by decide +kernel
theorem dX7_sectionItem_119 : decode cX7_sectionItem 119 = .ok (.putfield 313, 3) := by decide +kernel
theorem dX7_sectionItem_122 : decode cX7_sectionItem 122 = .ok (.return_, 1) := by decide +kernel
def gX7_sectionItem_93 (s : Mem) (v1 : Int32) (v2 : Int32) (v3 : Int32) (v4 : Int32) (v5 : Int32) (v6 : Int32) (v7 : Int32) : Option Mem :=
  if (0 : Int32) ≤ (s.1 19 22) then some s else (fX7_opens s v2 v1 v3 v4 v6 v7).bind (fun y13 => if y13.1 = (0 : Int32) then lt (up2 y13.2 19 22 v5) (fun s14 => some s14) else some y13.2)
set_option maxRecDepth 4000 in
theorem jgX7_sectionItem_93 {X : Scr} (d : Nat) (s : Mem) (v1 : Int32) (v2 : Int32) (v3 : Int32) (v4 : Int32) (v5 : Int32) (v6 : Int32) (v7 : Int32) {r : Mem} {w : Option Value} {s' : Mem} (hh : gX7_sectionItem_93 s v1 v2 v3 v4 v5 v6 v7 = some r) (hk : w = none ∧ r = s') : J X MX7_sectionItem (d + 9) 93 [some (.ref 19), some (.int v1), some (.int v2), some (.int v3), some (.int v4), some (.int v5), some (.int v6), some (.int v7)] [] s w s' := by
  unfold gX7_sectionItem_93 at hh
  refine J_aload_n (pc := 93) dX7_sectionItem_93 rfl ?_
  refine J_getI (pc := 94) (k := 22) flX7_313 so19 fk19_22 dX7_sectionItem_94 ?_
  refine J_if_ge (pc := 97) 122 dX7_sectionItem_97 (by decide) (fun c16 => ?_) (fun c16 => ?_)
  · replace hh := (if_pos c16).symm.trans hh
    obtain rfl := Option.some.inj hh
    obtain ⟨rfl, rfl⟩ := hk
    exact J_ret (w := none) ⟨dX7_sectionItem_122, rfl⟩
  · replace hh := (if_neg c16).symm.trans hh
    refine J_aload_n (pc := 100) dX7_sectionItem_100 rfl ?_
    refine J_iload_n (pc := 101) dX7_sectionItem_101 rfl ?_
    refine J_iload_n (pc := 102) dX7_sectionItem_102 rfl ?_
    refine J_iload_n (pc := 103) dX7_sectionItem_103 rfl ?_
    refine J_iload (pc := 104) dX7_sectionItem_104 rfl ?_
    refine J_iload (pc := 106) dX7_sectionItem_106 rfl ?_
    refine J_iload (pc := 108) dX7_sectionItem_108 rfl ?_
    obtain ⟨y13, hy13, hh⟩ := bd_some hh
    refine J_callVi (pc := 110) (M' := MX7_opens) (a := 19) (rest := []) (As := [.int v2, .int v1, .int v3, .int v4, .int v6, .int v7]) (L0 := [some (.ref 19), some (.int v2), some (.int v1), some (.int v3), some (.int v4), some (.int v6), some (.int v7), none, none, none, none, none]) okX7_opens ovX7_opens mlX7_164 clX7 so19 rfl rfl (Nat.le_of_ble_eq_true rfl) dX7_sectionItem_110 rfl (Nat.le_of_ble_eq_true rfl) (jX7_opens (X := X) d s v2 v1 v3 v4 v6 v7 hy13) ?_
    refine J_if_ne (pc := 113) 122 dX7_sectionItem_113 (by decide) (fun c15 => ?_) (fun c15 => ?_)
    · replace hh := (if_neg c15).symm.trans hh
      obtain rfl := Option.some.inj hh
      obtain ⟨rfl, rfl⟩ := hk
      exact J_ret (w := none) ⟨dX7_sectionItem_122, rfl⟩
    · replace hh := (if_pos c15).symm.trans hh
      refine J_aload_n (pc := 116) dX7_sectionItem_116 rfl ?_
      refine J_iload (pc := 117) dX7_sectionItem_117 rfl ?_
      refine J_putIL (pc := 119) (k := 22) fpX7_313 so19 fk19_22 rfl rfl dX7_sectionItem_119 hh (fun s14 hh => ?_)
      obtain rfl := Option.some.inj hh
      obtain ⟨rfl, rfl⟩ := hk
      exact J_ret (w := none) ⟨dX7_sectionItem_122, rfl⟩
def gX7_sectionItem_19 (s : Mem) (v1 : Int32) (v2 : Int32) (k0 : Int32) : Option Mem :=
  (fX7_must s k0).bind (fun y3 => (fX7_goesOn y3).bind (fun y4 => (fX7_number y4 (1 : Int32)).bind (fun y5 => (fX7_hours y5.2).bind (fun y6 => (fX7_isWord y6.2 25).bind (fun y7 => (fX7_must y6.2 y7).bind (fun y8 => (fX7_goesOn y8).bind (fun y9 => lt (y9.1 19 20) (fun x10 => (fX7_number y9 (9 : Int32)).bind (fun y11 => (fX7_takes y11.2 26).bind (fun y12 => if y12.1 = (0 : Int32) then gX7_sectionItem_93 y12.2 v1 v2 y5.1 y6.1 x10 y11.1 (-1 : Int32) else lt (y12.2.1 19 20) (fun x17 => (fX7_number y12.2 (1 : Int32)).bind (fun y18 => gX7_sectionItem_93 y18.2 v1 v2 y5.1 y6.1 x17 y11.1 y18.1))))))))))))
set_option maxRecDepth 4000 in
theorem jgX7_sectionItem_19 {X : Scr} (d : Nat) (s : Mem) (v1 : Int32) (v2 : Int32) (k0 : Int32) {r : Mem} {w : Option Value} {s' : Mem} (hh : gX7_sectionItem_19 s v1 v2 k0 = some r) (hk : w = none ∧ r = s') : J X MX7_sectionItem (d + 9) 19 [some (.ref 19), some (.int v1), some (.int v2), none, none, none, none, none] [.int k0, .ref 19] s w s' := by
  unfold gX7_sectionItem_19 at hh
  obtain ⟨y3, hy3, hh⟩ := bd_some hh
  refine J_callV0 (pc := 19) (M' := MX7_must) (a := 19) (rest := []) (As := [.int k0]) (L0 := [some (.ref 19), some (.int k0)]) okX7_must ovX7_must mlX7_349 clX7 so19 rfl rfl (Nat.le_of_ble_eq_true rfl) dX7_sectionItem_19 rfl (Nat.le_of_ble_eq_true rfl) (jX7_must (X := X) (d + 8) s k0 hy3) ?_
  refine J_aload_n (pc := 22) dX7_sectionItem_22 rfl ?_
  obtain ⟨y4, hy4, hh⟩ := bd_some hh
  refine J_callV0 (pc := 23) (M' := MX7_goesOn) (a := 19) (rest := []) (As := []) (L0 := [some (.ref 19)]) okX7_goesOn ovX7_goesOn mlX7_339 clX7 so19 rfl rfl (Nat.le_of_ble_eq_true rfl) dX7_sectionItem_23 rfl (Nat.le_of_ble_eq_true rfl) (jX7_goesOn (X := X) (d + 7) y3 hy4) ?_
  refine J_aload_n (pc := 26) dX7_sectionItem_26 rfl ?_
  refine J_iconst (pc := 27) dX7_sectionItem_27 ci_1 ?_
  obtain ⟨y5, hy5, hh⟩ := bd_some hh
  refine J_callVi (pc := 28) (M' := MX7_number) (a := 19) (rest := []) (As := [.int (1 : Int32)]) (L0 := [some (.ref 19), some (.int (1 : Int32)), none]) okX7_number ovX7_number mlX7_383 clX7 so19 rfl rfl (Nat.le_of_ble_eq_true rfl) dX7_sectionItem_28 rfl (Nat.le_of_ble_eq_true rfl) (jX7_number (X := X) (d + 6) y4 (1 : Int32) hy5) ?_
  refine J_istore_n (pc := 31) (L' := [some (.ref 19), some (.int v1), some (.int v2), some (.int y5.1), none, none, none, none]) dX7_sectionItem_31 rfl (Nat.le_of_ble_eq_true rfl) rfl ?_
  refine J_aload_n (pc := 32) dX7_sectionItem_32 rfl ?_
  obtain ⟨y6, hy6, hh⟩ := bd_some hh
  refine J_callVi (pc := 33) (M' := MX7_hours) (a := 19) (rest := []) (As := []) (L0 := [some (.ref 19), none]) okX7_hours ovX7_hours mlX7_375 clX7 so19 rfl rfl (Nat.le_of_ble_eq_true rfl) dX7_sectionItem_33 rfl (Nat.le_of_ble_eq_true rfl) (jX7_hours (X := X) (d + 6) y5.2 hy6) ?_
  refine J_istore (pc := 36) (L' := [some (.ref 19), some (.int v1), some (.int v2), some (.int y5.1), some (.int y6.1), none, none, none]) dX7_sectionItem_36 rfl (Nat.le_of_ble_eq_true rfl) rfl ?_
  refine J_aload_n (pc := 38) dX7_sectionItem_38 rfl ?_
  refine J_aload_n (pc := 39) dX7_sectionItem_39 rfl ?_
  refine J_ldcwS (pc := 40) (i := 25) sl25 dX7_sectionItem_40 ?_
  obtain ⟨y7, hy7, hh⟩ := bd_some hh
  refine J_callVi (pc := 43) (M' := MX7_isWord) (a := 19) (rest := [.ref 19]) (As := [.ref (1000 + 25)]) (L0 := [some (.ref 19), some (.ref (1000 + 25)), none, none]) okX7_isWord ovX7_isWord mlX7_335 clX7 so19 rfl rfl (Nat.le_of_ble_eq_true rfl) dX7_sectionItem_43 rfl (Nat.le_of_ble_eq_true rfl) (jX7_isWord (X := X) (d + 3) y6.2 25 hy7) ?_
  obtain ⟨y8, hy8, hh⟩ := bd_some hh
  refine J_callV0 (pc := 46) (M' := MX7_must) (a := 19) (rest := []) (As := [.int y7]) (L0 := [some (.ref 19), some (.int y7)]) okX7_must ovX7_must mlX7_349 clX7 so19 rfl rfl (Nat.le_of_ble_eq_true rfl) dX7_sectionItem_46 rfl (Nat.le_of_ble_eq_true rfl) (jX7_must (X := X) (d + 8) y6.2 y7 hy8) ?_
  refine J_aload_n (pc := 49) dX7_sectionItem_49 rfl ?_
  obtain ⟨y9, hy9, hh⟩ := bd_some hh
  refine J_callV0 (pc := 50) (M' := MX7_goesOn) (a := 19) (rest := []) (As := []) (L0 := [some (.ref 19)]) okX7_goesOn ovX7_goesOn mlX7_339 clX7 so19 rfl rfl (Nat.le_of_ble_eq_true rfl) dX7_sectionItem_50 rfl (Nat.le_of_ble_eq_true rfl) (jX7_goesOn (X := X) (d + 7) y8 hy9) ?_
  refine J_aload_n (pc := 53) dX7_sectionItem_53 rfl ?_
  refine J_getI (pc := 54) (k := 20) flX7_319 so19 fk19_20 dX7_sectionItem_54 ?_
  refine J_istoreL (pc := 57) (fun x10 => [some (.ref 19), some (.int v1), some (.int v2), some (.int y5.1), some (.int y6.1), some (.int x10), none, none]) dX7_sectionItem_57 rfl (Nat.le_of_ble_eq_true rfl) (fun _ => rfl) hh (fun x10 hh => ?_)
  refine J_aload_n (pc := 59) dX7_sectionItem_59 rfl ?_
  refine J_bipush (pc := 60) dX7_sectionItem_60 cb_9 ?_
  obtain ⟨y11, hy11, hh⟩ := bd_some hh
  refine J_callVi (pc := 62) (M' := MX7_number) (a := 19) (rest := []) (As := [.int (9 : Int32)]) (L0 := [some (.ref 19), some (.int (9 : Int32)), none]) okX7_number ovX7_number mlX7_383 clX7 so19 rfl rfl (Nat.le_of_ble_eq_true rfl) dX7_sectionItem_62 rfl (Nat.le_of_ble_eq_true rfl) (jX7_number (X := X) (d + 6) y9 (9 : Int32) hy11) ?_
  refine J_istore (pc := 65) (L' := [some (.ref 19), some (.int v1), some (.int v2), some (.int y5.1), some (.int y6.1), some (.int x10), some (.int y11.1), none]) dX7_sectionItem_65 rfl (Nat.le_of_ble_eq_true rfl) rfl ?_
  refine J_iconst (pc := 67) dX7_sectionItem_67 ci_m1 ?_
  refine J_istore (pc := 68) (L' := [some (.ref 19), some (.int v1), some (.int v2), some (.int y5.1), some (.int y6.1), some (.int x10), some (.int y11.1), some (.int (-1 : Int32))]) dX7_sectionItem_68 rfl (Nat.le_of_ble_eq_true rfl) rfl ?_
  refine J_aload_n (pc := 70) dX7_sectionItem_70 rfl ?_
  refine J_ldcwS (pc := 71) (i := 26) sl26 dX7_sectionItem_71 ?_
  obtain ⟨y12, hy12, hh⟩ := bd_some hh
  refine J_callVi (pc := 74) (M' := MX7_takes) (a := 19) (rest := []) (As := [.ref (1000 + 26)]) (L0 := [some (.ref 19), some (.ref (1000 + 26)), none]) okX7_takes ovX7_takes mlX7_372 clX7 so19 rfl rfl (Nat.le_of_ble_eq_true rfl) dX7_sectionItem_74 rfl (Nat.le_of_ble_eq_true rfl) (jX7_takes (X := X) (d + 2) y11.2 26 hy12) ?_
  refine J_if_eq (pc := 77) 93 dX7_sectionItem_77 (by decide) (fun c19 => ?_) (fun c19 => ?_)
  · replace hh := (if_pos c19).symm.trans hh
    exact jgX7_sectionItem_93 d y12.2 v1 v2 y5.1 y6.1 x10 y11.1 (-1 : Int32) hh hk
  · replace hh := (if_neg c19).symm.trans hh
    refine J_aload_n (pc := 80) dX7_sectionItem_80 rfl ?_
    refine J_getI (pc := 81) (k := 20) flX7_319 so19 fk19_20 dX7_sectionItem_81 ?_
    refine J_istoreL (pc := 84) (fun x17 => [some (.ref 19), some (.int v1), some (.int v2), some (.int y5.1), some (.int y6.1), some (.int x17), some (.int y11.1), some (.int (-1 : Int32))]) dX7_sectionItem_84 rfl (Nat.le_of_ble_eq_true rfl) (fun _ => rfl) hh (fun x17 hh => ?_)
    refine J_aload_n (pc := 86) dX7_sectionItem_86 rfl ?_
    refine J_iconst (pc := 87) dX7_sectionItem_87 ci_1 ?_
    obtain ⟨y18, hy18, hh⟩ := bd_some hh
    refine J_callVi (pc := 88) (M' := MX7_number) (a := 19) (rest := []) (As := [.int (1 : Int32)]) (L0 := [some (.ref 19), some (.int (1 : Int32)), none]) okX7_number ovX7_number mlX7_383 clX7 so19 rfl rfl (Nat.le_of_ble_eq_true rfl) dX7_sectionItem_88 rfl (Nat.le_of_ble_eq_true rfl) (jX7_number (X := X) (d + 6) y12.2 (1 : Int32) hy18) ?_
    refine J_istore (pc := 91) (L' := [some (.ref 19), some (.int v1), some (.int v2), some (.int y5.1), some (.int y6.1), some (.int x17), some (.int y11.1), some (.int y18.1)]) dX7_sectionItem_91 rfl (Nat.le_of_ble_eq_true rfl) rfl ?_
    exact jgX7_sectionItem_93 d y18.2 v1 v2 y5.1 y6.1 x17 y11.1 y18.1 hh hk
def fX7_sectionItem (s : Mem) (p0 : Int32) : Option Mem :=
  (fX7_goesOn s).bind (fun y1 => (fX7_courseHere y1).bind (fun y2 => if y2 < (0 : Int32) then gX7_sectionItem_19 y1 p0 y2 (0 : Int32) else gX7_sectionItem_19 y1 p0 y2 (1 : Int32)))
set_option maxRecDepth 4000 in
theorem jjX7_sectionItem {X : Scr} (d : Nat) (s : Mem) (p0 : Int32) {r : Mem} {w : Option Value} {s' : Mem} (hh : fX7_sectionItem s p0 = some r) (hk : w = none ∧ r = s') : J X MX7_sectionItem (d + 9) 0 [some (.ref 19), some (.int p0), none, none, none, none, none, none] [] s w s' := by
  unfold fX7_sectionItem at hh
  refine J_aload_n (pc := 0) dX7_sectionItem_0 rfl ?_
  obtain ⟨y1, hy1, hh⟩ := bd_some hh
  refine J_callV0 (pc := 1) (M' := MX7_goesOn) (a := 19) (rest := []) (As := []) (L0 := [some (.ref 19)]) okX7_goesOn ovX7_goesOn mlX7_339 clX7 so19 rfl rfl (Nat.le_of_ble_eq_true rfl) dX7_sectionItem_1 rfl (Nat.le_of_ble_eq_true rfl) (jX7_goesOn (X := X) (d + 7) s hy1) ?_
  refine J_aload_n (pc := 4) dX7_sectionItem_4 rfl ?_
  obtain ⟨y2, hy2, hh⟩ := bd_some hh
  refine J_callVi (pc := 5) (M' := MX7_courseHere) (a := 19) (rest := []) (As := []) (L0 := [some (.ref 19)]) okX7_courseHere ovX7_courseHere mlX7_357 clX7 so19 rfl rfl (Nat.le_of_ble_eq_true rfl) dX7_sectionItem_5 rfl (Nat.le_of_ble_eq_true rfl) (jX7_courseHere (X := X) (d + 7) y1 hy2) ?_
  refine J_istore_n (pc := 8) (L' := [some (.ref 19), some (.int p0), some (.int y2), none, none, none, none, none]) dX7_sectionItem_8 rfl (Nat.le_of_ble_eq_true rfl) rfl ?_
  refine J_aload_n (pc := 9) dX7_sectionItem_9 rfl ?_
  refine J_iload_n (pc := 10) dX7_sectionItem_10 rfl ?_
  refine J_if_lt (pc := 11) 18 dX7_sectionItem_11 (by decide) (fun c20 => ?_) (fun c20 => ?_)
  · replace hh := (if_pos c20).symm.trans hh
    refine J_iconst (pc := 18) dX7_sectionItem_18 ci_0 ?_
    exact jgX7_sectionItem_19 d y1 p0 y2 (0 : Int32) hh hk
  · replace hh := (if_neg c20).symm.trans hh
    refine J_iconst (pc := 14) dX7_sectionItem_14 ci_1 ?_
    refine J_goto (pc := 15) 19 dX7_sectionItem_15 (by decide) ?_
    exact jgX7_sectionItem_19 d y1 p0 y2 (1 : Int32) hh hk
theorem jX7_sectionItem {X : Scr} (d : Nat) (s : Mem) (p0 : Int32) {r : Mem} (hh : fX7_sectionItem s p0 = some r) : J X MX7_sectionItem (d + 9) 0 [some (.ref 19), some (.int p0), none, none, none, none, none, none] [] s (none) r := jjX7_sectionItem d s p0 hh ⟨rfl, rfl⟩
theorem dX7_item_0 : decode cX7_item 0 = .ok (.iconst 0, 1) := by decide +kernel
theorem dX7_item_1 : decode cX7_item 1 = .ok (.istore_n 1, 1) := by decide +kernel
theorem dX7_item_2 : decode cX7_item 2 = .ok (.iload_n 1, 1) := by decide +kernel
theorem dX7_item_3 : decode cX7_item 3 = .ok (.bipush 6, 2) := by decide +kernel
theorem dX7_item_5 : decode cX7_item 5 = .ok (.if_icmp .ge 29, 3) := by decide +kernel
theorem dX7_item_8 : decode cX7_item 8 = .ok (.aload_n 0, 1) := by decide +kernel
theorem dX7_item_9 : decode cX7_item 9 = .ok (.iload_n 1, 1) := by decide +kernel
theorem dX7_item_10 : decode cX7_item 10 = .ok (.invokestatic 390, 3) := by decide +kernel
theorem dX7_item_13 : decode cX7_item 13 = .ok (.invokevirtual 335, 3) := by decide +kernel
theorem dX7_item_16 : decode cX7_item 16 = .ok (.ifCond .ne 6, 3) := by decide +kernel
theorem dX7_item_19 : decode cX7_item 19 = .ok (.goto 9, 3) := by decide +kernel
theorem dX7_item_22 : decode cX7_item 22 = .ok (.aload_n 0, 1) := by decide +kernel
theorem dX7_item_23 : decode cX7_item 23 = .ok (.iload_n 1, 1) := by decide +kernel
theorem dX7_item_24 : decode cX7_item 24 = .ok (.invokevirtual 394, 3) := by decide +kernel
theorem dX7_item_27 : decode cX7_item 27 = .ok (.return_, 1) := by decide +kernel
theorem dX7_item_28 : decode cX7_item 28 = .ok (.iinc 1 1, 3) := by decide +kernel
theorem dX7_item_31 : decode cX7_item 31 = .ok (.goto (-29), 3) := by decide +kernel
theorem dX7_item_34 : decode cX7_item 34 = .ok (.aload_n 0, 1) := by decide +kernel
theorem dX7_item_35 : decode cX7_item 35 = .ok (.ldc_w 397, 3) := by decide +kernel
theorem dX7_item_38 : decode cX7_item 38 = .ok (.invokevirtual 335, 3) := by decide +kernel
theorem dX7_item_41 : decode cX7_item 41 = .ok (.ifCond .eq 7, 3) := by decide +kernel
theorem dX7_item_44 : decode cX7_item 44 = .ok (.iconst 0, 1) := by decide +kernel
theorem dX7_item_45 : decode cX7_item 45 = .ok (.goto 32, 3) := by decide +kernel
theorem dX7_item_48 : decode cX7_item 48 = .ok (.aload_n 0, 1) := by decide +kernel
theorem dX7_item_49 : decode cX7_item 49 = .ok (.ldc_w 399, 3) := by decide +kernel
theorem dX7_item_52 : decode cX7_item 52 = .ok (.invokevirtual 335, 3) := by decide +kernel
theorem dX7_item_55 : decode cX7_item 55 = .ok (.ifCond .eq 7, 3) := by decide +kernel
theorem dX7_item_58 : decode cX7_item 58 = .ok (.iconst 1, 1) := by decide +kernel
theorem dX7_item_59 : decode cX7_item 59 = .ok (.goto 18, 3) := by decide +kernel
theorem dX7_item_62 : decode cX7_item 62 = .ok (.aload_n 0, 1) := by decide +kernel
theorem dX7_item_63 : decode cX7_item 63 = .ok (.ldc_w 401, 3) := by decide +kernel
theorem dX7_item_66 : decode cX7_item 66 = .ok (.invokevirtual 335, 3) := by decide +kernel
theorem dX7_item_69 : decode cX7_item 69 = .ok (.ifCond .eq 7, 3) := by decide +kernel
theorem dX7_item_72 : decode cX7_item 72 = .ok (.iconst 2, 1) := by decide +kernel
theorem dX7_item_73 : decode cX7_item 73 = .ok (.goto 4, 3) := by decide +kernel
theorem dX7_item_76 : decode cX7_item 76 = .ok (.iconst (-1), 1) := by decide +kernel
theorem dX7_item_77 : decode cX7_item 77 = .ok (.istore_n 1, 1) := by decide +kernel
theorem dX7_item_78 : decode cX7_item 78 = .ok (.aload_n 0, 1) := by decide +kernel
theorem dX7_item_79 : decode cX7_item 79 = .ok (.iload_n 1, 1) := by decide +kernel
theorem dX7_item_80 : decode cX7_item 80 = .ok (.ifCond .lt 7, 3) := by decide +kernel
theorem dX7_item_83 : decode cX7_item 83 = .ok (.iconst 1, 1) := by decide +kernel
theorem dX7_item_84 : decode cX7_item 84 = .ok (.goto 4, 3) := by decide +kernel
theorem dX7_item_87 : decode cX7_item 87 = .ok (.iconst 0, 1) := by decide +kernel
theorem dX7_item_88 : decode cX7_item 88 = .ok (.invokevirtual 349, 3) := by decide +kernel
theorem dX7_item_91 : decode cX7_item 91 = .ok (.iload_n 1, 1) := by decide +kernel
theorem dX7_item_92 : decode cX7_item 92 = .ok (.ifCond .lt 8, 3) := by decide +kernel
theorem dX7_item_95 : decode cX7_item 95 = .ok (.aload_n 0, 1) := by decide +kernel
theorem dX7_item_96 : decode cX7_item 96 = .ok (.iload_n 1, 1) := by decide +kernel
theorem dX7_item_97 : decode cX7_item 97 = .ok (.invokevirtual 403, 3) := by decide +kernel
theorem dX7_item_100 : decode cX7_item 100 = .ok (.return_, 1) := by decide +kernel
def bX7_item_2 (s : Mem) (v1 : Int32) : Option ((Mem ⊕ Mem) ⊕ (Int32 × Mem)) :=
  if (6 : Int32) ≤ v1 then some (Sum.inl (Sum.inr s)) else (fX7_kindWord v1).bind (fun y1 => (fX7_isWord s y1).bind (fun y2 => if y2 = (0 : Int32) then lt (v1 + (1 : Int32)) (fun x4 => some (Sum.inr (x4, s))) else (fX7_pupilItem s v1).bind (fun y3 => some (Sum.inl (Sum.inl y3)))))
set_option maxRecDepth 4000 in
theorem jbX7_item_2 {X : Scr} (d : Nat) (s : Mem) (v1 : Int32) {r : ((Mem ⊕ Mem) ⊕ (Int32 × Mem))} {w : Option Value} {s' : Mem} (hh : bX7_item_2 s v1 = some r) (hk : Sum.elim (Sum.elim (fun q : Mem => w = none ∧ q = s') (fun t : Mem => J X MX7_item (d + 10) 34 [some (.ref 19), none] [] t w s')) (fun a : (Int32 × Mem) => J X MX7_item (d + 10) 2 [some (.ref 19), some (.int a.1)] [] a.2 w s') r) : J X MX7_item (d + 10) 2 [some (.ref 19), some (.int v1)] [] s w s' := by
  unfold bX7_item_2 at hh
  refine J_iload_n (pc := 2) dX7_item_2 rfl ?_
  refine J_bipush (pc := 3) dX7_item_3 cb_6 ?_
  refine J_icmp_ge (pc := 5) 34 dX7_item_5 (by decide) (fun c6 => ?_) (fun c6 => ?_)
  · replace hh := (if_pos c6).symm.trans hh
    refine J_drop 1 (L' := [some (.ref 19), none]) rfl ?_
    obtain rfl := Option.some.inj hh
    exact hk
  · replace hh := (if_neg c6).symm.trans hh
    refine J_aload_n (pc := 8) dX7_item_8 rfl ?_
    refine J_iload_n (pc := 9) dX7_item_9 rfl ?_
    obtain ⟨y1, hy1, hh⟩ := bd_some hh
    refine J_callSi (pc := 10) (M' := MX7_kindWord) (rest := [.ref 19]) (As := [.int v1]) (L0 := [some (.int v1)]) okX7_kindWord osX7_kindWord mlX7_390 rfl rfl (Nat.le_of_ble_eq_true rfl) dX7_item_10 rfl (Nat.le_of_ble_eq_true rfl) (jX7_kindWord (X := X) (d + 9) s v1 hy1) ?_
    obtain ⟨y2, hy2, hh⟩ := bd_some hh
    refine J_callVi (pc := 13) (M' := MX7_isWord) (a := 19) (rest := []) (As := [.ref (1000 + y1)]) (L0 := [some (.ref 19), some (.ref (1000 + y1)), none, none]) okX7_isWord ovX7_isWord mlX7_335 clX7 so19 rfl rfl (Nat.le_of_ble_eq_true rfl) dX7_item_13 rfl (Nat.le_of_ble_eq_true rfl) (jX7_isWord (X := X) (d + 4) s y1 hy2) ?_
    refine J_if_ne (pc := 16) 22 dX7_item_16 (by decide) (fun c5 => ?_) (fun c5 => ?_)
    · replace hh := (if_neg c5).symm.trans hh
      refine J_aload_n (pc := 22) dX7_item_22 rfl ?_
      refine J_iload_n (pc := 23) dX7_item_23 rfl ?_
      obtain ⟨y3, hy3, hh⟩ := bd_some hh
      refine J_callV0 (pc := 24) (M' := MX7_pupilItem) (a := 19) (rest := []) (As := [.int v1]) (L0 := [some (.ref 19), some (.int v1), none, none]) okX7_pupilItem ovX7_pupilItem mlX7_394 clX7 so19 rfl rfl (Nat.le_of_ble_eq_true rfl) dX7_item_24 rfl (Nat.le_of_ble_eq_true rfl) (jX7_pupilItem (X := X) (d + 2) s v1 hy3) ?_
      obtain rfl := Option.some.inj hh
      obtain ⟨rfl, rfl⟩ := hk
      exact J_ret (w := none) ⟨dX7_item_27, rfl⟩
    · replace hh := (if_pos c5).symm.trans hh
      refine J_goto (pc := 19) 28 dX7_item_19 (by decide) ?_
      refine J_iincL (pc := 28) (v := v1 + (1 : Int32)) (fun x4 => [some (.ref 19), some (.int x4)]) dX7_item_28 rfl rfl (Nat.le_of_ble_eq_true rfl) (congrArg _ ci_1) (fun _ => rfl) hh (fun x4 hh => ?_)
      refine J_goto (pc := 31) 2 dX7_item_31 (by decide) ?_
      obtain rfl := Option.some.inj hh
      exact hk
def gX7_item_88 (s : Mem) (v1 : Int32) (k0 : Int32) : Option Mem :=
  (fX7_must s k0).bind (fun y13 => if v1 < (0 : Int32) then some y13 else (fX7_sectionItem y13 v1).bind (fun y14 => some y14))
set_option maxRecDepth 4000 in
theorem jgX7_item_88 {X : Scr} (d : Nat) (s : Mem) (v1 : Int32) (k0 : Int32) {r : Mem} {w : Option Value} {s' : Mem} (hh : gX7_item_88 s v1 k0 = some r) (hk : w = none ∧ r = s') : J X MX7_item (d + 10) 88 [some (.ref 19), some (.int v1)] [.int k0, .ref 19] s w s' := by
  unfold gX7_item_88 at hh
  obtain ⟨y13, hy13, hh⟩ := bd_some hh
  refine J_callV0 (pc := 88) (M' := MX7_must) (a := 19) (rest := []) (As := [.int k0]) (L0 := [some (.ref 19), some (.int k0)]) okX7_must ovX7_must mlX7_349 clX7 so19 rfl rfl (Nat.le_of_ble_eq_true rfl) dX7_item_88 rfl (Nat.le_of_ble_eq_true rfl) (jX7_must (X := X) (d + 9) s k0 hy13) ?_
  refine J_iload_n (pc := 91) dX7_item_91 rfl ?_
  refine J_if_lt (pc := 92) 100 dX7_item_92 (by decide) (fun c15 => ?_) (fun c15 => ?_)
  · replace hh := (if_pos c15).symm.trans hh
    obtain rfl := Option.some.inj hh
    obtain ⟨rfl, rfl⟩ := hk
    exact J_ret (w := none) ⟨dX7_item_100, rfl⟩
  · replace hh := (if_neg c15).symm.trans hh
    refine J_aload_n (pc := 95) dX7_item_95 rfl ?_
    refine J_iload_n (pc := 96) dX7_item_96 rfl ?_
    obtain ⟨y14, hy14, hh⟩ := bd_some hh
    refine J_callV0 (pc := 97) (M' := MX7_sectionItem) (a := 19) (rest := []) (As := [.int v1]) (L0 := [some (.ref 19), some (.int v1), none, none, none, none, none, none]) okX7_sectionItem ovX7_sectionItem mlX7_403 clX7 so19 rfl rfl (Nat.le_of_ble_eq_true rfl) dX7_item_97 rfl (Nat.le_of_ble_eq_true rfl) (jX7_sectionItem (X := X) d y13 v1 hy14) ?_
    obtain rfl := Option.some.inj hh
    obtain ⟨rfl, rfl⟩ := hk
    exact J_ret (w := none) ⟨dX7_item_100, rfl⟩
def gX7_item_77 (s : Mem) (k0 : Int32) : Option Mem :=
  if k0 < (0 : Int32) then gX7_item_88 s k0 (0 : Int32) else gX7_item_88 s k0 (1 : Int32)
set_option maxRecDepth 4000 in
theorem jgX7_item_77 {X : Scr} (d : Nat) (s : Mem) (k0 : Int32) {r : Mem} {w : Option Value} {s' : Mem} (hh : gX7_item_77 s k0 = some r) (hk : w = none ∧ r = s') : J X MX7_item (d + 10) 77 [some (.ref 19), none] [.int k0] s w s' := by
  unfold gX7_item_77 at hh
  refine J_istore_n (pc := 77) (L' := [some (.ref 19), some (.int k0)]) dX7_item_77 rfl (Nat.le_of_ble_eq_true rfl) rfl ?_
  refine J_aload_n (pc := 78) dX7_item_78 rfl ?_
  refine J_iload_n (pc := 79) dX7_item_79 rfl ?_
  refine J_if_lt (pc := 80) 87 dX7_item_80 (by decide) (fun c16 => ?_) (fun c16 => ?_)
  · replace hh := (if_pos c16).symm.trans hh
    refine J_iconst (pc := 87) dX7_item_87 ci_0 ?_
    exact jgX7_item_88 d s k0 (0 : Int32) hh hk
  · replace hh := (if_neg c16).symm.trans hh
    refine J_iconst (pc := 83) dX7_item_83 ci_1 ?_
    refine J_goto (pc := 84) 88 dX7_item_84 (by decide) ?_
    exact jgX7_item_88 d s k0 (1 : Int32) hh hk
def fX7_item (s : Mem)  : Option Mem :=
  (lp (fun a => bX7_item_2 a.2 a.1) 600 ((0 : Int32), s)).bind (fun y7 => Sum.elim (fun q9 => some q9) (fun t8 => (fX7_isWord t8 22).bind (fun y10 => if y10 = (0 : Int32) then (fX7_isWord t8 23).bind (fun y11 => if y11 = (0 : Int32) then (fX7_isWord t8 24).bind (fun y12 => if y12 = (0 : Int32) then gX7_item_77 t8 (-1 : Int32) else gX7_item_77 t8 (2 : Int32)) else gX7_item_77 t8 (1 : Int32)) else gX7_item_77 t8 (0 : Int32))) y7)
set_option maxRecDepth 4000 in
theorem jjX7_item {X : Scr} (d : Nat) (s : Mem)  {r : Mem} {w : Option Value} {s' : Mem} (hh : fX7_item s = some r) (hk : w = none ∧ r = s') : J X MX7_item (d + 10) 0 [some (.ref 19), none] [] s w s' := by
  unfold fX7_item at hh
  refine J_iconst (pc := 0) dX7_item_0 ci_0 ?_
  refine J_istore_n (pc := 1) (L' := [some (.ref 19), some (.int (0 : Int32))]) dX7_item_1 rfl (Nat.le_of_ble_eq_true rfl) rfl ?_
  obtain ⟨y7, hy7, hh⟩ := bd_some hh
  refine J_lp (a := ((0 : Int32), s)) (fun a : (Int32 × Mem) => J X MX7_item (d + 10) 2 [some (.ref 19), some (.int a.1)] [] a.2 w s') (Sum.elim (fun q : Mem => w = none ∧ q = s') (fun t : Mem => J X MX7_item (d + 10) 34 [some (.ref 19), none] [] t w s')) (fun a q h1 h2 => jbX7_item_2 d a.2 a.1 h1 h2) hy7 ?_
  cases y7 with
  | inl q9 =>
    obtain rfl := Option.some.inj hh
    exact hk
  | inr t8 =>
    skip
    replace hh : ((fX7_isWord t8 22).bind (fun y10 => if y10 = (0 : Int32) then (fX7_isWord t8 23).bind (fun y11 => if y11 = (0 : Int32) then (fX7_isWord t8 24).bind (fun y12 => if y12 = (0 : Int32) then gX7_item_77 t8 (-1 : Int32) else gX7_item_77 t8 (2 : Int32)) else gX7_item_77 t8 (1 : Int32)) else gX7_item_77 t8 (0 : Int32))) = some r := hh
    refine J_aload_n (pc := 34) dX7_item_34 rfl ?_
    refine J_ldcwS (pc := 35) (i := 22) sl22 dX7_item_35 ?_
    obtain ⟨y10, hy10, hh⟩ := bd_some hh
    refine J_callVi (pc := 38) (M' := MX7_isWord) (a := 19) (rest := []) (As := [.ref (1000 + 22)]) (L0 := [some (.ref 19), some (.ref (1000 + 22)), none, none]) okX7_isWord ovX7_isWord mlX7_335 clX7 so19 rfl rfl (Nat.le_of_ble_eq_true rfl) dX7_item_38 rfl (Nat.le_of_ble_eq_true rfl) (jX7_isWord (X := X) (d + 4) t8 22 hy10) ?_
    refine J_if_eq (pc := 41) 48 dX7_item_41 (by decide) (fun c19 => ?_) (fun c19 => ?_)
    · replace hh := (if_pos c19).symm.trans hh
      refine J_aload_n (pc := 48) dX7_item_48 rfl ?_
      refine J_ldcwS (pc := 49) (i := 23) sl23 dX7_item_49 ?_
      obtain ⟨y11, hy11, hh⟩ := bd_some hh
      refine J_callVi (pc := 52) (M' := MX7_isWord) (a := 19) (rest := []) (As := [.ref (1000 + 23)]) (L0 := [some (.ref 19), some (.ref (1000 + 23)), none, none]) okX7_isWord ovX7_isWord mlX7_335 clX7 so19 rfl rfl (Nat.le_of_ble_eq_true rfl) dX7_item_52 rfl (Nat.le_of_ble_eq_true rfl) (jX7_isWord (X := X) (d + 4) t8 23 hy11) ?_
      refine J_if_eq (pc := 55) 62 dX7_item_55 (by decide) (fun c18 => ?_) (fun c18 => ?_)
      · replace hh := (if_pos c18).symm.trans hh
        refine J_aload_n (pc := 62) dX7_item_62 rfl ?_
        refine J_ldcwS (pc := 63) (i := 24) sl24 dX7_item_63 ?_
        obtain ⟨y12, hy12, hh⟩ := bd_some hh
        refine J_callVi (pc := 66) (M' := MX7_isWord) (a := 19) (rest := []) (As := [.ref (1000 + 24)]) (L0 := [some (.ref 19), some (.ref (1000 + 24)), none, none]) okX7_isWord ovX7_isWord mlX7_335 clX7 so19 rfl rfl (Nat.le_of_ble_eq_true rfl) dX7_item_66 rfl (Nat.le_of_ble_eq_true rfl) (jX7_isWord (X := X) (d + 4) t8 24 hy12) ?_
        refine J_if_eq (pc := 69) 76 dX7_item_69 (by decide) (fun c17 => ?_) (fun c17 => ?_)
        · replace hh := (if_pos c17).symm.trans hh
          refine J_iconst (pc := 76) dX7_item_76 ci_m1 ?_
          exact jgX7_item_77 d t8 (-1 : Int32) hh hk
        · replace hh := (if_neg c17).symm.trans hh
          refine J_iconst (pc := 72) dX7_item_72 ci_2 ?_
          refine J_goto (pc := 73) 77 dX7_item_73 (by decide) ?_
          exact jgX7_item_77 d t8 (2 : Int32) hh hk
      · replace hh := (if_neg c18).symm.trans hh
        refine J_iconst (pc := 58) dX7_item_58 ci_1 ?_
        refine J_goto (pc := 59) 77 dX7_item_59 (by decide) ?_
        exact jgX7_item_77 d t8 (1 : Int32) hh hk
    · replace hh := (if_neg c19).symm.trans hh
      refine J_iconst (pc := 44) dX7_item_44 ci_0 ?_
      refine J_goto (pc := 45) 77 dX7_item_45 (by decide) ?_
      exact jgX7_item_77 d t8 (0 : Int32) hh hk
theorem jX7_item {X : Scr} (d : Nat) (s : Mem)  {r : Mem} (hh : fX7_item s = some r) : J X MX7_item (d + 10) 0 [some (.ref 19), none] [] s (none) r := jjX7_item d s hh ⟨rfl, rfl⟩
theorem dX7_text_0 : decode cX7_text 0 = .ok (.aload_n 0, 1) := by decide +kernel
theorem dX7_text_1 : decode cX7_text 1 = .ok (.invokevirtual 161, 3) := by decide +kernel
theorem dX7_text_4 : decode cX7_text 4 = .ok (.aload_n 0, 1) := by decide +kernel
theorem dX7_text_5 : decode cX7_text 5 = .ok (.iconst (-1), 1) := by decide +kernel
theorem dX7_text_6 : decode cX7_text 6 = .ok (.putfield 313, 3) := by decide +kernel
theorem dX7_text_9 : decode cX7_text 9 = .ok (.aload_n 0, 1) := by decide +kernel
theorem dX7_text_10 : decode cX7_text 10 = .ok (.iconst 0, 1) := by decide +kernel
theorem dX7_text_11 : decode cX7_text 11 = .ok (.putfield 316, 3) := by decide +kernel
theorem dX7_text_14 : decode cX7_text 14 = .ok (.aload_n 0, 1) := by decide +kernel
theorem dX7_text_15 : decode cX7_text 15 = .ok (.invokevirtual 339, 3) := by decide +kernel
theorem dX7_text_18 : decode cX7_text 18 = .ok (.aload_n 0, 1) := by decide +kernel
theorem dX7_text_19 : decode cX7_text 19 = .ok (.invokevirtual 406, 3) := by decide +kernel
theorem dX7_text_22 : decode cX7_text 22 = .ok (.iconst 1, 1) := by decide +kernel
theorem dX7_text_23 : decode cX7_text 23 = .ok (.istore_n 1, 1) := by decide +kernel
theorem dX7_text_24 : decode cX7_text 24 = .ok (.aload_n 0, 1) := by decide +kernel
theorem dX7_text_25 : decode cX7_text 25 = .ok (.ldc_w 409, 3) := by decide +kernel
theorem dX7_text_28 : decode cX7_text 28 = .ok (.invokevirtual 372, 3) := by decide +kernel
theorem dX7_text_31 : decode cX7_text 31 = .ok (.ifCond .eq 13, 3) := by decide +kernel
theorem dX7_text_34 : decode cX7_text 34 = .ok (.aload_n 0, 1) := by decide +kernel
theorem dX7_text_35 : decode cX7_text 35 = .ok (.invokevirtual 406, 3) := by decide +kernel
theorem dX7_text_38 : decode cX7_text 38 = .ok (.iinc 1 1, 3) := by decide +kernel
theorem dX7_text_41 : decode cX7_text 41 = .ok (.goto (-17), 3) := by decide +kernel
theorem dX7_text_44 : decode cX7_text 44 = .ok (.aload_n 0, 1) := by decide +kernel
theorem dX7_text_45 : decode cX7_text 45 = .ok (.aload_n 0, 1) := by decide +kernel
theorem dX7_text_46 : decode cX7_text 46 = .ok (.getfield 319, 3) := by decide +kernel
theorem dX7_text_49 : decode cX7_text 49 = .ok (.aload_n 0, 1) := by decide +kernel
theorem dX7_text_50 : decode cX7_text 50 = .ok (.getfield 310, 3) := by decide +kernel
theorem dX7_text_53 : decode cX7_text 53 = .ok (.if_icmp .ne 7, 3) := by decide +kernel
theorem dX7_text_56 : decode cX7_text 56 = .ok (.iconst 1, 1) := by decide +kernel
theorem dX7_text_57 : decode cX7_text 57 = .ok (.goto 4, 3) := by decide +kernel
theorem dX7_text_60 : decode cX7_text 60 = .ok (.iconst 0, 1) := by decide +kernel
theorem dX7_text_61 : decode cX7_text 61 = .ok (.invokevirtual 349, 3) := by decide +kernel
theorem dX7_text_64 : decode cX7_text 64 = .ok (.aload_n 0, 1) := by decide +kernel
theorem dX7_text_65 : decode cX7_text 65 = .ok (.iconst 0, 1) := by decide +kernel
theorem dX7_text_66 : decode cX7_text 66 = .ok (.putfield 310, 3) := by decide +kernel
theorem dX7_text_69 : decode cX7_text 69 = .ok (.aload_n 0, 1) := by decide +kernel
theorem dX7_text_70 : decode cX7_text 70 = .ok (.getfield 313, 3) := by decide +kernel
theorem dX7_text_73 : decode cX7_text 73 = .ok (.ifCond .lt 14, 3) := by decide +kernel
theorem dX7_text_76 : decode cX7_text 76 = .ok (.aload_n 0, 1) := by decide +kernel
theorem dX7_text_77 : decode cX7_text 77 = .ok (.invokevirtual 411, 3) := by decide +kernel
theorem dX7_text_80 : decode cX7_text 80 = .ok (.iconst (-1), 1) := by decide +kernel
theorem dX7_text_81 : decode cX7_text 81 = .ok (.aload_n 0, 1) := by decide +kernel
theorem dX7_text_82 : decode cX7_text 82 = .ok (.getfield 313, 3) := by decide +kernel
theorem dX7_text_85 : decode cX7_text 85 = .ok (.isub, 1) := by decide +kernel
theorem dX7_text_86 : decode cX7_text 86 = .ok (.ireturn, 1) := by decide +kernel
theorem dX7_text_87 : decode cX7_text 87 = .ok (.aload_n 0, 1) := by decide +kernel
theorem dX7_text_88 : decode cX7_text 88 = .ok (.invokevirtual 168, 3) := by decide +kernel
theorem dX7_text_91 : decode cX7_text 91 = .ok (.iload_n 1, 1) := by decide +kernel
theorem dX7_text_92 : decode cX7_text 92 = .ok (.ireturn, 1) := by decide +kernel
def bX7_text_24 (s : Mem) (v1 : Int32) : Option ((Int32 × Mem) ⊕ (Int32 × Mem)) :=
  (fX7_takes s 27).bind (fun y6 => if y6.1 = (0 : Int32) then some (Sum.inl (v1, y6.2)) else (fX7_item y6.2).bind (fun y7 => lt (v1 + (1 : Int32)) (fun x8 => some (Sum.inr (x8, y7)))))
set_option maxRecDepth 4000 in
theorem jbX7_text_24 {X : Scr} (d : Nat) (s : Mem) (v1 : Int32) {r : ((Int32 × Mem) ⊕ (Int32 × Mem))} {w : Option Value} {s' : Mem} (hh : bX7_text_24 s v1 = some r) (hk : Sum.elim (fun t : (Int32 × Mem) => J X MX7_text (d + 11) 44 [some (.ref 19), some (.int t.1)] [] t.2 w s') (fun a : (Int32 × Mem) => J X MX7_text (d + 11) 24 [some (.ref 19), some (.int a.1)] [] a.2 w s') r) : J X MX7_text (d + 11) 24 [some (.ref 19), some (.int v1)] [] s w s' := by
  unfold bX7_text_24 at hh
  refine J_aload_n (pc := 24) dX7_text_24 rfl ?_
  refine J_ldcwS (pc := 25) (i := 27) sl27 dX7_text_25 ?_
  obtain ⟨y6, hy6, hh⟩ := bd_some hh
  refine J_callVi (pc := 28) (M' := MX7_takes) (a := 19) (rest := []) (As := [.ref (1000 + 27)]) (L0 := [some (.ref 19), some (.ref (1000 + 27)), none]) okX7_takes ovX7_takes mlX7_372 clX7 so19 rfl rfl (Nat.le_of_ble_eq_true rfl) dX7_text_28 rfl (Nat.le_of_ble_eq_true rfl) (jX7_takes (X := X) (d + 4) s 27 hy6) ?_
  refine J_if_eq (pc := 31) 44 dX7_text_31 (by decide) (fun c9 => ?_) (fun c9 => ?_)
  · replace hh := (if_pos c9).symm.trans hh
    obtain rfl := Option.some.inj hh
    exact hk
  · replace hh := (if_neg c9).symm.trans hh
    refine J_aload_n (pc := 34) dX7_text_34 rfl ?_
    obtain ⟨y7, hy7, hh⟩ := bd_some hh
    refine J_callV0 (pc := 35) (M' := MX7_item) (a := 19) (rest := []) (As := []) (L0 := [some (.ref 19), none]) okX7_item ovX7_item mlX7_406 clX7 so19 rfl rfl (Nat.le_of_ble_eq_true rfl) dX7_text_35 rfl (Nat.le_of_ble_eq_true rfl) (jX7_item (X := X) d y6.2 hy7) ?_
    refine J_iincL (pc := 38) (v := v1 + (1 : Int32)) (fun x8 => [some (.ref 19), some (.int x8)]) dX7_text_38 rfl rfl (Nat.le_of_ble_eq_true rfl) (congrArg _ ci_1) (fun _ => rfl) hh (fun x8 hh => ?_)
    refine J_goto (pc := 41) 24 dX7_text_41 (by decide) ?_
    obtain rfl := Option.some.inj hh
    exact hk
def gX7_text_61 (s : Mem) (v1 : Int32) (k0 : Int32) : Option (Int32 × Mem) :=
  (fX7_must s k0).bind (fun y11 => lt (up2 y11 19 19 (0 : Int32)) (fun s12 => if (s12.1 19 22) < (0 : Int32) then (fX7_changes s12).bind (fun y13 => some ((v1, y13))) else (fX7_laysBack s12).bind (fun y14 => some (((-1 : Int32) - (y14.1 19 22), y14)))))
set_option maxRecDepth 4000 in
theorem jgX7_text_61 {X : Scr} (d : Nat) (s : Mem) (v1 : Int32) (k0 : Int32) {r : (Int32 × Mem)} {w : Option Value} {s' : Mem} (hh : gX7_text_61 s v1 k0 = some r) (hk : w = some (.int r.1) ∧ r.2 = s') : J X MX7_text (d + 11) 61 [some (.ref 19), some (.int v1)] [.int k0, .ref 19] s w s' := by
  unfold gX7_text_61 at hh
  obtain ⟨y11, hy11, hh⟩ := bd_some hh
  refine J_callV0 (pc := 61) (M' := MX7_must) (a := 19) (rest := []) (As := [.int k0]) (L0 := [some (.ref 19), some (.int k0)]) okX7_must ovX7_must mlX7_349 clX7 so19 rfl rfl (Nat.le_of_ble_eq_true rfl) dX7_text_61 rfl (Nat.le_of_ble_eq_true rfl) (jX7_must (X := X) (d + 10) s k0 hy11) ?_
  refine J_aload_n (pc := 64) dX7_text_64 rfl ?_
  refine J_iconst (pc := 65) dX7_text_65 ci_0 ?_
  refine J_putIL (pc := 66) (k := 19) fpX7_310 so19 fk19_19 rfl rfl dX7_text_66 hh (fun s12 hh => ?_)
  refine J_aload_n (pc := 69) dX7_text_69 rfl ?_
  refine J_getI (pc := 70) (k := 22) flX7_313 so19 fk19_22 dX7_text_70 ?_
  refine J_if_lt (pc := 73) 87 dX7_text_73 (by decide) (fun c15 => ?_) (fun c15 => ?_)
  · replace hh := (if_pos c15).symm.trans hh
    refine J_aload_n (pc := 87) dX7_text_87 rfl ?_
    obtain ⟨y13, hy13, hh⟩ := bd_some hh
    refine J_callV0 (pc := 88) (M' := MX7_changes) (a := 19) (rest := []) (As := []) (L0 := [some (.ref 19), none, none]) okX7_changes ovX7_changes mlX7_168 clX7 so19 rfl rfl (Nat.le_of_ble_eq_true rfl) dX7_text_88 rfl (Nat.le_of_ble_eq_true rfl) (jX7_changes (X := X) (d + 10) s12 hy13) ?_
    refine J_iload_n (pc := 91) dX7_text_91 rfl ?_
    obtain rfl := Option.some.inj hh
    obtain ⟨rfl, rfl⟩ := hk
    exact J_ret (w := some (.int v1)) ⟨dX7_text_92, _, rfl, rfl⟩
  · replace hh := (if_neg c15).symm.trans hh
    refine J_aload_n (pc := 76) dX7_text_76 rfl ?_
    obtain ⟨y14, hy14, hh⟩ := bd_some hh
    refine J_callV0 (pc := 77) (M' := MX7_laysBack) (a := 19) (rest := []) (As := []) (L0 := [some (.ref 19), none]) okX7_laysBack ovX7_laysBack mlX7_411 clX7 so19 rfl rfl (Nat.le_of_ble_eq_true rfl) dX7_text_77 rfl (Nat.le_of_ble_eq_true rfl) (jX7_laysBack (X := X) (d + 10) s12 hy14) ?_
    refine J_iconst (pc := 80) dX7_text_80 ci_m1 ?_
    refine J_aload_n (pc := 81) dX7_text_81 rfl ?_
    refine J_getI (pc := 82) (k := 22) flX7_313 so19 fk19_22 dX7_text_82 ?_
    refine J_isub (pc := 85) dX7_text_85 ?_
    obtain rfl := Option.some.inj hh
    obtain ⟨rfl, rfl⟩ := hk
    exact J_ret (w := some (.int ((-1 : Int32) - (y14.1 19 22)))) ⟨dX7_text_86, _, rfl, rfl⟩
def fX7_text (s : Mem)  : Option (Int32 × Mem) :=
  (fX7_laysAside s).bind (fun y1 => lt (up2 y1 19 22 (-1 : Int32)) (fun s2 => lt (up2 s2 19 21 (0 : Int32)) (fun s3 => (fX7_goesOn s3).bind (fun y4 => (fX7_item y4).bind (fun y5 => (lp (fun a => bX7_text_24 a.2 a.1) 600 ((1 : Int32), y5)).bind (fun y10 => if (y10.2.1 19 20) = (y10.2.1 19 19) then gX7_text_61 y10.2 y10.1 (1 : Int32) else gX7_text_61 y10.2 y10.1 (0 : Int32)))))))
set_option maxRecDepth 4000 in
theorem jjX7_text {X : Scr} (d : Nat) (s : Mem)  {r : (Int32 × Mem)} {w : Option Value} {s' : Mem} (hh : fX7_text s = some r) (hk : w = some (.int r.1) ∧ r.2 = s') : J X MX7_text (d + 11) 0 [some (.ref 19), none] [] s w s' := by
  unfold fX7_text at hh
  refine J_aload_n (pc := 0) dX7_text_0 rfl ?_
  obtain ⟨y1, hy1, hh⟩ := bd_some hh
  refine J_callV0 (pc := 1) (M' := MX7_laysAside) (a := 19) (rest := []) (As := []) (L0 := [some (.ref 19), none]) okX7_laysAside ovX7_laysAside mlX7_161 clX7 so19 rfl rfl (Nat.le_of_ble_eq_true rfl) dX7_text_1 rfl (Nat.le_of_ble_eq_true rfl) (jX7_laysAside (X := X) (d + 10) s hy1) ?_
  refine J_aload_n (pc := 4) dX7_text_4 rfl ?_
  refine J_iconst (pc := 5) dX7_text_5 ci_m1 ?_
  refine J_putIL (pc := 6) (k := 22) fpX7_313 so19 fk19_22 rfl rfl dX7_text_6 hh (fun s2 hh => ?_)
  refine J_aload_n (pc := 9) dX7_text_9 rfl ?_
  refine J_iconst (pc := 10) dX7_text_10 ci_0 ?_
  refine J_putIL (pc := 11) (k := 21) fpX7_316 so19 fk19_21 rfl rfl dX7_text_11 hh (fun s3 hh => ?_)
  refine J_aload_n (pc := 14) dX7_text_14 rfl ?_
  obtain ⟨y4, hy4, hh⟩ := bd_some hh
  refine J_callV0 (pc := 15) (M' := MX7_goesOn) (a := 19) (rest := []) (As := []) (L0 := [some (.ref 19)]) okX7_goesOn ovX7_goesOn mlX7_339 clX7 so19 rfl rfl (Nat.le_of_ble_eq_true rfl) dX7_text_15 rfl (Nat.le_of_ble_eq_true rfl) (jX7_goesOn (X := X) (d + 9) s3 hy4) ?_
  refine J_aload_n (pc := 18) dX7_text_18 rfl ?_
  obtain ⟨y5, hy5, hh⟩ := bd_some hh
  refine J_callV0 (pc := 19) (M' := MX7_item) (a := 19) (rest := []) (As := []) (L0 := [some (.ref 19), none]) okX7_item ovX7_item mlX7_406 clX7 so19 rfl rfl (Nat.le_of_ble_eq_true rfl) dX7_text_19 rfl (Nat.le_of_ble_eq_true rfl) (jX7_item (X := X) d y4 hy5) ?_
  refine J_iconst (pc := 22) dX7_text_22 ci_1 ?_
  refine J_istore_n (pc := 23) (L' := [some (.ref 19), some (.int (1 : Int32))]) dX7_text_23 rfl (Nat.le_of_ble_eq_true rfl) rfl ?_
  obtain ⟨y10, hy10, hh⟩ := bd_some hh
  refine J_lp (a := ((1 : Int32), y5)) (fun a : (Int32 × Mem) => J X MX7_text (d + 11) 24 [some (.ref 19), some (.int a.1)] [] a.2 w s') (fun t : (Int32 × Mem) => J X MX7_text (d + 11) 44 [some (.ref 19), some (.int t.1)] [] t.2 w s') (fun a q h1 h2 => jbX7_text_24 d a.2 a.1 h1 h2) hy10 ?_
  refine J_aload_n (pc := 44) dX7_text_44 rfl ?_
  refine J_aload_n (pc := 45) dX7_text_45 rfl ?_
  refine J_getI (pc := 46) (k := 20) flX7_319 so19 fk19_20 dX7_text_46 ?_
  refine J_aload_n (pc := 49) dX7_text_49 rfl ?_
  refine J_getI (pc := 50) (k := 19) flX7_310 so19 fk19_19 dX7_text_50 ?_
  refine J_icmp_ne (pc := 53) 60 dX7_text_53 (by decide) (fun c16 => ?_) (fun c16 => ?_)
  · replace hh := (if_neg c16).symm.trans hh
    refine J_iconst (pc := 60) dX7_text_60 ci_0 ?_
    exact jgX7_text_61 d y10.2 y10.1 (0 : Int32) hh hk
  · replace hh := (if_pos c16).symm.trans hh
    refine J_iconst (pc := 56) dX7_text_56 ci_1 ?_
    refine J_goto (pc := 57) 61 dX7_text_57 (by decide) ?_
    exact jgX7_text_61 d y10.2 y10.1 (1 : Int32) hh hk
theorem jX7_text {X : Scr} (d : Nat) (s : Mem)  {r : (Int32 × Mem)} (hh : fX7_text s = some r) : J X MX7_text (d + 11) 0 [some (.ref 19), none] [] s (some (.int r.1)) r.2 := jjX7_text d s hh ⟨rfl, rfl⟩
theorem dX7_says_0 : decode cX7_says 0 = .ok (.aload_n 0, 1) := by decide +kernel
theorem dX7_says_1 : decode cX7_says 1 = .ok (.getfield 414, 3) := by decide +kernel
theorem dX7_says_4 : decode cX7_says 4 = .ok (.iload_n 1, 1) := by decide +kernel
theorem dX7_says_5 : decode cX7_says 5 = .ok (.if_icmp .ne 8, 3) := by decide +kernel
theorem dX7_says_8 : decode cX7_says 8 = .ok (.aload_n 0, 1) := by decide +kernel
theorem dX7_says_9 : decode cX7_says 9 = .ok (.iload_n 2, 1) := by decide +kernel
theorem dX7_says_10 : decode cX7_says 10 = .ok (.putfield 417, 3) := by decide +kernel
theorem dX7_says_13 : decode cX7_says 13 = .ok (.aload_n 0, 1) := by decide +kernel
theorem dX7_says_14 : decode cX7_says 14 = .ok (.dup, 1) := by decide +kernel
theorem dX7_says_15 : decode cX7_says 15 = .ok (.getfield 414, 3) := by decide +kernel
theorem dX7_says_18 : decode cX7_says 18 = .ok (.iconst 1, 1) := by decide +kernel
theorem dX7_says_19 : decode cX7_says 19 = .ok (.iadd, 1) := by decide +kernel
theorem dX7_says_20 : decode cX7_says 20 = .ok (.putfield 414, 3) := by decide +kernel
theorem dX7_says_23 : decode cX7_says 23 = .ok (.return_, 1) := by decide +kernel
def gX7_says_13 (s : Mem)  : Option Mem :=
  lt (up2 s 19 23 ((s.1 19 23) + (1 : Int32))) (fun s1 => some s1)
set_option maxRecDepth 4000 in
theorem jgX7_says_13 {X : Scr} (d : Nat) (s : Mem)  {r : Mem} {w : Option Value} {s' : Mem} (hh : gX7_says_13 s = some r) (hk : w = none ∧ r = s') : J X MX7_says (d + 0) 13 [some (.ref 19), none, none] [] s w s' := by
  unfold gX7_says_13 at hh
  refine J_aload_n (pc := 13) dX7_says_13 rfl ?_
  refine J_dup (pc := 14) dX7_says_14 rfl ?_
  refine J_getI (pc := 15) (k := 23) flX7_414 so19 fk19_23 dX7_says_15 ?_
  refine J_iconst (pc := 18) dX7_says_18 ci_1 ?_
  refine J_iadd (pc := 19) dX7_says_19 ?_
  refine J_putIL (pc := 20) (k := 23) fpX7_414 so19 fk19_23 rfl rfl dX7_says_20 hh (fun s1 hh => ?_)
  obtain rfl := Option.some.inj hh
  obtain ⟨rfl, rfl⟩ := hk
  exact J_ret (w := none) ⟨dX7_says_23, rfl⟩
def fX7_says (s : Mem) (p0 : Int32) (p1 : Int32) : Option Mem :=
  if (s.1 19 23) = p0 then lt (up2 s 19 24 p1) (fun s2 => gX7_says_13 s2) else gX7_says_13 s
set_option maxRecDepth 4000 in
theorem jjX7_says {X : Scr} (d : Nat) (s : Mem) (p0 : Int32) (p1 : Int32) {r : Mem} {w : Option Value} {s' : Mem} (hh : fX7_says s p0 p1 = some r) (hk : w = none ∧ r = s') : J X MX7_says (d + 0) 0 [some (.ref 19), some (.int p0), some (.int p1)] [] s w s' := by
  unfold fX7_says at hh
  refine J_aload_n (pc := 0) dX7_says_0 rfl ?_
  refine J_getI (pc := 1) (k := 23) flX7_414 so19 fk19_23 dX7_says_1 ?_
  refine J_iload_n (pc := 4) dX7_says_4 rfl ?_
  refine J_icmp_ne (pc := 5) 13 dX7_says_5 (by decide) (fun c3 => ?_) (fun c3 => ?_)
  · replace hh := (if_neg c3).symm.trans hh
    refine J_drop 1 (L' := [some (.ref 19), none, some (.int p1)]) rfl ?_
    refine J_drop 2 (L' := [some (.ref 19), none, none]) rfl ?_
    exact jgX7_says_13 d s hh hk
  · replace hh := (if_pos c3).symm.trans hh
    refine J_aload_n (pc := 8) dX7_says_8 rfl ?_
    refine J_iload_n (pc := 9) dX7_says_9 rfl ?_
    refine J_putIL (pc := 10) (k := 24) fpX7_417 so19 fk19_24 rfl rfl dX7_says_10 hh (fun s2 hh => ?_)
    refine J_drop 1 (L' := [some (.ref 19), none, some (.int p1)]) rfl ?_
    refine J_drop 2 (L' := [some (.ref 19), none, none]) rfl ?_
    exact jgX7_says_13 d s2 hh hk
theorem jX7_says {X : Scr} (d : Nat) (s : Mem) (p0 : Int32) (p1 : Int32) {r : Mem} (hh : fX7_says s p0 p1 = some r) : J X MX7_says (d + 0) 0 [some (.ref 19), some (.int p0), some (.int p1)] [] s (none) r := jjX7_says d s p0 p1 hh ⟨rfl, rfl⟩
theorem dX7_saysLine_0 : decode cX7_saysLine 0 = .ok (.aload_n 0, 1) := by decide +kernel
theorem dX7_saysLine_1 : decode cX7_saysLine 1 = .ok (.iconst 0, 1) := by decide +kernel
theorem dX7_saysLine_2 : decode cX7_saysLine 2 = .ok (.putfield 414, 3) := by decide +kernel
theorem dX7_saysLine_5 : decode cX7_saysLine 5 = .ok (.aload_n 0, 1) := by decide +kernel
theorem dX7_saysLine_6 : decode cX7_saysLine 6 = .ok (.iload_n 1, 1) := by decide +kernel
theorem dX7_saysLine_7 : decode cX7_saysLine 7 = .ok (.invokevirtual 118, 3) := by decide +kernel
theorem dX7_saysLine_10 : decode cX7_saysLine 10 = .ok (.invokestatic 390, 3) := by decide +kernel
theorem dX7_saysLine_13 : decode cX7_saysLine 13 = .ok (.astore_n 3, 1) := by decide +kernel
theorem dX7_saysLine_14 : decode cX7_saysLine 14 = .ok (.iconst 0, 1) := by decide +kernel
theorem dX7_saysLine_15 : decode cX7_saysLine 15 = .ok (.istore 4, 2) := by decide +kernel
theorem dX7_saysLine_17 : decode cX7_saysLine 17 = .ok (.iload 4, 2) := by decide +kernel
theorem dX7_saysLine_19 : decode cX7_saysLine 19 = .ok (.aload_n 3, 1) := by decide +kernel
theorem dX7_saysLine_20 : decode cX7_saysLine 20 = .ok (.invokevirtual 325, 3) := by decide +kernel
theorem dX7_saysLine_23 : decode cX7_saysLine 23 = .ok (.if_icmp .ge 20, 3) := by decide +kernel
theorem dX7_saysLine_26 : decode cX7_saysLine 26 = .ok (.aload_n 0, 1) := by decide +kernel
theorem dX7_saysLine_27 : decode cX7_saysLine 27 = .ok (.iload_n 2, 1) := by decide +kernel
theorem dX7_saysLine_28 : decode cX7_saysLine 28 = .ok (.aload_n 3, 1) := by decide +kernel
theorem dX7_saysLine_29 : decode cX7_saysLine 29 = .ok (.iload 4, 2) := by decide +kernel
theorem dX7_saysLine_31 : decode cX7_saysLine 31 = .ok (.invokevirtual 331, 3) := by decide +kernel
theorem dX7_saysLine_34 : decode cX7_saysLine 34 = .ok (.invokevirtual 420, 3) := by decide +kernel
theorem dX7_saysLine_37 : decode cX7_saysLine 37 = .ok (.iinc 4 1, 3) := by decide +kernel
theorem dX7_saysLine_40 : decode cX7_saysLine 40 = .ok (.goto (-23), 3) := by decide +kernel
theorem dX7_saysLine_43 : decode cX7_saysLine 43 = .ok (.iconst 0, 1) := by decide +kernel
theorem dX7_saysLine_44 : decode cX7_saysLine 44 = .ok (.istore 4, 2) := by decide +kernel
theorem dX7_saysLine_46 : decode cX7_saysLine 46 = .ok (.iload 4, 2) := by decide +kernel
theorem dX7_saysLine_48 : decode cX7_saysLine 48 = .ok (.iconst 4, 1) := by decide +kernel
theorem dX7_saysLine_49 : decode cX7_saysLine 49 = .ok (.if_icmp .ge 91, 3) := by decide +kernel
theorem dX7_saysLine_52 : decode cX7_saysLine 52 = .ok (.aload_n 0, 1) := by decide +kernel
theorem dX7_saysLine_53 : decode cX7_saysLine 53 = .ok (.iload_n 1, 1) := by decide +kernel
theorem dX7_saysLine_54 : decode cX7_saysLine 54 = .ok (.iload 4, 2) := by decide +kernel
theorem dX7_saysLine_56 : decode cX7_saysLine 56 = .ok (.invokevirtual 105, 3) := by decide +kernel
theorem dX7_saysLine_59 : decode cX7_saysLine 59 = .ok (.istore 5, 2) := by decide +kernel
theorem dX7_saysLine_61 : decode cX7_saysLine 61 = .ok (.iload 5, 2) := by decide +kernel
theorem dX7_saysLine_63 : decode cX7_saysLine 63 = .ok (.ifCond .ge 6, 3) := by decide +kernel
theorem dX7_saysLine_66 : decode cX7_saysLine 66 = .ok (.goto 68, 3) := by decide +kernel
theorem dX7_saysLine_69 : decode cX7_saysLine 69 = .ok (.aload_n 0, 1) := by decide +kernel
theorem dX7_saysLine_70 : decode cX7_saysLine 70 = .ok (.iload_n 2, 1) := by decide +kernel
theorem dX7_saysLine_71 : decode cX7_saysLine 71 = .ok (.bipush 32, 2) := by decide +kernel
theorem dX7_saysLine_73 : decode cX7_saysLine 73 = .ok (.invokevirtual 420, 3) := by decide +kernel
theorem dX7_saysLine_76 : decode cX7_saysLine 76 = .ok (.aload_n 0, 1) := by decide +kernel
theorem dX7_saysLine_77 : decode cX7_saysLine 77 = .ok (.iload_n 2, 1) := by decide +kernel
theorem dX7_saysLine_78 : decode cX7_saysLine 78 = .ok (.bipush 97, 2) := by decide +kernel
theorem dX7_saysLine_80 : decode cX7_saysLine 80 = .ok (.iload 4, 2) := by decide +kernel
theorem dX7_saysLine_82 : decode cX7_saysLine 82 = .ok (.iadd, 1) := by decide +kernel
theorem dX7_saysLine_83 : decode cX7_saysLine 83 = .ok (.invokevirtual 420, 3) := by decide +kernel
theorem dX7_saysLine_86 : decode cX7_saysLine 86 = .ok (.iconst 0, 1) := by decide +kernel
theorem dX7_saysLine_87 : decode cX7_saysLine 87 = .ok (.istore 6, 2) := by decide +kernel
theorem dX7_saysLine_89 : decode cX7_saysLine 89 = .ok (.iload 6, 2) := by decide +kernel
theorem dX7_saysLine_91 : decode cX7_saysLine 91 = .ok (.iconst 3, 1) := by decide +kernel
theorem dX7_saysLine_92 : decode cX7_saysLine 92 = .ok (.if_icmp .ge 42, 3) := by decide +kernel
theorem dX7_saysLine_95 : decode cX7_saysLine 95 = .ok (.aload_n 0, 1) := by decide +kernel
theorem dX7_saysLine_96 : decode cX7_saysLine 96 = .ok (.iload_n 2, 1) := by decide +kernel
theorem dX7_saysLine_97 : decode cX7_saysLine 97 = .ok (.aload_n 0, 1) := by decide +kernel
theorem dX7_saysLine_98 : decode cX7_saysLine 98 = .ok (.iload 4, 2) := by decide +kernel
theorem dX7_saysLine_100 : decode cX7_saysLine 100 = .ok (.iload 5, 2) := by decide +kernel
theorem dX7_saysLine_102 : decode cX7_saysLine 102 = .ok (.iload 6, 2) := by decide +kernel
theorem dX7_saysLine_104 : decode cX7_saysLine 104 = .ok (.invokevirtual 89, 3) := by decide +kernel
theorem dX7_saysLine_107 : decode cX7_saysLine 107 = .ok (.ifCond .eq 16, 3) := by decide +kernel
theorem dX7_saysLine_110 : decode cX7_saysLine 110 = .ok (.bipush 48, 2) := by decide +kernel
theorem dX7_saysLine_112 : decode cX7_saysLine 112 = .ok (.iload 5, 2) := by decide +kernel
theorem dX7_saysLine_114 : decode cX7_saysLine 114 = .ok (.iload 6, 2) := by decide +kernel
theorem dX7_saysLine_116 : decode cX7_saysLine 116 = .ok (.invokestatic 81, 3) := by decide +kernel
theorem dX7_saysLine_119 : decode cX7_saysLine 119 = .ok (.iadd, 1) := by decide +kernel
theorem dX7_saysLine_120 : decode cX7_saysLine 120 = .ok (.goto 5, 3) := by decide +kernel
theorem dX7_saysLine_123 : decode cX7_saysLine 123 = .ok (.bipush 45, 2) := by decide +kernel
theorem dX7_saysLine_125 : decode cX7_saysLine 125 = .ok (.invokevirtual 420, 3) := by decide +kernel
theorem dX7_saysLine_128 : decode cX7_saysLine 128 = .ok (.iinc 6 1, 3) := by decide +kernel
theorem dX7_saysLine_131 : decode cX7_saysLine 131 = .ok (.goto (-42), 3) := by decide +kernel
theorem dX7_saysLine_134 : decode cX7_saysLine 134 = .ok (.iinc 4 1, 3) := by decide +kernel
theorem dX7_saysLine_137 : decode cX7_saysLine 137 = .ok (.goto (-91), 3) := by decide +kernel
theorem dX7_saysLine_140 : decode cX7_saysLine 140 = .ok (.return_, 1) := by decide +kernel
def bX7_saysLine_17 (s : Mem) (v1 : Int32) (v2 : Int32) (v3 : Nat) (v4 : Int32) : Option (Mem ⊕ (Int32 × Mem)) :=
  (fT_length v3).bind (fun y4 => if y4 ≤ v4 then some (Sum.inl s) else (fT_charAt v3 v4).bind (fun y6 => (fX7_says s v2 y6).bind (fun y8 => lt (v4 + (1 : Int32)) (fun x9 => some (Sum.inr (x9, y8))))))
set_option maxRecDepth 4000 in
theorem jbX7_saysLine_17 {X : Scr} (d : Nat) (s : Mem) (v1 : Int32) (v2 : Int32) (v3 : Nat) (v4 : Int32) {r : (Mem ⊕ (Int32 × Mem))} {w : Option Value} {s' : Mem} (hh : bX7_saysLine_17 s v1 v2 v3 v4 = some r) (hk : Sum.elim (fun t : Mem => J X MX7_saysLine (d + 5) 43 [some (.ref 19), some (.int v1), some (.int v2), none, none, none, none] [] t w s') (fun a : (Int32 × Mem) => J X MX7_saysLine (d + 5) 17 [some (.ref 19), some (.int v1), some (.int v2), some (.ref (1000 + v3)), some (.int a.1), none, none] [] a.2 w s') r) : J X MX7_saysLine (d + 5) 17 [some (.ref 19), some (.int v1), some (.int v2), some (.ref (1000 + v3)), some (.int v4), none, none] [] s w s' := by
  unfold bX7_saysLine_17 at hh
  refine J_iload (pc := 17) dX7_saysLine_17 rfl ?_
  refine J_aload_n (pc := 19) dX7_saysLine_19 rfl ?_
  obtain ⟨y4, hy4, hh⟩ := bd_some hh
  obtain ⟨b5, hb5, hy4⟩ := jT_length (X := X) (d + 3) s v3 hy4
  refine J_callTi (pc := 20) (M' := MJ0_length_8abf5) (rest := [.int v4]) (As := []) okJ0_length_8abf5 ovJ0_length_8abf5 rfl mlX7_325 hb5 rfl rfl (Nat.le_of_ble_eq_true rfl) dX7_saysLine_20 rfl (Nat.le_of_ble_eq_true rfl) hy4 ?_
  refine J_icmp_ge (pc := 23) 43 dX7_saysLine_23 (by decide) (fun c10 => ?_) (fun c10 => ?_)
  · replace hh := (if_pos c10).symm.trans hh
    refine J_drop 3 (L' := [some (.ref 19), some (.int v1), some (.int v2), none, some (.int v4), none, none]) rfl ?_
    refine J_drop 4 (L' := [some (.ref 19), some (.int v1), some (.int v2), none, none, none, none]) rfl ?_
    obtain rfl := Option.some.inj hh
    exact hk
  · replace hh := (if_neg c10).symm.trans hh
    refine J_aload_n (pc := 26) dX7_saysLine_26 rfl ?_
    refine J_iload_n (pc := 27) dX7_saysLine_27 rfl ?_
    refine J_aload_n (pc := 28) dX7_saysLine_28 rfl ?_
    refine J_iload (pc := 29) dX7_saysLine_29 rfl ?_
    obtain ⟨y6, hy6, hh⟩ := bd_some hh
    obtain ⟨b7, hb7, hy6⟩ := jT_charAt (X := X) (d + 0) s v3 v4 hy6
    refine J_callTi (pc := 31) (M' := MJ0_charAt_5068e) (rest := [.int v2, .ref 19]) (As := [.int v4]) okJ0_charAt_5068e ovJ0_charAt_5068e rfl mlX7_331 hb7 rfl rfl (Nat.le_of_ble_eq_true rfl) dX7_saysLine_31 rfl (Nat.le_of_ble_eq_true rfl) hy6 ?_
    obtain ⟨y8, hy8, hh⟩ := bd_some hh
    refine J_callV0 (pc := 34) (M' := MX7_says) (a := 19) (rest := []) (As := [.int v2, .int y6]) (L0 := [some (.ref 19), some (.int v2), some (.int y6)]) okX7_says ovX7_says mlX7_420 clX7 so19 rfl rfl (Nat.le_of_ble_eq_true rfl) dX7_saysLine_34 rfl (Nat.le_of_ble_eq_true rfl) (jX7_says (X := X) (d + 4) s v2 y6 hy8) ?_
    refine J_iincL (pc := 37) (v := v4 + (1 : Int32)) (fun x9 => [some (.ref 19), some (.int v1), some (.int v2), some (.ref (1000 + v3)), some (.int x9), none, none]) dX7_saysLine_37 rfl rfl (Nat.le_of_ble_eq_true rfl) (congrArg _ ci_1) (fun _ => rfl) hh (fun x9 hh => ?_)
    refine J_goto (pc := 40) 17 dX7_saysLine_40 (by decide) ?_
    obtain rfl := Option.some.inj hh
    exact hk
def gX7_saysLine_125 (s : Mem) (v1 : Int32) (v2 : Int32) (v4 : Int32) (v5 : Int32) (v6 : Int32) (k0 : Int32) (k1 : Int32) : Option (Mem ⊕ (Int32 × Mem)) :=
  (fX7_says s k1 k0).bind (fun y16 => lt (v6 + (1 : Int32)) (fun x17 => some (Sum.inr (x17, y16))))
set_option maxRecDepth 4000 in
theorem jgX7_saysLine_125 {X : Scr} (d : Nat) (s : Mem) (v1 : Int32) (v2 : Int32) (v4 : Int32) (v5 : Int32) (v6 : Int32) (k0 : Int32) (k1 : Int32) {r : (Mem ⊕ (Int32 × Mem))} {w : Option Value} {s' : Mem} (hh : gX7_saysLine_125 s v1 v2 v4 v5 v6 k0 k1 = some r) (hk : Sum.elim (fun t : Mem => J X MX7_saysLine (d + 5) 134 [some (.ref 19), some (.int v1), some (.int v2), none, some (.int v4), none, none] [] t w s') (fun a : (Int32 × Mem) => J X MX7_saysLine (d + 5) 89 [some (.ref 19), some (.int v1), some (.int v2), none, some (.int v4), some (.int v5), some (.int a.1)] [] a.2 w s') r) : J X MX7_saysLine (d + 5) 125 [some (.ref 19), some (.int v1), some (.int v2), none, some (.int v4), some (.int v5), some (.int v6)] [.int k0, .int k1, .ref 19] s w s' := by
  unfold gX7_saysLine_125 at hh
  obtain ⟨y16, hy16, hh⟩ := bd_some hh
  refine J_callV0 (pc := 125) (M' := MX7_says) (a := 19) (rest := []) (As := [.int k1, .int k0]) (L0 := [some (.ref 19), some (.int k1), some (.int k0)]) okX7_says ovX7_says mlX7_420 clX7 so19 rfl rfl (Nat.le_of_ble_eq_true rfl) dX7_saysLine_125 rfl (Nat.le_of_ble_eq_true rfl) (jX7_says (X := X) (d + 4) s k1 k0 hy16) ?_
  refine J_iincL (pc := 128) (v := v6 + (1 : Int32)) (fun x17 => [some (.ref 19), some (.int v1), some (.int v2), none, some (.int v4), some (.int v5), some (.int x17)]) dX7_saysLine_128 rfl rfl (Nat.le_of_ble_eq_true rfl) (congrArg _ ci_1) (fun _ => rfl) hh (fun x17 hh => ?_)
  refine J_goto (pc := 131) 89 dX7_saysLine_131 (by decide) ?_
  obtain rfl := Option.some.inj hh
  exact hk
def bX7_saysLine_89 (s : Mem) (v1 : Int32) (v2 : Int32) (v4 : Int32) (v5 : Int32) (v6 : Int32) : Option (Mem ⊕ (Int32 × Mem)) :=
  if (3 : Int32) ≤ v6 then some (Sum.inl s) else (fX7_counts s v4 v5 v6).bind (fun y15 => if y15 = (0 : Int32) then gX7_saysLine_125 s v1 v2 v4 v5 v6 (45 : Int32) v2 else (fX7_part v5 v6).bind (fun y18 => gX7_saysLine_125 s v1 v2 v4 v5 v6 ((48 : Int32) + y18) v2))
set_option maxRecDepth 4000 in
theorem jbX7_saysLine_89 {X : Scr} (d : Nat) (s : Mem) (v1 : Int32) (v2 : Int32) (v4 : Int32) (v5 : Int32) (v6 : Int32) {r : (Mem ⊕ (Int32 × Mem))} {w : Option Value} {s' : Mem} (hh : bX7_saysLine_89 s v1 v2 v4 v5 v6 = some r) (hk : Sum.elim (fun t : Mem => J X MX7_saysLine (d + 5) 134 [some (.ref 19), some (.int v1), some (.int v2), none, some (.int v4), none, none] [] t w s') (fun a : (Int32 × Mem) => J X MX7_saysLine (d + 5) 89 [some (.ref 19), some (.int v1), some (.int v2), none, some (.int v4), some (.int v5), some (.int a.1)] [] a.2 w s') r) : J X MX7_saysLine (d + 5) 89 [some (.ref 19), some (.int v1), some (.int v2), none, some (.int v4), some (.int v5), some (.int v6)] [] s w s' := by
  unfold bX7_saysLine_89 at hh
  refine J_iload (pc := 89) dX7_saysLine_89 rfl ?_
  refine J_iconst (pc := 91) dX7_saysLine_91 ci_3 ?_
  refine J_icmp_ge (pc := 92) 134 dX7_saysLine_92 (by decide) (fun c20 => ?_) (fun c20 => ?_)
  · replace hh := (if_pos c20).symm.trans hh
    refine J_drop 5 (L' := [some (.ref 19), some (.int v1), some (.int v2), none, some (.int v4), none, some (.int v6)]) rfl ?_
    refine J_drop 6 (L' := [some (.ref 19), some (.int v1), some (.int v2), none, some (.int v4), none, none]) rfl ?_
    obtain rfl := Option.some.inj hh
    exact hk
  · replace hh := (if_neg c20).symm.trans hh
    refine J_aload_n (pc := 95) dX7_saysLine_95 rfl ?_
    refine J_iload_n (pc := 96) dX7_saysLine_96 rfl ?_
    refine J_aload_n (pc := 97) dX7_saysLine_97 rfl ?_
    refine J_iload (pc := 98) dX7_saysLine_98 rfl ?_
    refine J_iload (pc := 100) dX7_saysLine_100 rfl ?_
    refine J_iload (pc := 102) dX7_saysLine_102 rfl ?_
    obtain ⟨y15, hy15, hh⟩ := bd_some hh
    refine J_callVi (pc := 104) (M' := MX7_counts) (a := 19) (rest := [.int v2, .ref 19]) (As := [.int v4, .int v5, .int v6]) (L0 := [some (.ref 19), some (.int v4), some (.int v5), some (.int v6)]) okX7_counts ovX7_counts mlX7_89 clX7 so19 rfl rfl (Nat.le_of_ble_eq_true rfl) dX7_saysLine_104 rfl (Nat.le_of_ble_eq_true rfl) (jX7_counts (X := X) (d + 2) s v4 v5 v6 hy15) ?_
    refine J_if_eq (pc := 107) 123 dX7_saysLine_107 (by decide) (fun c19 => ?_) (fun c19 => ?_)
    · replace hh := (if_pos c19).symm.trans hh
      refine J_bipush (pc := 123) dX7_saysLine_123 cb_45 ?_
      exact jgX7_saysLine_125 d s v1 v2 v4 v5 v6 (45 : Int32) v2 hh hk
    · replace hh := (if_neg c19).symm.trans hh
      refine J_bipush (pc := 110) dX7_saysLine_110 cb_48 ?_
      refine J_iload (pc := 112) dX7_saysLine_112 rfl ?_
      refine J_iload (pc := 114) dX7_saysLine_114 rfl ?_
      obtain ⟨y18, hy18, hh⟩ := bd_some hh
      refine J_callSi (pc := 116) (M' := MX7_part) (rest := [.int (48 : Int32), .int v2, .ref 19]) (As := [.int v5, .int v6]) (L0 := [some (.int v5), some (.int v6)]) okX7_part osX7_part mlX7_81 rfl rfl (Nat.le_of_ble_eq_true rfl) dX7_saysLine_116 rfl (Nat.le_of_ble_eq_true rfl) (jX7_part (X := X) (d + 4) s v5 v6 hy18) ?_
      refine J_iadd (pc := 119) dX7_saysLine_119 ?_
      refine J_goto (pc := 120) 125 dX7_saysLine_120 (by decide) ?_
      exact jgX7_saysLine_125 d s v1 v2 v4 v5 v6 ((48 : Int32) + y18) v2 hh hk
def bX7_saysLine_46 (s : Mem) (v1 : Int32) (v2 : Int32) (v4 : Int32) : Option (Mem ⊕ (Int32 × Mem)) :=
  if (4 : Int32) ≤ v4 then some (Sum.inl s) else (fX7_triple s v1 v4).bind (fun y12 => if (0 : Int32) ≤ y12 then (fX7_says s v2 (32 : Int32)).bind (fun y13 => (fX7_says y13 v2 ((97 : Int32) + v4)).bind (fun y14 => (lp (fun a => bX7_saysLine_89 a.2 v1 v2 v4 y12 a.1) 600 ((0 : Int32), y14)).bind (fun y21 => lt (v4 + (1 : Int32)) (fun x22 => some (Sum.inr (x22, y21)))))) else lt (v4 + (1 : Int32)) (fun x23 => some (Sum.inr (x23, s))))
set_option maxRecDepth 4000 in
theorem jbX7_saysLine_46 {X : Scr} (d : Nat) (s : Mem) (v1 : Int32) (v2 : Int32) (v4 : Int32) {r : (Mem ⊕ (Int32 × Mem))} {w : Option Value} {s' : Mem} (hh : bX7_saysLine_46 s v1 v2 v4 = some r) (hk : Sum.elim (fun t : Mem => J X MX7_saysLine (d + 5) 140 [none, none, none, none, none, none, none] [] t w s') (fun a : (Int32 × Mem) => J X MX7_saysLine (d + 5) 46 [some (.ref 19), some (.int v1), some (.int v2), none, some (.int a.1), none, none] [] a.2 w s') r) : J X MX7_saysLine (d + 5) 46 [some (.ref 19), some (.int v1), some (.int v2), none, some (.int v4), none, none] [] s w s' := by
  unfold bX7_saysLine_46 at hh
  refine J_iload (pc := 46) dX7_saysLine_46 rfl ?_
  refine J_iconst (pc := 48) dX7_saysLine_48 ci_4 ?_
  refine J_icmp_ge (pc := 49) 140 dX7_saysLine_49 (by decide) (fun c25 => ?_) (fun c25 => ?_)
  · replace hh := (if_pos c25).symm.trans hh
    refine J_drop 0 (L' := [none, some (.int v1), some (.int v2), none, some (.int v4), none, none]) rfl ?_
    refine J_drop 1 (L' := [none, none, some (.int v2), none, some (.int v4), none, none]) rfl ?_
    refine J_drop 2 (L' := [none, none, none, none, some (.int v4), none, none]) rfl ?_
    refine J_drop 4 (L' := [none, none, none, none, none, none, none]) rfl ?_
    obtain rfl := Option.some.inj hh
    exact hk
  · replace hh := (if_neg c25).symm.trans hh
    refine J_aload_n (pc := 52) dX7_saysLine_52 rfl ?_
    refine J_iload_n (pc := 53) dX7_saysLine_53 rfl ?_
    refine J_iload (pc := 54) dX7_saysLine_54 rfl ?_
    obtain ⟨y12, hy12, hh⟩ := bd_some hh
    refine J_callVi (pc := 56) (M' := MX7_triple) (a := 19) (rest := []) (As := [.int v1, .int v4]) (L0 := [some (.ref 19), some (.int v1), some (.int v4)]) okX7_triple ovX7_triple mlX7_105 clX7 so19 rfl rfl (Nat.le_of_ble_eq_true rfl) dX7_saysLine_56 rfl (Nat.le_of_ble_eq_true rfl) (jX7_triple (X := X) (d + 4) s v1 v4 hy12) ?_
    refine J_istore (pc := 59) (L' := [some (.ref 19), some (.int v1), some (.int v2), none, some (.int v4), some (.int y12), none]) dX7_saysLine_59 rfl (Nat.le_of_ble_eq_true rfl) rfl ?_
    refine J_iload (pc := 61) dX7_saysLine_61 rfl ?_
    refine J_if_ge (pc := 63) 69 dX7_saysLine_63 (by decide) (fun c24 => ?_) (fun c24 => ?_)
    · replace hh := (if_pos c24).symm.trans hh
      refine J_aload_n (pc := 69) dX7_saysLine_69 rfl ?_
      refine J_iload_n (pc := 70) dX7_saysLine_70 rfl ?_
      refine J_bipush (pc := 71) dX7_saysLine_71 cb_32 ?_
      obtain ⟨y13, hy13, hh⟩ := bd_some hh
      refine J_callV0 (pc := 73) (M' := MX7_says) (a := 19) (rest := []) (As := [.int v2, .int (32 : Int32)]) (L0 := [some (.ref 19), some (.int v2), some (.int (32 : Int32))]) okX7_says ovX7_says mlX7_420 clX7 so19 rfl rfl (Nat.le_of_ble_eq_true rfl) dX7_saysLine_73 rfl (Nat.le_of_ble_eq_true rfl) (jX7_says (X := X) (d + 4) s v2 (32 : Int32) hy13) ?_
      refine J_aload_n (pc := 76) dX7_saysLine_76 rfl ?_
      refine J_iload_n (pc := 77) dX7_saysLine_77 rfl ?_
      refine J_bipush (pc := 78) dX7_saysLine_78 cb_97 ?_
      refine J_iload (pc := 80) dX7_saysLine_80 rfl ?_
      refine J_iadd (pc := 82) dX7_saysLine_82 ?_
      obtain ⟨y14, hy14, hh⟩ := bd_some hh
      refine J_callV0 (pc := 83) (M' := MX7_says) (a := 19) (rest := []) (As := [.int v2, .int ((97 : Int32) + v4)]) (L0 := [some (.ref 19), some (.int v2), some (.int ((97 : Int32) + v4))]) okX7_says ovX7_says mlX7_420 clX7 so19 rfl rfl (Nat.le_of_ble_eq_true rfl) dX7_saysLine_83 rfl (Nat.le_of_ble_eq_true rfl) (jX7_says (X := X) (d + 4) y13 v2 ((97 : Int32) + v4) hy14) ?_
      refine J_iconst (pc := 86) dX7_saysLine_86 ci_0 ?_
      refine J_istore (pc := 87) (L' := [some (.ref 19), some (.int v1), some (.int v2), none, some (.int v4), some (.int y12), some (.int (0 : Int32))]) dX7_saysLine_87 rfl (Nat.le_of_ble_eq_true rfl) rfl ?_
      obtain ⟨y21, hy21, hh⟩ := bd_some hh
      refine J_lp (a := ((0 : Int32), y14)) (fun a : (Int32 × Mem) => J X MX7_saysLine (d + 5) 89 [some (.ref 19), some (.int v1), some (.int v2), none, some (.int v4), some (.int y12), some (.int a.1)] [] a.2 w s') (fun t : Mem => J X MX7_saysLine (d + 5) 134 [some (.ref 19), some (.int v1), some (.int v2), none, some (.int v4), none, none] [] t w s') (fun a q h1 h2 => jbX7_saysLine_89 d a.2 v1 v2 v4 y12 a.1 h1 h2) hy21 ?_
      refine J_iincL (pc := 134) (v := v4 + (1 : Int32)) (fun x22 => [some (.ref 19), some (.int v1), some (.int v2), none, some (.int x22), none, none]) dX7_saysLine_134 rfl rfl (Nat.le_of_ble_eq_true rfl) (congrArg _ ci_1) (fun _ => rfl) hh (fun x22 hh => ?_)
      refine J_goto (pc := 137) 46 dX7_saysLine_137 (by decide) ?_
      obtain rfl := Option.some.inj hh
      exact hk
    · replace hh := (if_neg c24).symm.trans hh
      refine J_goto (pc := 66) 134 dX7_saysLine_66 (by decide) ?_
      refine J_iincL (pc := 134) (v := v4 + (1 : Int32)) (fun x23 => [some (.ref 19), some (.int v1), some (.int v2), none, some (.int x23), some (.int y12), none]) dX7_saysLine_134 rfl rfl (Nat.le_of_ble_eq_true rfl) (congrArg _ ci_1) (fun _ => rfl) hh (fun x23 hh => ?_)
      refine J_goto (pc := 137) 46 dX7_saysLine_137 (by decide) ?_
      refine J_drop 5 (L' := [some (.ref 19), some (.int v1), some (.int v2), none, some (.int x23), none, none]) rfl ?_
      obtain rfl := Option.some.inj hh
      exact hk
def fX7_saysLine (s : Mem) (p0 : Int32) (p1 : Int32) : Option Mem :=
  lt (up2 s 19 23 (0 : Int32)) (fun s1 => (fX7_kindOf s1 p0).bind (fun y2 => (fX7_kindWord y2).bind (fun y3 => (lp (fun a => bX7_saysLine_17 a.2 p0 p1 y3 a.1) 600 ((0 : Int32), s1)).bind (fun y11 => (lp (fun a => bX7_saysLine_46 a.2 p0 p1 a.1) 600 ((0 : Int32), y11)).bind (fun y26 => some y26)))))
set_option maxRecDepth 4000 in
theorem jjX7_saysLine {X : Scr} (d : Nat) (s : Mem) (p0 : Int32) (p1 : Int32) {r : Mem} {w : Option Value} {s' : Mem} (hh : fX7_saysLine s p0 p1 = some r) (hk : w = none ∧ r = s') : J X MX7_saysLine (d + 5) 0 [some (.ref 19), some (.int p0), some (.int p1), none, none, none, none] [] s w s' := by
  unfold fX7_saysLine at hh
  refine J_aload_n (pc := 0) dX7_saysLine_0 rfl ?_
  refine J_iconst (pc := 1) dX7_saysLine_1 ci_0 ?_
  refine J_putIL (pc := 2) (k := 23) fpX7_414 so19 fk19_23 rfl rfl dX7_saysLine_2 hh (fun s1 hh => ?_)
  refine J_aload_n (pc := 5) dX7_saysLine_5 rfl ?_
  refine J_iload_n (pc := 6) dX7_saysLine_6 rfl ?_
  obtain ⟨y2, hy2, hh⟩ := bd_some hh
  refine J_callVi (pc := 7) (M' := MX7_kindOf) (a := 19) (rest := []) (As := [.int p0]) (L0 := [some (.ref 19), some (.int p0)]) okX7_kindOf ovX7_kindOf mlX7_118 clX7 so19 rfl rfl (Nat.le_of_ble_eq_true rfl) dX7_saysLine_7 rfl (Nat.le_of_ble_eq_true rfl) (jX7_kindOf (X := X) (d + 4) s1 p0 hy2) ?_
  obtain ⟨y3, hy3, hh⟩ := bd_some hh
  refine J_callSi (pc := 10) (M' := MX7_kindWord) (rest := []) (As := [.int y2]) (L0 := [some (.int y2)]) okX7_kindWord osX7_kindWord mlX7_390 rfl rfl (Nat.le_of_ble_eq_true rfl) dX7_saysLine_10 rfl (Nat.le_of_ble_eq_true rfl) (jX7_kindWord (X := X) (d + 4) s1 y2 hy3) ?_
  refine J_astore_n (pc := 13) (L' := [some (.ref 19), some (.int p0), some (.int p1), some (.ref (1000 + y3)), none, none, none]) dX7_saysLine_13 rfl (Nat.le_of_ble_eq_true rfl) rfl ?_
  refine J_iconst (pc := 14) dX7_saysLine_14 ci_0 ?_
  refine J_istore (pc := 15) (L' := [some (.ref 19), some (.int p0), some (.int p1), some (.ref (1000 + y3)), some (.int (0 : Int32)), none, none]) dX7_saysLine_15 rfl (Nat.le_of_ble_eq_true rfl) rfl ?_
  obtain ⟨y11, hy11, hh⟩ := bd_some hh
  refine J_lp (a := ((0 : Int32), s1)) (fun a : (Int32 × Mem) => J X MX7_saysLine (d + 5) 17 [some (.ref 19), some (.int p0), some (.int p1), some (.ref (1000 + y3)), some (.int a.1), none, none] [] a.2 w s') (fun t : Mem => J X MX7_saysLine (d + 5) 43 [some (.ref 19), some (.int p0), some (.int p1), none, none, none, none] [] t w s') (fun a q h1 h2 => jbX7_saysLine_17 d a.2 p0 p1 y3 a.1 h1 h2) hy11 ?_
  refine J_iconst (pc := 43) dX7_saysLine_43 ci_0 ?_
  refine J_istore (pc := 44) (L' := [some (.ref 19), some (.int p0), some (.int p1), none, some (.int (0 : Int32)), none, none]) dX7_saysLine_44 rfl (Nat.le_of_ble_eq_true rfl) rfl ?_
  obtain ⟨y26, hy26, hh⟩ := bd_some hh
  refine J_lp (a := ((0 : Int32), y11)) (fun a : (Int32 × Mem) => J X MX7_saysLine (d + 5) 46 [some (.ref 19), some (.int p0), some (.int p1), none, some (.int a.1), none, none] [] a.2 w s') (fun t : Mem => J X MX7_saysLine (d + 5) 140 [none, none, none, none, none, none, none] [] t w s') (fun a q h1 h2 => jbX7_saysLine_46 d a.2 p0 p1 a.1 h1 h2) hy26 ?_
  obtain rfl := Option.some.inj hh
  obtain ⟨rfl, rfl⟩ := hk
  exact J_ret (w := none) ⟨dX7_saysLine_140, rfl⟩
theorem jX7_saysLine {X : Scr} (d : Nat) (s : Mem) (p0 : Int32) (p1 : Int32) {r : Mem} (hh : fX7_saysLine s p0 p1 = some r) : J X MX7_saysLine (d + 5) 0 [some (.ref 19), some (.int p0), some (.int p1), none, none, none, none] [] s (none) r := jjX7_saysLine d s p0 p1 hh ⟨rfl, rfl⟩
theorem dX7_line_0 : decode cX7_line 0 = .ok (.aload_n 0, 1) := by decide +kernel
theorem dX7_line_1 : decode cX7_line 1 = .ok (.iload_n 1, 1) := by decide +kernel
theorem dX7_line_2 : decode cX7_line 2 = .ok (.invokevirtual 196, 3) := by decide +kernel
theorem dX7_line_5 : decode cX7_line 5 = .ok (.ifCond .ne 9, 3) := by decide +kernel
theorem dX7_line_8 : decode cX7_line 8 = .ok (.aload_n 0, 1) := by decide +kernel
theorem dX7_line_9 : decode cX7_line 9 = .ok (.iconst 0, 1) := by decide +kernel
theorem dX7_line_10 : decode cX7_line 10 = .ok (.invokevirtual 158, 3) := by decide +kernel
theorem dX7_line_13 : decode cX7_line 13 = .ok (.ireturn, 1) := by decide +kernel
theorem dX7_line_14 : decode cX7_line 14 = .ok (.aload_n 0, 1) := by decide +kernel
theorem dX7_line_15 : decode cX7_line 15 = .ok (.iload_n 1, 1) := by decide +kernel
theorem dX7_line_16 : decode cX7_line 16 = .ok (.iload_n 2, 1) := by decide +kernel
theorem dX7_line_17 : decode cX7_line 17 = .ok (.invokevirtual 423, 3) := by decide +kernel
theorem dX7_line_20 : decode cX7_line 20 = .ok (.iload_n 2, 1) := by decide +kernel
theorem dX7_line_21 : decode cX7_line 21 = .ok (.iconst (-1), 1) := by decide +kernel
theorem dX7_line_22 : decode cX7_line 22 = .ok (.if_icmp .ne 8, 3) := by decide +kernel
theorem dX7_line_25 : decode cX7_line 25 = .ok (.aload_n 0, 1) := by decide +kernel
theorem dX7_line_26 : decode cX7_line 26 = .ok (.getfield 414, 3) := by decide +kernel
theorem dX7_line_29 : decode cX7_line 29 = .ok (.ireturn, 1) := by decide +kernel
theorem dX7_line_30 : decode cX7_line 30 = .ok (.iload_n 2, 1) := by decide +kernel
theorem dX7_line_31 : decode cX7_line 31 = .ok (.i2l, 1) := by decide +kernel
theorem dX7_line_32 : decode cX7_line 32 = .ok (.lconst 0, 1) := by decide +kernel
theorem dX7_line_33 : decode cX7_line 33 = .ok (.aload_n 0, 1) := by decide +kernel
theorem dX7_line_34 : decode cX7_line 34 = .ok (.getfield 414, 3) := by decide +kernel
theorem dX7_line_37 : decode cX7_line 37 = .ok (.iconst 1, 1) := by decide +kernel
theorem dX7_line_38 : decode cX7_line 38 = .ok (.isub, 1) := by decide +kernel
theorem dX7_line_39 : decode cX7_line 39 = .ok (.i2l, 1) := by decide +kernel
theorem dX7_line_40 : decode cX7_line 40 = .ok (.invokestatic 63, 3) := by decide +kernel
theorem dX7_line_43 : decode cX7_line 43 = .ok (.ifCond .eq 10, 3) := by decide +kernel
theorem dX7_line_46 : decode cX7_line 46 = .ok (.aload_n 0, 1) := by decide +kernel
theorem dX7_line_47 : decode cX7_line 47 = .ok (.getfield 417, 3) := by decide +kernel
theorem dX7_line_50 : decode cX7_line 50 = .ok (.goto 8, 3) := by decide +kernel
theorem dX7_line_53 : decode cX7_line 53 = .ok (.aload_n 0, 1) := by decide +kernel
theorem dX7_line_54 : decode cX7_line 54 = .ok (.iconst 3, 1) := by decide +kernel
theorem dX7_line_55 : decode cX7_line 55 = .ok (.invokevirtual 158, 3) := by decide +kernel
theorem dX7_line_58 : decode cX7_line 58 = .ok (.ireturn, 1) := by decide +kernel
def fX7_line (s : Mem) (p0 : Int32) (p1 : Int32) : Option (Int32 × Mem) :=
  (fX7_isPupil s p0).bind (fun y1 => if y1 = (0 : Int32) then (fX7_finds s (0 : Int32)).bind (fun y7 => some ((y7.1, y7.2))) else (fX7_saysLine s p0 p1).bind (fun y2 => if p1 = (-1 : Int32) then some ((y2.1 19 23, y2)) else (fX7_in (p1.toInt64) (0 : Int64) (((y2.1 19 23) - (1 : Int32)).toInt64)).bind (fun y3 => if y3 = (0 : Int32) then (fX7_finds y2 (3 : Int32)).bind (fun y4 => some ((y4.1, y4.2))) else some ((y2.1 19 24, y2)))))
set_option maxRecDepth 4000 in
theorem jjX7_line {X : Scr} (d : Nat) (s : Mem) (p0 : Int32) (p1 : Int32) {r : (Int32 × Mem)} {w : Option Value} {s' : Mem} (hh : fX7_line s p0 p1 = some r) (hk : w = some (.int r.1) ∧ r.2 = s') : J X MX7_line (d + 6) 0 [some (.ref 19), some (.int p0), some (.int p1)] [] s w s' := by
  unfold fX7_line at hh
  refine J_aload_n (pc := 0) dX7_line_0 rfl ?_
  refine J_iload_n (pc := 1) dX7_line_1 rfl ?_
  obtain ⟨y1, hy1, hh⟩ := bd_some hh
  refine J_callVi (pc := 2) (M' := MX7_isPupil) (a := 19) (rest := []) (As := [.int p0]) (L0 := [some (.ref 19), some (.int p0)]) okX7_isPupil ovX7_isPupil mlX7_196 clX7 so19 rfl rfl (Nat.le_of_ble_eq_true rfl) dX7_line_2 rfl (Nat.le_of_ble_eq_true rfl) (jX7_isPupil (X := X) (d + 4) s p0 hy1) ?_
  refine J_if_ne (pc := 5) 14 dX7_line_5 (by decide) (fun c8 => ?_) (fun c8 => ?_)
  · replace hh := (if_neg c8).symm.trans hh
    refine J_aload_n (pc := 14) dX7_line_14 rfl ?_
    refine J_iload_n (pc := 15) dX7_line_15 rfl ?_
    refine J_iload_n (pc := 16) dX7_line_16 rfl ?_
    obtain ⟨y2, hy2, hh⟩ := bd_some hh
    refine J_callV0 (pc := 17) (M' := MX7_saysLine) (a := 19) (rest := []) (As := [.int p0, .int p1]) (L0 := [some (.ref 19), some (.int p0), some (.int p1), none, none, none, none]) okX7_saysLine ovX7_saysLine mlX7_423 clX7 so19 rfl rfl (Nat.le_of_ble_eq_true rfl) dX7_line_17 rfl (Nat.le_of_ble_eq_true rfl) (jX7_saysLine (X := X) d s p0 p1 hy2) ?_
    refine J_iload_n (pc := 20) dX7_line_20 rfl ?_
    refine J_iconst (pc := 21) dX7_line_21 ci_m1 ?_
    refine J_icmp_ne (pc := 22) 30 dX7_line_22 (by decide) (fun c6 => ?_) (fun c6 => ?_)
    · replace hh := (if_neg c6).symm.trans hh
      refine J_iload_n (pc := 30) dX7_line_30 rfl ?_
      refine J_i2l (pc := 31) dX7_line_31 ?_
      refine J_lconst (pc := 32) (v := 0) dX7_line_32 rfl ?_
      refine J_aload_n (pc := 33) dX7_line_33 rfl ?_
      refine J_getI (pc := 34) (k := 23) flX7_414 so19 fk19_23 dX7_line_34 ?_
      refine J_iconst (pc := 37) dX7_line_37 ci_1 ?_
      refine J_isub (pc := 38) dX7_line_38 ?_
      refine J_i2l (pc := 39) dX7_line_39 ?_
      obtain ⟨y3, hy3, hh⟩ := bd_some hh
      refine J_callSi (pc := 40) (M' := MX7_in) (rest := []) (As := [.long (p1.toInt64), .long (0 : Int64), .long (((y2.1 19 23) - (1 : Int32)).toInt64)]) (L0 := [some (.long (p1.toInt64)), none, some (.long (0 : Int64)), none, some (.long (((y2.1 19 23) - (1 : Int32)).toInt64)), none]) okX7_in osX7_in mlX7_63 rfl rfl (Nat.le_of_ble_eq_true rfl) dX7_line_40 rfl (Nat.le_of_ble_eq_true rfl) (jX7_in (X := X) (d + 5) y2 (p1.toInt64) (0 : Int64) (((y2.1 19 23) - (1 : Int32)).toInt64) hy3) ?_
      refine J_if_eq (pc := 43) 53 dX7_line_43 (by decide) (fun c5 => ?_) (fun c5 => ?_)
      · replace hh := (if_pos c5).symm.trans hh
        refine J_aload_n (pc := 53) dX7_line_53 rfl ?_
        refine J_iconst (pc := 54) dX7_line_54 ci_3 ?_
        obtain ⟨y4, hy4, hh⟩ := bd_some hh
        refine J_callVi (pc := 55) (M' := MX7_finds) (a := 19) (rest := []) (As := [.int (3 : Int32)]) (L0 := [some (.ref 19), some (.int (3 : Int32))]) okX7_finds ovX7_finds mlX7_158 clX7 so19 rfl rfl (Nat.le_of_ble_eq_true rfl) dX7_line_55 rfl (Nat.le_of_ble_eq_true rfl) (jX7_finds (X := X) (d + 5) y2 (3 : Int32) hy4) ?_
        obtain rfl := Option.some.inj hh
        obtain ⟨rfl, rfl⟩ := hk
        exact J_ret (w := some (.int y4.1)) ⟨dX7_line_58, _, rfl, rfl⟩
      · replace hh := (if_neg c5).symm.trans hh
        refine J_aload_n (pc := 46) dX7_line_46 rfl ?_
        refine J_getI (pc := 47) (k := 24) flX7_417 so19 fk19_24 dX7_line_47 ?_
        refine J_goto (pc := 50) 58 dX7_line_50 (by decide) ?_
        obtain rfl := Option.some.inj hh
        obtain ⟨rfl, rfl⟩ := hk
        exact J_ret (w := some (.int (y2.1 19 24))) ⟨dX7_line_58, _, rfl, rfl⟩
    · replace hh := (if_pos c6).symm.trans hh
      refine J_aload_n (pc := 25) dX7_line_25 rfl ?_
      refine J_getI (pc := 26) (k := 23) flX7_414 so19 fk19_23 dX7_line_26 ?_
      obtain rfl := Option.some.inj hh
      obtain ⟨rfl, rfl⟩ := hk
      exact J_ret (w := some (.int (y2.1 19 23))) ⟨dX7_line_29, _, rfl, rfl⟩
  · replace hh := (if_pos c8).symm.trans hh
    refine J_aload_n (pc := 8) dX7_line_8 rfl ?_
    refine J_iconst (pc := 9) dX7_line_9 ci_0 ?_
    obtain ⟨y7, hy7, hh⟩ := bd_some hh
    refine J_callVi (pc := 10) (M' := MX7_finds) (a := 19) (rest := []) (As := [.int (0 : Int32)]) (L0 := [some (.ref 19), some (.int (0 : Int32))]) okX7_finds ovX7_finds mlX7_158 clX7 so19 rfl rfl (Nat.le_of_ble_eq_true rfl) dX7_line_10 rfl (Nat.le_of_ble_eq_true rfl) (jX7_finds (X := X) (d + 5) s (0 : Int32) hy7) ?_
    obtain rfl := Option.some.inj hh
    obtain ⟨rfl, rfl⟩ := hk
    exact J_ret (w := some (.int y7.1)) ⟨dX7_line_13, _, rfl, rfl⟩
theorem jX7_line {X : Scr} (d : Nat) (s : Mem) (p0 : Int32) (p1 : Int32) {r : (Int32 × Mem)} (hh : fX7_line s p0 p1 = some r) : J X MX7_line (d + 6) 0 [some (.ref 19), some (.int p0), some (.int p1)] [] s (some (.int r.1)) r.2 := jjX7_line d s p0 p1 hh ⟨rfl, rfl⟩
theorem dX7_cut_0 : decode cX7_cut 0 = .ok (.iload_n 0, 1) := by decide +kernel
theorem dX7_cut_1 : decode cX7_cut 1 = .ok (.ifCond .ne 10, 3) := by decide +kernel
theorem dX7_cut_4 : decode cX7_cut 4 = .ok (.lload_n 1, 1) := by decide +kernel
theorem dX7_cut_5 : decode cX7_cut 5 = .ok (.l2i, 1) := by decide +kernel
theorem dX7_cut_6 : decode cX7_cut 6 = .ok (.i2b, 1) := by decide +kernel
theorem dX7_cut_7 : decode cX7_cut 7 = .ok (.i2l, 1) := by decide +kernel
theorem dX7_cut_8 : decode cX7_cut 8 = .ok (.goto 15, 3) := by decide +kernel
theorem dX7_cut_11 : decode cX7_cut 11 = .ok (.iload_n 0, 1) := by decide +kernel
theorem dX7_cut_12 : decode cX7_cut 12 = .ok (.iconst 1, 1) := by decide +kernel
theorem dX7_cut_13 : decode cX7_cut 13 = .ok (.if_icmp .ne 9, 3) := by decide +kernel
theorem dX7_cut_16 : decode cX7_cut 16 = .ok (.lload_n 1, 1) := by decide +kernel
theorem dX7_cut_17 : decode cX7_cut 17 = .ok (.l2i, 1) := by decide +kernel
theorem dX7_cut_18 : decode cX7_cut 18 = .ok (.i2l, 1) := by decide +kernel
theorem dX7_cut_19 : decode cX7_cut 19 = .ok (.goto 4, 3) := by decide +kernel
theorem dX7_cut_22 : decode cX7_cut 22 = .ok (.lload_n 1, 1) := by decide +kernel
theorem dX7_cut_23 : decode cX7_cut 23 = .ok (.lreturn, 1) := by decide +kernel
def fX7_cut (p0 : Int32) (p1 : Int64) : Option Int64 :=
  if p0 = (0 : Int32) then some ((((p1.toInt32).toInt8.toInt32).toInt64)) else if p0 = (1 : Int32) then some (((p1.toInt32).toInt64)) else some p1
set_option maxRecDepth 4000 in
theorem jjX7_cut {X : Scr} (d : Nat) {s : Mem} (p0 : Int32) (p1 : Int64) {r : Int64} {w : Option Value} {s' : Mem} (hh : fX7_cut p0 p1 = some r) (hk : w = some (.long r) ∧ s = s') : J X MX7_cut (d + 0) 0 [some (.int p0), some (.long p1), none] [] s w s' := by
  unfold fX7_cut at hh
  refine J_iload_n (pc := 0) dX7_cut_0 rfl ?_
  refine J_if_ne (pc := 1) 11 dX7_cut_1 (by decide) (fun c2 => ?_) (fun c2 => ?_)
  · replace hh := (if_neg c2).symm.trans hh
    refine J_iload_n (pc := 11) dX7_cut_11 rfl ?_
    refine J_iconst (pc := 12) dX7_cut_12 ci_1 ?_
    refine J_icmp_ne (pc := 13) 22 dX7_cut_13 (by decide) (fun c1 => ?_) (fun c1 => ?_)
    · replace hh := (if_neg c1).symm.trans hh
      refine J_lload_n (pc := 22) dX7_cut_22 rfl ?_
      obtain rfl := Option.some.inj hh
      obtain ⟨rfl, rfl⟩ := hk
      exact J_ret (w := some (.long p1)) ⟨dX7_cut_23, rfl⟩
    · replace hh := (if_pos c1).symm.trans hh
      refine J_lload_n (pc := 16) dX7_cut_16 rfl ?_
      refine J_l2i (pc := 17) dX7_cut_17 ?_
      refine J_i2l (pc := 18) dX7_cut_18 ?_
      refine J_goto (pc := 19) 23 dX7_cut_19 (by decide) ?_
      obtain rfl := Option.some.inj hh
      obtain ⟨rfl, rfl⟩ := hk
      exact J_ret (w := some (.long ((p1.toInt32).toInt64))) ⟨dX7_cut_23, rfl⟩
  · replace hh := (if_pos c2).symm.trans hh
    refine J_lload_n (pc := 4) dX7_cut_4 rfl ?_
    refine J_l2i (pc := 5) dX7_cut_5 ?_
    refine J_i2b (pc := 6) dX7_cut_6 ?_
    refine J_i2l (pc := 7) dX7_cut_7 ?_
    refine J_goto (pc := 8) 23 dX7_cut_8 (by decide) ?_
    obtain rfl := Option.some.inj hh
    obtain ⟨rfl, rfl⟩ := hk
    exact J_ret (w := some (.long (((p1.toInt32).toInt8.toInt32).toInt64))) ⟨dX7_cut_23, rfl⟩
theorem jX7_cut {X : Scr} (d : Nat) (s : Mem) (p0 : Int32) (p1 : Int64) {r : Int64} (hh : fX7_cut p0 p1 = some r) : J X MX7_cut (d + 0) 0 [some (.int p0), some (.long p1), none] [] s (some (.long r)) s := jjX7_cut d p0 p1 hh ⟨rfl, rfl⟩
theorem dX7_sheet_0 : decode cX7_sheet 0 = .ok (.iload_n 1, 1) := by decide +kernel
theorem dX7_sheet_1 : decode cX7_sheet 1 = .ok (.invokestatic 297, 3) := by decide +kernel
theorem dX7_sheet_4 : decode cX7_sheet 4 = .ok (.ifCond .eq 17, 3) := by decide +kernel
theorem dX7_sheet_7 : decode cX7_sheet 7 = .ok (.iload_n 2, 1) := by decide +kernel
theorem dX7_sheet_8 : decode cX7_sheet 8 = .ok (.i2l, 1) := by decide +kernel
theorem dX7_sheet_9 : decode cX7_sheet 9 = .ok (.ldc2_w 156, 3) := by decide +kernel
theorem dX7_sheet_12 : decode cX7_sheet 12 = .ok (.ldc2_w 143, 3) := by decide +kernel
theorem dX7_sheet_15 : decode cX7_sheet 15 = .ok (.invokestatic 63, 3) := by decide +kernel
theorem dX7_sheet_18 : decode cX7_sheet 18 = .ok (.ifCond .ne 9, 3) := by decide +kernel
theorem dX7_sheet_21 : decode cX7_sheet 21 = .ok (.aload_n 0, 1) := by decide +kernel
theorem dX7_sheet_22 : decode cX7_sheet 22 = .ok (.iconst 0, 1) := by decide +kernel
theorem dX7_sheet_23 : decode cX7_sheet 23 = .ok (.invokevirtual 158, 3) := by decide +kernel
theorem dX7_sheet_26 : decode cX7_sheet 26 = .ok (.ireturn, 1) := by decide +kernel
theorem dX7_sheet_27 : decode cX7_sheet 27 = .ok (.iload_n 2, 1) := by decide +kernel
theorem dX7_sheet_28 : decode cX7_sheet 28 = .ok (.ifCond .lt 14, 3) := by decide +kernel
theorem dX7_sheet_31 : decode cX7_sheet 31 = .ok (.iload_n 3, 1) := by decide +kernel
theorem dX7_sheet_32 : decode cX7_sheet 32 = .ok (.ifCond .ge 10, 3) := by decide +kernel
theorem dX7_sheet_35 : decode cX7_sheet 35 = .ok (.aload_n 0, 1) := by decide +kernel
theorem dX7_sheet_36 : decode cX7_sheet 36 = .ok (.bipush 6, 2) := by decide +kernel
theorem dX7_sheet_38 : decode cX7_sheet 38 = .ok (.invokevirtual 158, 3) := by decide +kernel
theorem dX7_sheet_41 : decode cX7_sheet 41 = .ok (.ireturn, 1) := by decide +kernel
theorem dX7_sheet_42 : decode cX7_sheet 42 = .ok (.iload_n 2, 1) := by decide +kernel
theorem dX7_sheet_43 : decode cX7_sheet 43 = .ok (.ifCond .lt 15, 3) := by decide +kernel
theorem dX7_sheet_46 : decode cX7_sheet 46 = .ok (.iload_n 3, 1) := by decide +kernel
theorem dX7_sheet_47 : decode cX7_sheet 47 = .ok (.bipush 40, 2) := by decide +kernel
theorem dX7_sheet_49 : decode cX7_sheet 49 = .ok (.if_icmp .le 9, 3) := by decide +kernel
theorem dX7_sheet_52 : decode cX7_sheet 52 = .ok (.aload_n 0, 1) := by decide +kernel
theorem dX7_sheet_53 : decode cX7_sheet 53 = .ok (.iconst 0, 1) := by decide +kernel
theorem dX7_sheet_54 : decode cX7_sheet 54 = .ok (.invokevirtual 158, 3) := by decide +kernel
theorem dX7_sheet_57 : decode cX7_sheet 57 = .ok (.ireturn, 1) := by decide +kernel
theorem dX7_sheet_58 : decode cX7_sheet 58 = .ok (.aload_n 0, 1) := by decide +kernel
theorem dX7_sheet_59 : decode cX7_sheet 59 = .ok (.getfield 43, 3) := by decide +kernel
theorem dX7_sheet_62 : decode cX7_sheet 62 = .ok (.iload_n 1, 1) := by decide +kernel
theorem dX7_sheet_63 : decode cX7_sheet 63 = .ok (.iload_n 2, 1) := by decide +kernel
theorem dX7_sheet_64 : decode cX7_sheet 64 = .ok (.iastore, 1) := by decide +kernel
theorem dX7_sheet_65 : decode cX7_sheet 65 = .ok (.aload_n 0, 1) := by decide +kernel
theorem dX7_sheet_66 : decode cX7_sheet 66 = .ok (.getfield 46, 3) := by decide +kernel
theorem dX7_sheet_69 : decode cX7_sheet 69 = .ok (.iload_n 1, 1) := by decide +kernel
theorem dX7_sheet_70 : decode cX7_sheet 70 = .ok (.iload_n 2, 1) := by decide +kernel
theorem dX7_sheet_71 : decode cX7_sheet 71 = .ok (.ifCond .ge 7, 3) := by decide +kernel
theorem dX7_sheet_74 : decode cX7_sheet 74 = .ok (.iconst 0, 1) := by decide +kernel
theorem dX7_sheet_75 : decode cX7_sheet 75 = .ok (.goto 4, 3) := by decide +kernel
theorem dX7_sheet_78 : decode cX7_sheet 78 = .ok (.iload_n 3, 1) := by decide +kernel
theorem dX7_sheet_79 : decode cX7_sheet 79 = .ok (.iastore, 1) := by decide +kernel
theorem dX7_sheet_80 : decode cX7_sheet 80 = .ok (.iconst 0, 1) := by decide +kernel
theorem dX7_sheet_81 : decode cX7_sheet 81 = .ok (.istore 4, 2) := by decide +kernel
theorem dX7_sheet_83 : decode cX7_sheet 83 = .ok (.iload 4, 2) := by decide +kernel
theorem dX7_sheet_85 : decode cX7_sheet 85 = .ok (.bipush 40, 2) := by decide +kernel
theorem dX7_sheet_87 : decode cX7_sheet 87 = .ok (.if_icmp .ge 19, 3) := by decide +kernel
theorem dX7_sheet_90 : decode cX7_sheet 90 = .ok (.aload_n 0, 1) := by decide +kernel
theorem dX7_sheet_91 : decode cX7_sheet 91 = .ok (.getfield 51, 3) := by decide +kernel
theorem dX7_sheet_94 : decode cX7_sheet 94 = .ok (.iload_n 1, 1) := by decide +kernel
theorem dX7_sheet_95 : decode cX7_sheet 95 = .ok (.aaload, 1) := by decide +kernel
theorem dX7_sheet_96 : decode cX7_sheet 96 = .ok (.iload 4, 2) := by decide +kernel
theorem dX7_sheet_98 : decode cX7_sheet 98 = .ok (.lconst 0, 1) := by decide +kernel
theorem dX7_sheet_99 : decode cX7_sheet 99 = .ok (.lastore, 1) := by decide +kernel
theorem dX7_sheet_100 : decode cX7_sheet 100 = .ok (.iinc 4 1, 3) := by decide +kernel
theorem dX7_sheet_103 : decode cX7_sheet 103 = .ok (.goto (-20), 3) := by decide +kernel
theorem dX7_sheet_106 : decode cX7_sheet 106 = .ok (.aload_n 0, 1) := by decide +kernel
theorem dX7_sheet_107 : decode cX7_sheet 107 = .ok (.getfield 46, 3) := by decide +kernel
theorem dX7_sheet_110 : decode cX7_sheet 110 = .ok (.iload_n 1, 1) := by decide +kernel
theorem dX7_sheet_111 : decode cX7_sheet 111 = .ok (.iaload, 1) := by decide +kernel
theorem dX7_sheet_112 : decode cX7_sheet 112 = .ok (.ireturn, 1) := by decide +kernel
def gX7_sheet_21 (s : Mem)  : Option (Int32 × Mem) :=
  (fX7_finds s (0 : Int32)).bind (fun y2 => some ((y2.1, y2.2)))
set_option maxRecDepth 4000 in
theorem jgX7_sheet_21 {X : Scr} (d : Nat) (s : Mem)  {r : (Int32 × Mem)} {w : Option Value} {s' : Mem} (hh : gX7_sheet_21 s = some r) (hk : w = some (.int r.1) ∧ r.2 = s') : J X MX7_sheet (d + 2) 21 [some (.ref 19), none, none, none, none] [] s w s' := by
  unfold gX7_sheet_21 at hh
  refine J_aload_n (pc := 21) dX7_sheet_21 rfl ?_
  refine J_iconst (pc := 22) dX7_sheet_22 ci_0 ?_
  obtain ⟨y2, hy2, hh⟩ := bd_some hh
  refine J_callVi (pc := 23) (M' := MX7_finds) (a := 19) (rest := []) (As := [.int (0 : Int32)]) (L0 := [some (.ref 19), some (.int (0 : Int32))]) okX7_finds ovX7_finds mlX7_158 clX7 so19 rfl rfl (Nat.le_of_ble_eq_true rfl) dX7_sheet_23 rfl (Nat.le_of_ble_eq_true rfl) (jX7_finds (X := X) (d + 1) s (0 : Int32) hy2) ?_
  obtain rfl := Option.some.inj hh
  obtain ⟨rfl, rfl⟩ := hk
  exact J_ret (w := some (.int y2.1)) ⟨dX7_sheet_26, _, rfl, rfl⟩
def bX7_sheet_83 (s : Mem) (v1 : Int32) (v4 : Int32) : Option (Mem ⊕ (Int32 × Mem)) :=
  if (40 : Int32) ≤ v4 then some (Sum.inl s) else gd v1 4 (gd v4 40 (lt (upL s (33 + v1.toNatClampNeg) v4.toNatClampNeg (0 : Int64)) (fun s10 => lt (v4 + (1 : Int32)) (fun x11 => some (Sum.inr (x11, s10))))))
set_option maxRecDepth 4000 in
theorem jbX7_sheet_83 {X : Scr} (d : Nat) (s : Mem) (v1 : Int32) (v4 : Int32) {r : (Mem ⊕ (Int32 × Mem))} {w : Option Value} {s' : Mem} (hh : bX7_sheet_83 s v1 v4 = some r) (hk : Sum.elim (fun t : Mem => J X MX7_sheet (d + 2) 106 [some (.ref 19), some (.int v1), none, none, none] [] t w s') (fun a : (Int32 × Mem) => J X MX7_sheet (d + 2) 83 [some (.ref 19), some (.int v1), none, none, some (.int a.1)] [] a.2 w s') r) : J X MX7_sheet (d + 2) 83 [some (.ref 19), some (.int v1), none, none, some (.int v4)] [] s w s' := by
  unfold bX7_sheet_83 at hh
  refine J_iload (pc := 83) dX7_sheet_83 rfl ?_
  refine J_bipush (pc := 85) dX7_sheet_85 cb_40 ?_
  refine J_icmp_ge (pc := 87) 106 dX7_sheet_87 (by decide) (fun c12 => ?_) (fun c12 => ?_)
  · replace hh := (if_pos c12).symm.trans hh
    refine J_drop 4 (L' := [some (.ref 19), some (.int v1), none, none, none]) rfl ?_
    obtain rfl := Option.some.inj hh
    exact hk
  · replace hh := (if_neg c12).symm.trans hh
    refine J_aload_n (pc := 90) dX7_sheet_90 rfl ?_
    refine J_getR (pc := 91) (k := 27) flX7_51 so19 fk19_27 dX7_sheet_91 ?_
    refine J_iload_n (pc := 94) dX7_sheet_94 rfl ?_
    obtain ⟨h8, hh⟩ := gd_some hh
    refine J_aald (pc := 95) dX7_sheet_95 (Or.inr rfl) sa31 h8 ?_
    refine J_iload (pc := 96) dX7_sheet_96 rfl ?_
    refine J_lconst (pc := 98) (v := 0) dX7_sheet_98 rfl ?_
    obtain ⟨h9, hh⟩ := gd_some hh
    refine J_lastL (pc := 99) dX7_sheet_99 (sh_cells h8) h9 hh (fun s10 hh => ?_)
    refine J_iincL (pc := 100) (v := v4 + (1 : Int32)) (fun x11 => [some (.ref 19), some (.int v1), none, none, some (.int x11)]) dX7_sheet_100 rfl rfl (Nat.le_of_ble_eq_true rfl) (congrArg _ ci_1) (fun _ => rfl) hh (fun x11 hh => ?_)
    refine J_goto (pc := 103) 83 dX7_sheet_103 (by decide) ?_
    obtain rfl := Option.some.inj hh
    exact hk
def gX7_sheet_79 (s : Mem) (v1 : Int32) (k0 : Int32) (k1 : Int32) : Option (Int32 × Mem) :=
  gd k1 4 (lt (up2 s 30 k1.toNatClampNeg k0) (fun s7 => (lp (fun a => bX7_sheet_83 a.2 v1 a.1) 600 ((0 : Int32), s7)).bind (fun y13 => gd v1 4 (some ((y13.1 30 v1.toNatClampNeg, y13))))))
set_option maxRecDepth 4000 in
theorem jgX7_sheet_79 {X : Scr} (d : Nat) (s : Mem) (v1 : Int32) (k0 : Int32) (k1 : Int32) {r : (Int32 × Mem)} {w : Option Value} {s' : Mem} (hh : gX7_sheet_79 s v1 k0 k1 = some r) (hk : w = some (.int r.1) ∧ r.2 = s') : J X MX7_sheet (d + 2) 79 [some (.ref 19), some (.int v1), none, none, none] [.int k0, .int k1, .ref 30] s w s' := by
  unfold gX7_sheet_79 at hh
  obtain ⟨h6, hh⟩ := gd_some hh
  refine J_iastL (pc := 79) dX7_sheet_79 sa30 h6 hh (fun s7 hh => ?_)
  refine J_iconst (pc := 80) dX7_sheet_80 ci_0 ?_
  refine J_istore (pc := 81) (L' := [some (.ref 19), some (.int v1), none, none, some (.int (0 : Int32))]) dX7_sheet_81 rfl (Nat.le_of_ble_eq_true rfl) rfl ?_
  obtain ⟨y13, hy13, hh⟩ := bd_some hh
  refine J_lp (a := ((0 : Int32), s7)) (fun a : (Int32 × Mem) => J X MX7_sheet (d + 2) 83 [some (.ref 19), some (.int v1), none, none, some (.int a.1)] [] a.2 w s') (fun t : Mem => J X MX7_sheet (d + 2) 106 [some (.ref 19), some (.int v1), none, none, none] [] t w s') (fun a q h1 h2 => jbX7_sheet_83 d a.2 v1 a.1 h1 h2) hy13 ?_
  refine J_aload_n (pc := 106) dX7_sheet_106 rfl ?_
  refine J_getR (pc := 107) (k := 26) flX7_46 so19 fk19_26 dX7_sheet_107 ?_
  refine J_iload_n (pc := 110) dX7_sheet_110 rfl ?_
  obtain ⟨h14, hh⟩ := gd_some hh
  refine J_iald (pc := 111) dX7_sheet_111 sa30 h14 ?_
  obtain rfl := Option.some.inj hh
  obtain ⟨rfl, rfl⟩ := hk
  exact J_ret (w := some (.int (y13.1 30 v1.toNatClampNeg))) ⟨dX7_sheet_112, _, rfl, rfl⟩
def gX7_sheet_58 (s : Mem) (v1 : Int32) (v2 : Int32) (v3 : Int32) : Option (Int32 × Mem) :=
  gd v1 4 (lt (up2 s 29 v1.toNatClampNeg v2) (fun s5 => if (0 : Int32) ≤ v2 then gX7_sheet_79 s5 v1 v3 v1 else gX7_sheet_79 s5 v1 (0 : Int32) v1))
set_option maxRecDepth 4000 in
theorem jgX7_sheet_58 {X : Scr} (d : Nat) (s : Mem) (v1 : Int32) (v2 : Int32) (v3 : Int32) {r : (Int32 × Mem)} {w : Option Value} {s' : Mem} (hh : gX7_sheet_58 s v1 v2 v3 = some r) (hk : w = some (.int r.1) ∧ r.2 = s') : J X MX7_sheet (d + 2) 58 [some (.ref 19), some (.int v1), some (.int v2), some (.int v3), none] [] s w s' := by
  unfold gX7_sheet_58 at hh
  refine J_aload_n (pc := 58) dX7_sheet_58 rfl ?_
  refine J_getR (pc := 59) (k := 25) flX7_43 so19 fk19_25 dX7_sheet_59 ?_
  refine J_iload_n (pc := 62) dX7_sheet_62 rfl ?_
  refine J_iload_n (pc := 63) dX7_sheet_63 rfl ?_
  obtain ⟨h4, hh⟩ := gd_some hh
  refine J_iastL (pc := 64) dX7_sheet_64 sa29 h4 hh (fun s5 hh => ?_)
  refine J_aload_n (pc := 65) dX7_sheet_65 rfl ?_
  refine J_getR (pc := 66) (k := 26) flX7_46 so19 fk19_26 dX7_sheet_66 ?_
  refine J_iload_n (pc := 69) dX7_sheet_69 rfl ?_
  refine J_iload_n (pc := 70) dX7_sheet_70 rfl ?_
  refine J_if_ge (pc := 71) 78 dX7_sheet_71 (by decide) (fun c15 => ?_) (fun c15 => ?_)
  · replace hh := (if_pos c15).symm.trans hh
    refine J_iload_n (pc := 78) dX7_sheet_78 rfl ?_
    refine J_drop 2 (L' := [some (.ref 19), some (.int v1), none, some (.int v3), none]) rfl ?_
    refine J_drop 3 (L' := [some (.ref 19), some (.int v1), none, none, none]) rfl ?_
    exact jgX7_sheet_79 d s5 v1 v3 v1 hh hk
  · replace hh := (if_neg c15).symm.trans hh
    refine J_iconst (pc := 74) dX7_sheet_74 ci_0 ?_
    refine J_goto (pc := 75) 79 dX7_sheet_75 (by decide) ?_
    refine J_drop 2 (L' := [some (.ref 19), some (.int v1), none, some (.int v3), none]) rfl ?_
    refine J_drop 3 (L' := [some (.ref 19), some (.int v1), none, none, none]) rfl ?_
    exact jgX7_sheet_79 d s5 v1 (0 : Int32) v1 hh hk
def gX7_sheet_42 (s : Mem) (v1 : Int32) (v2 : Int32) (v3 : Int32) : Option (Int32 × Mem) :=
  if v2 < (0 : Int32) then gX7_sheet_58 s v1 v2 v3 else if v3 ≤ (40 : Int32) then gX7_sheet_58 s v1 v2 v3 else (fX7_finds s (0 : Int32)).bind (fun y16 => some ((y16.1, y16.2)))
set_option maxRecDepth 4000 in
theorem jgX7_sheet_42 {X : Scr} (d : Nat) (s : Mem) (v1 : Int32) (v2 : Int32) (v3 : Int32) {r : (Int32 × Mem)} {w : Option Value} {s' : Mem} (hh : gX7_sheet_42 s v1 v2 v3 = some r) (hk : w = some (.int r.1) ∧ r.2 = s') : J X MX7_sheet (d + 2) 42 [some (.ref 19), some (.int v1), some (.int v2), some (.int v3), none] [] s w s' := by
  unfold gX7_sheet_42 at hh
  refine J_iload_n (pc := 42) dX7_sheet_42 rfl ?_
  refine J_if_lt (pc := 43) 58 dX7_sheet_43 (by decide) (fun c18 => ?_) (fun c18 => ?_)
  · replace hh := (if_pos c18).symm.trans hh
    exact jgX7_sheet_58 d s v1 v2 v3 hh hk
  · replace hh := (if_neg c18).symm.trans hh
    refine J_iload_n (pc := 46) dX7_sheet_46 rfl ?_
    refine J_bipush (pc := 47) dX7_sheet_47 cb_40 ?_
    refine J_icmp_le (pc := 49) 58 dX7_sheet_49 (by decide) (fun c17 => ?_) (fun c17 => ?_)
    · replace hh := (if_pos c17).symm.trans hh
      exact jgX7_sheet_58 d s v1 v2 v3 hh hk
    · replace hh := (if_neg c17).symm.trans hh
      refine J_aload_n (pc := 52) dX7_sheet_52 rfl ?_
      refine J_iconst (pc := 53) dX7_sheet_53 ci_0 ?_
      obtain ⟨y16, hy16, hh⟩ := bd_some hh
      refine J_callVi (pc := 54) (M' := MX7_finds) (a := 19) (rest := []) (As := [.int (0 : Int32)]) (L0 := [some (.ref 19), some (.int (0 : Int32))]) okX7_finds ovX7_finds mlX7_158 clX7 so19 rfl rfl (Nat.le_of_ble_eq_true rfl) dX7_sheet_54 rfl (Nat.le_of_ble_eq_true rfl) (jX7_finds (X := X) (d + 1) s (0 : Int32) hy16) ?_
      obtain rfl := Option.some.inj hh
      obtain ⟨rfl, rfl⟩ := hk
      exact J_ret (w := some (.int y16.1)) ⟨dX7_sheet_57, _, rfl, rfl⟩
def fX7_sheet (s : Mem) (p0 : Int32) (p1 : Int32) (p2 : Int32) : Option (Int32 × Mem) :=
  (fX7_isSheet p0).bind (fun y1 => if y1 = (0 : Int32) then gX7_sheet_21 s else (fX7_in (p1.toInt64) (-1 : Int64) (2 : Int64)).bind (fun y3 => if y3 = (0 : Int32) then gX7_sheet_21 s else if p1 < (0 : Int32) then gX7_sheet_42 s p0 p1 p2 else if (0 : Int32) ≤ p2 then gX7_sheet_42 s p0 p1 p2 else (fX7_finds s (6 : Int32)).bind (fun y19 => some ((y19.1, y19.2)))))
set_option maxRecDepth 4000 in
theorem jjX7_sheet {X : Scr} (d : Nat) (s : Mem) (p0 : Int32) (p1 : Int32) (p2 : Int32) {r : (Int32 × Mem)} {w : Option Value} {s' : Mem} (hh : fX7_sheet s p0 p1 p2 = some r) (hk : w = some (.int r.1) ∧ r.2 = s') : J X MX7_sheet (d + 2) 0 [some (.ref 19), some (.int p0), some (.int p1), some (.int p2), none] [] s w s' := by
  unfold fX7_sheet at hh
  refine J_iload_n (pc := 0) dX7_sheet_0 rfl ?_
  obtain ⟨y1, hy1, hh⟩ := bd_some hh
  refine J_callSi (pc := 1) (M' := MX7_isSheet) (rest := []) (As := [.int p0]) (L0 := [some (.int p0)]) okX7_isSheet osX7_isSheet mlX7_297 rfl rfl (Nat.le_of_ble_eq_true rfl) dX7_sheet_1 rfl (Nat.le_of_ble_eq_true rfl) (jX7_isSheet (X := X) d s p0 hy1) ?_
  refine J_if_eq (pc := 4) 21 dX7_sheet_4 (by decide) (fun c23 => ?_) (fun c23 => ?_)
  · replace hh := (if_pos c23).symm.trans hh
    refine J_drop 1 (L' := [some (.ref 19), none, some (.int p1), some (.int p2), none]) rfl ?_
    refine J_drop 2 (L' := [some (.ref 19), none, none, some (.int p2), none]) rfl ?_
    refine J_drop 3 (L' := [some (.ref 19), none, none, none, none]) rfl ?_
    exact jgX7_sheet_21 d s hh hk
  · replace hh := (if_neg c23).symm.trans hh
    refine J_iload_n (pc := 7) dX7_sheet_7 rfl ?_
    refine J_i2l (pc := 8) dX7_sheet_8 ?_
    refine J_ldc2 (pc := 9) klX7_156 dX7_sheet_9 ?_
    refine J_ldc2 (pc := 12) klX7_143 dX7_sheet_12 ?_
    obtain ⟨y3, hy3, hh⟩ := bd_some hh
    refine J_callSi (pc := 15) (M' := MX7_in) (rest := []) (As := [.long (p1.toInt64), .long (-1 : Int64), .long (2 : Int64)]) (L0 := [some (.long (p1.toInt64)), none, some (.long (-1 : Int64)), none, some (.long (2 : Int64)), none]) okX7_in osX7_in mlX7_63 rfl rfl (Nat.le_of_ble_eq_true rfl) dX7_sheet_15 rfl (Nat.le_of_ble_eq_true rfl) (jX7_in (X := X) (d + 1) s (p1.toInt64) (-1 : Int64) (2 : Int64) hy3) ?_
    refine J_if_ne (pc := 18) 27 dX7_sheet_18 (by decide) (fun c22 => ?_) (fun c22 => ?_)
    · replace hh := (if_neg c22).symm.trans hh
      refine J_iload_n (pc := 27) dX7_sheet_27 rfl ?_
      refine J_if_lt (pc := 28) 42 dX7_sheet_28 (by decide) (fun c21 => ?_) (fun c21 => ?_)
      · replace hh := (if_pos c21).symm.trans hh
        exact jgX7_sheet_42 d s p0 p1 p2 hh hk
      · replace hh := (if_neg c21).symm.trans hh
        refine J_iload_n (pc := 31) dX7_sheet_31 rfl ?_
        refine J_if_ge (pc := 32) 42 dX7_sheet_32 (by decide) (fun c20 => ?_) (fun c20 => ?_)
        · replace hh := (if_pos c20).symm.trans hh
          exact jgX7_sheet_42 d s p0 p1 p2 hh hk
        · replace hh := (if_neg c20).symm.trans hh
          refine J_aload_n (pc := 35) dX7_sheet_35 rfl ?_
          refine J_bipush (pc := 36) dX7_sheet_36 cb_6 ?_
          obtain ⟨y19, hy19, hh⟩ := bd_some hh
          refine J_callVi (pc := 38) (M' := MX7_finds) (a := 19) (rest := []) (As := [.int (6 : Int32)]) (L0 := [some (.ref 19), some (.int (6 : Int32))]) okX7_finds ovX7_finds mlX7_158 clX7 so19 rfl rfl (Nat.le_of_ble_eq_true rfl) dX7_sheet_38 rfl (Nat.le_of_ble_eq_true rfl) (jX7_finds (X := X) (d + 1) s (6 : Int32) hy19) ?_
          obtain rfl := Option.some.inj hh
          obtain ⟨rfl, rfl⟩ := hk
          exact J_ret (w := some (.int y19.1)) ⟨dX7_sheet_41, _, rfl, rfl⟩
    · replace hh := (if_pos c22).symm.trans hh
      refine J_drop 1 (L' := [some (.ref 19), none, some (.int p1), some (.int p2), none]) rfl ?_
      refine J_drop 2 (L' := [some (.ref 19), none, none, some (.int p2), none]) rfl ?_
      refine J_drop 3 (L' := [some (.ref 19), none, none, none, none]) rfl ?_
      exact jgX7_sheet_21 d s hh hk
theorem jX7_sheet {X : Scr} (d : Nat) (s : Mem) (p0 : Int32) (p1 : Int32) (p2 : Int32) {r : (Int32 × Mem)} (hh : fX7_sheet s p0 p1 p2 = some r) : J X MX7_sheet (d + 2) 0 [some (.ref 19), some (.int p0), some (.int p1), some (.int p2), none] [] s (some (.int r.1)) r.2 := jjX7_sheet d s p0 p1 p2 hh ⟨rfl, rfl⟩
theorem dX7_whyNoPlace_0 : decode cX7_whyNoPlace 0 = .ok (.iload_n 1, 1) := by decide +kernel
theorem dX7_whyNoPlace_1 : decode cX7_whyNoPlace 1 = .ok (.invokestatic 297, 3) := by decide +kernel
theorem dX7_whyNoPlace_4 : decode cX7_whyNoPlace 4 = .ok (.ifCond .ne 7, 3) := by decide +kernel
theorem dX7_whyNoPlace_7 : decode cX7_whyNoPlace 7 = .ok (.iconst 0, 1) := by decide +kernel
theorem dX7_whyNoPlace_8 : decode cX7_whyNoPlace 8 = .ok (.goto 39, 3) := by decide +kernel
theorem dX7_whyNoPlace_11 : decode cX7_whyNoPlace 11 = .ok (.aload_n 0, 1) := by decide +kernel
theorem dX7_whyNoPlace_12 : decode cX7_whyNoPlace 12 = .ok (.getfield 43, 3) := by decide +kernel
theorem dX7_whyNoPlace_15 : decode cX7_whyNoPlace 15 = .ok (.iload_n 1, 1) := by decide +kernel
theorem dX7_whyNoPlace_16 : decode cX7_whyNoPlace 16 = .ok (.iaload, 1) := by decide +kernel
theorem dX7_whyNoPlace_17 : decode cX7_whyNoPlace 17 = .ok (.ifCond .ge 7, 3) := by decide +kernel
theorem dX7_whyNoPlace_20 : decode cX7_whyNoPlace 20 = .ok (.iconst 5, 1) := by decide +kernel
theorem dX7_whyNoPlace_21 : decode cX7_whyNoPlace 21 = .ok (.goto 26, 3) := by decide +kernel
theorem dX7_whyNoPlace_24 : decode cX7_whyNoPlace 24 = .ok (.iload_n 2, 1) := by decide +kernel
theorem dX7_whyNoPlace_25 : decode cX7_whyNoPlace 25 = .ok (.i2l, 1) := by decide +kernel
theorem dX7_whyNoPlace_26 : decode cX7_whyNoPlace 26 = .ok (.lconst 0, 1) := by decide +kernel
theorem dX7_whyNoPlace_27 : decode cX7_whyNoPlace 27 = .ok (.aload_n 0, 1) := by decide +kernel
theorem dX7_whyNoPlace_28 : decode cX7_whyNoPlace 28 = .ok (.getfield 46, 3) := by decide +kernel
theorem dX7_whyNoPlace_31 : decode cX7_whyNoPlace 31 = .ok (.iload_n 1, 1) := by decide +kernel
theorem dX7_whyNoPlace_32 : decode cX7_whyNoPlace 32 = .ok (.iaload, 1) := by decide +kernel
theorem dX7_whyNoPlace_33 : decode cX7_whyNoPlace 33 = .ok (.iconst 1, 1) := by decide +kernel
theorem dX7_whyNoPlace_34 : decode cX7_whyNoPlace 34 = .ok (.isub, 1) := by decide +kernel
theorem dX7_whyNoPlace_35 : decode cX7_whyNoPlace 35 = .ok (.i2l, 1) := by decide +kernel
theorem dX7_whyNoPlace_36 : decode cX7_whyNoPlace 36 = .ok (.invokestatic 63, 3) := by decide +kernel
theorem dX7_whyNoPlace_39 : decode cX7_whyNoPlace 39 = .ok (.ifCond .ne 7, 3) := by decide +kernel
theorem dX7_whyNoPlace_42 : decode cX7_whyNoPlace 42 = .ok (.iconst 0, 1) := by decide +kernel
theorem dX7_whyNoPlace_43 : decode cX7_whyNoPlace 43 = .ok (.goto 4, 3) := by decide +kernel
theorem dX7_whyNoPlace_46 : decode cX7_whyNoPlace 46 = .ok (.iconst (-1), 1) := by decide +kernel
theorem dX7_whyNoPlace_47 : decode cX7_whyNoPlace 47 = .ok (.ireturn, 1) := by decide +kernel
def fX7_whyNoPlace (s : Mem) (p0 : Int32) (p1 : Int32) : Option Int32 :=
  (fX7_isSheet p0).bind (fun y1 => if y1 = (0 : Int32) then some (0 : Int32) else gd p0 4 (if (0 : Int32) ≤ (s.1 29 p0.toNatClampNeg) then gd p0 4 ((fX7_in (p1.toInt64) (0 : Int64) (((s.1 30 p0.toNatClampNeg) - (1 : Int32)).toInt64)).bind (fun y4 => if y4 = (0 : Int32) then some (0 : Int32) else some (-1 : Int32))) else some (5 : Int32)))
set_option maxRecDepth 4000 in
theorem jjX7_whyNoPlace {X : Scr} (d : Nat) (s : Mem) (p0 : Int32) (p1 : Int32) {r : Int32} {w : Option Value} {s' : Mem} (hh : fX7_whyNoPlace s p0 p1 = some r) (hk : w = some (.int r) ∧ s = s') : J X MX7_whyNoPlace (d + 2) 0 [some (.ref 19), some (.int p0), some (.int p1)] [] s w s' := by
  unfold fX7_whyNoPlace at hh
  refine J_iload_n (pc := 0) dX7_whyNoPlace_0 rfl ?_
  obtain ⟨y1, hy1, hh⟩ := bd_some hh
  refine J_callSi (pc := 1) (M' := MX7_isSheet) (rest := []) (As := [.int p0]) (L0 := [some (.int p0)]) okX7_isSheet osX7_isSheet mlX7_297 rfl rfl (Nat.le_of_ble_eq_true rfl) dX7_whyNoPlace_1 rfl (Nat.le_of_ble_eq_true rfl) (jX7_isSheet (X := X) d s p0 hy1) ?_
  refine J_if_ne (pc := 4) 11 dX7_whyNoPlace_4 (by decide) (fun c7 => ?_) (fun c7 => ?_)
  · replace hh := (if_neg c7).symm.trans hh
    refine J_aload_n (pc := 11) dX7_whyNoPlace_11 rfl ?_
    refine J_getR (pc := 12) (k := 25) flX7_43 so19 fk19_25 dX7_whyNoPlace_12 ?_
    refine J_iload_n (pc := 15) dX7_whyNoPlace_15 rfl ?_
    obtain ⟨h2, hh⟩ := gd_some hh
    refine J_iald (pc := 16) dX7_whyNoPlace_16 sa29 h2 ?_
    refine J_if_ge (pc := 17) 24 dX7_whyNoPlace_17 (by decide) (fun c6 => ?_) (fun c6 => ?_)
    · replace hh := (if_pos c6).symm.trans hh
      refine J_iload_n (pc := 24) dX7_whyNoPlace_24 rfl ?_
      refine J_i2l (pc := 25) dX7_whyNoPlace_25 ?_
      refine J_lconst (pc := 26) (v := 0) dX7_whyNoPlace_26 rfl ?_
      refine J_aload_n (pc := 27) dX7_whyNoPlace_27 rfl ?_
      refine J_getR (pc := 28) (k := 26) flX7_46 so19 fk19_26 dX7_whyNoPlace_28 ?_
      refine J_iload_n (pc := 31) dX7_whyNoPlace_31 rfl ?_
      obtain ⟨h3, hh⟩ := gd_some hh
      refine J_iald (pc := 32) dX7_whyNoPlace_32 sa30 h3 ?_
      refine J_iconst (pc := 33) dX7_whyNoPlace_33 ci_1 ?_
      refine J_isub (pc := 34) dX7_whyNoPlace_34 ?_
      refine J_i2l (pc := 35) dX7_whyNoPlace_35 ?_
      obtain ⟨y4, hy4, hh⟩ := bd_some hh
      refine J_callSi (pc := 36) (M' := MX7_in) (rest := []) (As := [.long (p1.toInt64), .long (0 : Int64), .long (((s.1 30 p0.toNatClampNeg) - (1 : Int32)).toInt64)]) (L0 := [some (.long (p1.toInt64)), none, some (.long (0 : Int64)), none, some (.long (((s.1 30 p0.toNatClampNeg) - (1 : Int32)).toInt64)), none]) okX7_in osX7_in mlX7_63 rfl rfl (Nat.le_of_ble_eq_true rfl) dX7_whyNoPlace_36 rfl (Nat.le_of_ble_eq_true rfl) (jX7_in (X := X) (d + 1) s (p1.toInt64) (0 : Int64) (((s.1 30 p0.toNatClampNeg) - (1 : Int32)).toInt64) hy4) ?_
      refine J_if_ne (pc := 39) 46 dX7_whyNoPlace_39 (by decide) (fun c5 => ?_) (fun c5 => ?_)
      · replace hh := (if_neg c5).symm.trans hh
        refine J_iconst (pc := 46) dX7_whyNoPlace_46 ci_m1 ?_
        obtain rfl := Option.some.inj hh
        obtain ⟨rfl, rfl⟩ := hk
        exact J_ret (w := some (.int (-1 : Int32))) ⟨dX7_whyNoPlace_47, _, rfl, rfl⟩
      · replace hh := (if_pos c5).symm.trans hh
        refine J_iconst (pc := 42) dX7_whyNoPlace_42 ci_0 ?_
        refine J_goto (pc := 43) 47 dX7_whyNoPlace_43 (by decide) ?_
        obtain rfl := Option.some.inj hh
        obtain ⟨rfl, rfl⟩ := hk
        exact J_ret (w := some (.int (0 : Int32))) ⟨dX7_whyNoPlace_47, _, rfl, rfl⟩
    · replace hh := (if_neg c6).symm.trans hh
      refine J_iconst (pc := 20) dX7_whyNoPlace_20 ci_5 ?_
      refine J_goto (pc := 21) 47 dX7_whyNoPlace_21 (by decide) ?_
      obtain rfl := Option.some.inj hh
      obtain ⟨rfl, rfl⟩ := hk
      exact J_ret (w := some (.int (5 : Int32))) ⟨dX7_whyNoPlace_47, _, rfl, rfl⟩
  · replace hh := (if_pos c7).symm.trans hh
    refine J_iconst (pc := 7) dX7_whyNoPlace_7 ci_0 ?_
    refine J_goto (pc := 8) 47 dX7_whyNoPlace_8 (by decide) ?_
    obtain rfl := Option.some.inj hh
    obtain ⟨rfl, rfl⟩ := hk
    exact J_ret (w := some (.int (0 : Int32))) ⟨dX7_whyNoPlace_47, _, rfl, rfl⟩
theorem jX7_whyNoPlace {X : Scr} (d : Nat) (s : Mem) (p0 : Int32) (p1 : Int32) {r : Int32} (hh : fX7_whyNoPlace s p0 p1 = some r) : J X MX7_whyNoPlace (d + 2) 0 [some (.ref 19), some (.int p0), some (.int p1)] [] s (some (.int r)) s := jjX7_whyNoPlace d s p0 p1 hh ⟨rfl, rfl⟩
theorem dX7_write_0 : decode cX7_write 0 = .ok (.aload_n 0, 1) := by decide +kernel
theorem dX7_write_1 : decode cX7_write 1 = .ok (.iload_n 1, 1) := by decide +kernel
theorem dX7_write_2 : decode cX7_write 2 = .ok (.iload_n 2, 1) := by decide +kernel
theorem dX7_write_3 : decode cX7_write 3 = .ok (.invokevirtual 426, 3) := by decide +kernel
theorem dX7_write_6 : decode cX7_write 6 = .ok (.istore 5, 2) := by decide +kernel
theorem dX7_write_8 : decode cX7_write 8 = .ok (.iload 5, 2) := by decide +kernel
theorem dX7_write_10 : decode cX7_write 10 = .ok (.ifCond .lt 10, 3) := by decide +kernel
theorem dX7_write_13 : decode cX7_write 13 = .ok (.aload_n 0, 1) := by decide +kernel
theorem dX7_write_14 : decode cX7_write 14 = .ok (.iload 5, 2) := by decide +kernel
theorem dX7_write_16 : decode cX7_write 16 = .ok (.invokevirtual 158, 3) := by decide +kernel
theorem dX7_write_19 : decode cX7_write 19 = .ok (.ireturn, 1) := by decide +kernel
theorem dX7_write_20 : decode cX7_write 20 = .ok (.aload_n 0, 1) := by decide +kernel
theorem dX7_write_21 : decode cX7_write 21 = .ok (.getfield 51, 3) := by decide +kernel
theorem dX7_write_24 : decode cX7_write 24 = .ok (.iload_n 1, 1) := by decide +kernel
theorem dX7_write_25 : decode cX7_write 25 = .ok (.aaload, 1) := by decide +kernel
theorem dX7_write_26 : decode cX7_write 26 = .ok (.iload_n 2, 1) := by decide +kernel
theorem dX7_write_27 : decode cX7_write 27 = .ok (.aload_n 0, 1) := by decide +kernel
theorem dX7_write_28 : decode cX7_write 28 = .ok (.getfield 43, 3) := by decide +kernel
theorem dX7_write_31 : decode cX7_write 31 = .ok (.iload_n 1, 1) := by decide +kernel
theorem dX7_write_32 : decode cX7_write 32 = .ok (.iaload, 1) := by decide +kernel
theorem dX7_write_33 : decode cX7_write 33 = .ok (.lload_n 3, 1) := by decide +kernel
theorem dX7_write_34 : decode cX7_write 34 = .ok (.invokestatic 429, 3) := by decide +kernel
theorem dX7_write_37 : decode cX7_write 37 = .ok (.lastore, 1) := by decide +kernel
theorem dX7_write_38 : decode cX7_write 38 = .ok (.iconst 1, 1) := by decide +kernel
theorem dX7_write_39 : decode cX7_write 39 = .ok (.ireturn, 1) := by decide +kernel
def fX7_write (s : Mem) (p0 : Int32) (p1 : Int32) (p2 : Int64) : Option (Int32 × Mem) :=
  (fX7_whyNoPlace s p0 p1).bind (fun y1 => if y1 < (0 : Int32) then gd p0 4 (gd p0 4 ((fX7_cut (s.1 29 p0.toNatClampNeg) p2).bind (fun y4 => gd p1 40 (lt (upL s (33 + p0.toNatClampNeg) p1.toNatClampNeg y4) (fun s6 => some (((1 : Int32), s6))))))) else (fX7_finds s y1).bind (fun y7 => some ((y7.1, y7.2))))
set_option maxRecDepth 4000 in
theorem jjX7_write {X : Scr} (d : Nat) (s : Mem) (p0 : Int32) (p1 : Int32) (p2 : Int64) {r : (Int32 × Mem)} {w : Option Value} {s' : Mem} (hh : fX7_write s p0 p1 p2 = some r) (hk : w = some (.int r.1) ∧ r.2 = s') : J X MX7_write (d + 3) 0 [some (.ref 19), some (.int p0), some (.int p1), some (.long p2), none, none] [] s w s' := by
  unfold fX7_write at hh
  refine J_aload_n (pc := 0) dX7_write_0 rfl ?_
  refine J_iload_n (pc := 1) dX7_write_1 rfl ?_
  refine J_iload_n (pc := 2) dX7_write_2 rfl ?_
  obtain ⟨y1, hy1, hh⟩ := bd_some hh
  refine J_callVi (pc := 3) (M' := MX7_whyNoPlace) (a := 19) (rest := []) (As := [.int p0, .int p1]) (L0 := [some (.ref 19), some (.int p0), some (.int p1)]) okX7_whyNoPlace ovX7_whyNoPlace mlX7_426 clX7 so19 rfl rfl (Nat.le_of_ble_eq_true rfl) dX7_write_3 rfl (Nat.le_of_ble_eq_true rfl) (jX7_whyNoPlace (X := X) d s p0 p1 hy1) ?_
  refine J_istore (pc := 6) (L' := [some (.ref 19), some (.int p0), some (.int p1), some (.long p2), none, some (.int y1)]) dX7_write_6 rfl (Nat.le_of_ble_eq_true rfl) rfl ?_
  refine J_iload (pc := 8) dX7_write_8 rfl ?_
  refine J_if_lt (pc := 10) 20 dX7_write_10 (by decide) (fun c8 => ?_) (fun c8 => ?_)
  · replace hh := (if_pos c8).symm.trans hh
    refine J_aload_n (pc := 20) dX7_write_20 rfl ?_
    refine J_getR (pc := 21) (k := 27) flX7_51 so19 fk19_27 dX7_write_21 ?_
    refine J_iload_n (pc := 24) dX7_write_24 rfl ?_
    obtain ⟨h2, hh⟩ := gd_some hh
    refine J_aald (pc := 25) dX7_write_25 (Or.inr rfl) sa31 h2 ?_
    refine J_iload_n (pc := 26) dX7_write_26 rfl ?_
    refine J_aload_n (pc := 27) dX7_write_27 rfl ?_
    refine J_getR (pc := 28) (k := 25) flX7_43 so19 fk19_25 dX7_write_28 ?_
    refine J_iload_n (pc := 31) dX7_write_31 rfl ?_
    obtain ⟨h3, hh⟩ := gd_some hh
    refine J_iald (pc := 32) dX7_write_32 sa29 h3 ?_
    refine J_lload_n (pc := 33) dX7_write_33 rfl ?_
    obtain ⟨y4, hy4, hh⟩ := bd_some hh
    refine J_callSi (pc := 34) (M' := MX7_cut) (rest := [.int p1, .ref (33 + p0.toNatClampNeg)]) (As := [.int (s.1 29 p0.toNatClampNeg), .long p2]) (L0 := [some (.int (s.1 29 p0.toNatClampNeg)), some (.long p2), none]) okX7_cut osX7_cut mlX7_429 rfl rfl (Nat.le_of_ble_eq_true rfl) dX7_write_34 rfl (Nat.le_of_ble_eq_true rfl) (jX7_cut (X := X) (d + 2) s (s.1 29 p0.toNatClampNeg) p2 hy4) ?_
    obtain ⟨h5, hh⟩ := gd_some hh
    refine J_lastL (pc := 37) dX7_write_37 (sh_cells h2) h5 hh (fun s6 hh => ?_)
    refine J_iconst (pc := 38) dX7_write_38 ci_1 ?_
    obtain rfl := Option.some.inj hh
    obtain ⟨rfl, rfl⟩ := hk
    exact J_ret (w := some (.int (1 : Int32))) ⟨dX7_write_39, _, rfl, rfl⟩
  · replace hh := (if_neg c8).symm.trans hh
    refine J_aload_n (pc := 13) dX7_write_13 rfl ?_
    refine J_iload (pc := 14) dX7_write_14 rfl ?_
    obtain ⟨y7, hy7, hh⟩ := bd_some hh
    refine J_callVi (pc := 16) (M' := MX7_finds) (a := 19) (rest := []) (As := [.int y1]) (L0 := [some (.ref 19), some (.int y1)]) okX7_finds ovX7_finds mlX7_158 clX7 so19 rfl rfl (Nat.le_of_ble_eq_true rfl) dX7_write_16 rfl (Nat.le_of_ble_eq_true rfl) (jX7_finds (X := X) (d + 2) s y1 hy7) ?_
    obtain rfl := Option.some.inj hh
    obtain ⟨rfl, rfl⟩ := hk
    exact J_ret (w := some (.int y7.1)) ⟨dX7_write_19, _, rfl, rfl⟩
theorem jX7_write {X : Scr} (d : Nat) (s : Mem) (p0 : Int32) (p1 : Int32) (p2 : Int64) {r : (Int32 × Mem)} (hh : fX7_write s p0 p1 p2 = some r) : J X MX7_write (d + 3) 0 [some (.ref 19), some (.int p0), some (.int p1), some (.long p2), none, none] [] s (some (.int r.1)) r.2 := jjX7_write d s p0 p1 p2 hh ⟨rfl, rfl⟩
theorem dX7_item__0 : decode cX7_item_ 0 = .ok (.aload_n 0, 1) := by decide +kernel
theorem dX7_item__1 : decode cX7_item_ 1 = .ok (.iload_n 1, 1) := by decide +kernel
theorem dX7_item__2 : decode cX7_item_ 2 = .ok (.iload_n 2, 1) := by decide +kernel
theorem dX7_item__3 : decode cX7_item_ 3 = .ok (.invokevirtual 426, 3) := by decide +kernel
theorem dX7_item__6 : decode cX7_item_ 6 = .ok (.istore_n 3, 1) := by decide +kernel
theorem dX7_item__7 : decode cX7_item_ 7 = .ok (.iload_n 3, 1) := by decide +kernel
theorem dX7_item__8 : decode cX7_item_ 8 = .ok (.ifCond .lt 11, 3) := by decide +kernel
theorem dX7_item__11 : decode cX7_item_ 11 = .ok (.aload_n 0, 1) := by decide +kernel
theorem dX7_item__12 : decode cX7_item_ 12 = .ok (.iload_n 3, 1) := by decide +kernel
theorem dX7_item__13 : decode cX7_item_ 13 = .ok (.invokevirtual 293, 3) := by decide +kernel
theorem dX7_item__16 : decode cX7_item_ 16 = .ok (.goto 11, 3) := by decide +kernel
theorem dX7_item__19 : decode cX7_item_ 19 = .ok (.aload_n 0, 1) := by decide +kernel
theorem dX7_item__20 : decode cX7_item_ 20 = .ok (.getfield 51, 3) := by decide +kernel
theorem dX7_item__23 : decode cX7_item_ 23 = .ok (.iload_n 1, 1) := by decide +kernel
theorem dX7_item__24 : decode cX7_item_ 24 = .ok (.aaload, 1) := by decide +kernel
theorem dX7_item__25 : decode cX7_item_ 25 = .ok (.iload_n 2, 1) := by decide +kernel
theorem dX7_item__26 : decode cX7_item_ 26 = .ok (.laload, 1) := by decide +kernel
theorem dX7_item__27 : decode cX7_item_ 27 = .ok (.lreturn, 1) := by decide +kernel
def fX7_item_ (s : Mem) (p0 : Int32) (p1 : Int32) : Option (Int64 × Mem) :=
  (fX7_whyNoPlace s p0 p1).bind (fun y1 => if y1 < (0 : Int32) then gd p0 4 (gd p1 40 (some ((s.2 (33 + p0.toNatClampNeg) p1.toNatClampNeg, s)))) else (fX7_findsLong s y1).bind (fun y4 => some ((y4.1, y4.2))))
set_option maxRecDepth 4000 in
theorem jjX7_item_ {X : Scr} (d : Nat) (s : Mem) (p0 : Int32) (p1 : Int32) {r : (Int64 × Mem)} {w : Option Value} {s' : Mem} (hh : fX7_item_ s p0 p1 = some r) (hk : w = some (.long r.1) ∧ r.2 = s') : J X MX7_item_ (d + 3) 0 [some (.ref 19), some (.int p0), some (.int p1), none] [] s w s' := by
  unfold fX7_item_ at hh
  refine J_aload_n (pc := 0) dX7_item__0 rfl ?_
  refine J_iload_n (pc := 1) dX7_item__1 rfl ?_
  refine J_iload_n (pc := 2) dX7_item__2 rfl ?_
  obtain ⟨y1, hy1, hh⟩ := bd_some hh
  refine J_callVi (pc := 3) (M' := MX7_whyNoPlace) (a := 19) (rest := []) (As := [.int p0, .int p1]) (L0 := [some (.ref 19), some (.int p0), some (.int p1)]) okX7_whyNoPlace ovX7_whyNoPlace mlX7_426 clX7 so19 rfl rfl (Nat.le_of_ble_eq_true rfl) dX7_item__3 rfl (Nat.le_of_ble_eq_true rfl) (jX7_whyNoPlace (X := X) d s p0 p1 hy1) ?_
  refine J_istore_n (pc := 6) (L' := [some (.ref 19), some (.int p0), some (.int p1), some (.int y1)]) dX7_item__6 rfl (Nat.le_of_ble_eq_true rfl) rfl ?_
  refine J_iload_n (pc := 7) dX7_item__7 rfl ?_
  refine J_if_lt (pc := 8) 19 dX7_item__8 (by decide) (fun c5 => ?_) (fun c5 => ?_)
  · replace hh := (if_pos c5).symm.trans hh
    refine J_aload_n (pc := 19) dX7_item__19 rfl ?_
    refine J_getR (pc := 20) (k := 27) flX7_51 so19 fk19_27 dX7_item__20 ?_
    refine J_iload_n (pc := 23) dX7_item__23 rfl ?_
    obtain ⟨h2, hh⟩ := gd_some hh
    refine J_aald (pc := 24) dX7_item__24 (Or.inr rfl) sa31 h2 ?_
    refine J_iload_n (pc := 25) dX7_item__25 rfl ?_
    obtain ⟨h3, hh⟩ := gd_some hh
    refine J_lald (pc := 26) dX7_item__26 (sh_cells h2) h3 ?_
    obtain rfl := Option.some.inj hh
    obtain ⟨rfl, rfl⟩ := hk
    exact J_ret (w := some (.long (s.2 (33 + p0.toNatClampNeg) p1.toNatClampNeg))) ⟨dX7_item__27, rfl⟩
  · replace hh := (if_neg c5).symm.trans hh
    refine J_aload_n (pc := 11) dX7_item__11 rfl ?_
    refine J_iload_n (pc := 12) dX7_item__12 rfl ?_
    obtain ⟨y4, hy4, hh⟩ := bd_some hh
    refine J_callVi (pc := 13) (M' := MX7_findsLong) (a := 19) (rest := []) (As := [.int y1]) (L0 := [some (.ref 19), some (.int y1)]) okX7_findsLong ovX7_findsLong mlX7_293 clX7 so19 rfl rfl (Nat.le_of_ble_eq_true rfl) dX7_item__13 rfl (Nat.le_of_ble_eq_true rfl) (jX7_findsLong (X := X) (d + 2) s y1 hy4) ?_
    refine J_goto (pc := 16) 27 dX7_item__16 (by decide) ?_
    obtain rfl := Option.some.inj hh
    obtain ⟨rfl, rfl⟩ := hk
    exact J_ret (w := some (.long y4.1)) ⟨dX7_item__27, rfl⟩
theorem jX7_item_ {X : Scr} (d : Nat) (s : Mem) (p0 : Int32) (p1 : Int32) {r : (Int64 × Mem)} (hh : fX7_item_ s p0 p1 = some r) : J X MX7_item_ (d + 3) 0 [some (.ref 19), some (.int p0), some (.int p1), none] [] s (some (.long r.1)) r.2 := jjX7_item_ d s p0 p1 hh ⟨rfl, rfl⟩
theorem dX7_copy_0 : decode cX7_copy 0 = .ok (.iload_n 1, 1) := by decide +kernel
theorem dX7_copy_1 : decode cX7_copy 1 = .ok (.invokestatic 297, 3) := by decide +kernel
theorem dX7_copy_4 : decode cX7_copy 4 = .ok (.ifCond .eq 10, 3) := by decide +kernel
theorem dX7_copy_7 : decode cX7_copy 7 = .ok (.iload_n 3, 1) := by decide +kernel
theorem dX7_copy_8 : decode cX7_copy 8 = .ok (.invokestatic 297, 3) := by decide +kernel
theorem dX7_copy_11 : decode cX7_copy 11 = .ok (.ifCond .ne 9, 3) := by decide +kernel
theorem dX7_copy_14 : decode cX7_copy 14 = .ok (.aload_n 0, 1) := by decide +kernel
theorem dX7_copy_15 : decode cX7_copy 15 = .ok (.iconst 0, 1) := by decide +kernel
theorem dX7_copy_16 : decode cX7_copy 16 = .ok (.invokevirtual 158, 3) := by decide +kernel
theorem dX7_copy_19 : decode cX7_copy 19 = .ok (.ireturn, 1) := by decide +kernel
theorem dX7_copy_20 : decode cX7_copy 20 = .ok (.aload_n 0, 1) := by decide +kernel
theorem dX7_copy_21 : decode cX7_copy 21 = .ok (.getfield 43, 3) := by decide +kernel
theorem dX7_copy_24 : decode cX7_copy 24 = .ok (.iload_n 1, 1) := by decide +kernel
theorem dX7_copy_25 : decode cX7_copy 25 = .ok (.iaload, 1) := by decide +kernel
theorem dX7_copy_26 : decode cX7_copy 26 = .ok (.ifCond .lt 12, 3) := by decide +kernel
theorem dX7_copy_29 : decode cX7_copy 29 = .ok (.aload_n 0, 1) := by decide +kernel
theorem dX7_copy_30 : decode cX7_copy 30 = .ok (.getfield 43, 3) := by decide +kernel
theorem dX7_copy_33 : decode cX7_copy 33 = .ok (.iload_n 3, 1) := by decide +kernel
theorem dX7_copy_34 : decode cX7_copy 34 = .ok (.iaload, 1) := by decide +kernel
theorem dX7_copy_35 : decode cX7_copy 35 = .ok (.ifCond .ge 9, 3) := by decide +kernel
theorem dX7_copy_38 : decode cX7_copy 38 = .ok (.aload_n 0, 1) := by decide +kernel
theorem dX7_copy_39 : decode cX7_copy 39 = .ok (.iconst 5, 1) := by decide +kernel
theorem dX7_copy_40 : decode cX7_copy 40 = .ok (.invokevirtual 158, 3) := by decide +kernel
theorem dX7_copy_43 : decode cX7_copy 43 = .ok (.ireturn, 1) := by decide +kernel
theorem dX7_copy_44 : decode cX7_copy 44 = .ok (.aload_n 0, 1) := by decide +kernel
theorem dX7_copy_45 : decode cX7_copy 45 = .ok (.getfield 43, 3) := by decide +kernel
theorem dX7_copy_48 : decode cX7_copy 48 = .ok (.iload_n 1, 1) := by decide +kernel
theorem dX7_copy_49 : decode cX7_copy 49 = .ok (.iaload, 1) := by decide +kernel
theorem dX7_copy_50 : decode cX7_copy 50 = .ok (.aload_n 0, 1) := by decide +kernel
theorem dX7_copy_51 : decode cX7_copy 51 = .ok (.getfield 43, 3) := by decide +kernel
theorem dX7_copy_54 : decode cX7_copy 54 = .ok (.iload_n 3, 1) := by decide +kernel
theorem dX7_copy_55 : decode cX7_copy 55 = .ok (.iaload, 1) := by decide +kernel
theorem dX7_copy_56 : decode cX7_copy 56 = .ok (.if_icmp .eq 9, 3) := by decide +kernel
theorem dX7_copy_59 : decode cX7_copy 59 = .ok (.aload_n 0, 1) := by decide +kernel
theorem dX7_copy_60 : decode cX7_copy 60 = .ok (.iconst 2, 1) := by decide +kernel
theorem dX7_copy_61 : decode cX7_copy 61 = .ok (.invokevirtual 158, 3) := by decide +kernel
theorem dX7_copy_64 : decode cX7_copy 64 = .ok (.ireturn, 1) := by decide +kernel
theorem dX7_copy_65 : decode cX7_copy 65 = .ok (.iload_n 2, 1) := by decide +kernel
theorem dX7_copy_66 : decode cX7_copy 66 = .ok (.ifCond .lt 48, 3) := by decide +kernel
theorem dX7_copy_69 : decode cX7_copy 69 = .ok (.iload 4, 2) := by decide +kernel
theorem dX7_copy_71 : decode cX7_copy 71 = .ok (.ifCond .lt 43, 3) := by decide +kernel
theorem dX7_copy_74 : decode cX7_copy 74 = .ok (.iload 5, 2) := by decide +kernel
theorem dX7_copy_76 : decode cX7_copy 76 = .ok (.ifCond .lt 38, 3) := by decide +kernel
theorem dX7_copy_79 : decode cX7_copy 79 = .ok (.iload_n 2, 1) := by decide +kernel
theorem dX7_copy_80 : decode cX7_copy 80 = .ok (.i2l, 1) := by decide +kernel
theorem dX7_copy_81 : decode cX7_copy 81 = .ok (.iload 5, 2) := by decide +kernel
theorem dX7_copy_83 : decode cX7_copy 83 = .ok (.i2l, 1) := by decide +kernel
theorem dX7_copy_84 : decode cX7_copy 84 = .ok (.ladd, 1) := by decide +kernel
theorem dX7_copy_85 : decode cX7_copy 85 = .ok (.aload_n 0, 1) := by decide +kernel
theorem dX7_copy_86 : decode cX7_copy 86 = .ok (.getfield 46, 3) := by decide +kernel
theorem dX7_copy_89 : decode cX7_copy 89 = .ok (.iload_n 1, 1) := by decide +kernel
theorem dX7_copy_90 : decode cX7_copy 90 = .ok (.iaload, 1) := by decide +kernel
theorem dX7_copy_91 : decode cX7_copy 91 = .ok (.i2l, 1) := by decide +kernel
theorem dX7_copy_92 : decode cX7_copy 92 = .ok (.lcmp, 1) := by decide +kernel
theorem dX7_copy_93 : decode cX7_copy 93 = .ok (.ifCond .gt 21, 3) := by decide +kernel
theorem dX7_copy_96 : decode cX7_copy 96 = .ok (.iload 4, 2) := by decide +kernel
theorem dX7_copy_98 : decode cX7_copy 98 = .ok (.i2l, 1) := by decide +kernel
theorem dX7_copy_99 : decode cX7_copy 99 = .ok (.iload 5, 2) := by decide +kernel
theorem dX7_copy_101 : decode cX7_copy 101 = .ok (.i2l, 1) := by decide +kernel
theorem dX7_copy_102 : decode cX7_copy 102 = .ok (.ladd, 1) := by decide +kernel
theorem dX7_copy_103 : decode cX7_copy 103 = .ok (.aload_n 0, 1) := by decide +kernel
theorem dX7_copy_104 : decode cX7_copy 104 = .ok (.getfield 46, 3) := by decide +kernel
theorem dX7_copy_107 : decode cX7_copy 107 = .ok (.iload_n 3, 1) := by decide +kernel
theorem dX7_copy_108 : decode cX7_copy 108 = .ok (.iaload, 1) := by decide +kernel
theorem dX7_copy_109 : decode cX7_copy 109 = .ok (.i2l, 1) := by decide +kernel
theorem dX7_copy_110 : decode cX7_copy 110 = .ok (.lcmp, 1) := by decide +kernel
theorem dX7_copy_111 : decode cX7_copy 111 = .ok (.ifCond .le 9, 3) := by decide +kernel
theorem dX7_copy_114 : decode cX7_copy 114 = .ok (.aload_n 0, 1) := by decide +kernel
theorem dX7_copy_115 : decode cX7_copy 115 = .ok (.iconst 0, 1) := by decide +kernel
theorem dX7_copy_116 : decode cX7_copy 116 = .ok (.invokevirtual 158, 3) := by decide +kernel
theorem dX7_copy_119 : decode cX7_copy 119 = .ok (.ireturn, 1) := by decide +kernel
theorem dX7_copy_120 : decode cX7_copy 120 = .ok (.iconst 0, 1) := by decide +kernel
theorem dX7_copy_121 : decode cX7_copy 121 = .ok (.istore 6, 2) := by decide +kernel
theorem dX7_copy_123 : decode cX7_copy 123 = .ok (.iload 6, 2) := by decide +kernel
theorem dX7_copy_125 : decode cX7_copy 125 = .ok (.iload 5, 2) := by decide +kernel
theorem dX7_copy_127 : decode cX7_copy 127 = .ok (.if_icmp .ge 27, 3) := by decide +kernel
theorem dX7_copy_130 : decode cX7_copy 130 = .ok (.aload_n 0, 1) := by decide +kernel
theorem dX7_copy_131 : decode cX7_copy 131 = .ok (.getfield 54, 3) := by decide +kernel
theorem dX7_copy_134 : decode cX7_copy 134 = .ok (.iload 6, 2) := by decide +kernel
theorem dX7_copy_136 : decode cX7_copy 136 = .ok (.aload_n 0, 1) := by decide +kernel
theorem dX7_copy_137 : decode cX7_copy 137 = .ok (.getfield 51, 3) := by decide +kernel
theorem dX7_copy_140 : decode cX7_copy 140 = .ok (.iload_n 1, 1) := by decide +kernel
theorem dX7_copy_141 : decode cX7_copy 141 = .ok (.aaload, 1) := by decide +kernel
theorem dX7_copy_142 : decode cX7_copy 142 = .ok (.iload_n 2, 1) := by decide +kernel
theorem dX7_copy_143 : decode cX7_copy 143 = .ok (.iload 6, 2) := by decide +kernel
theorem dX7_copy_145 : decode cX7_copy 145 = .ok (.iadd, 1) := by decide +kernel
theorem dX7_copy_146 : decode cX7_copy 146 = .ok (.laload, 1) := by decide +kernel
theorem dX7_copy_147 : decode cX7_copy 147 = .ok (.lastore, 1) := by decide +kernel
theorem dX7_copy_148 : decode cX7_copy 148 = .ok (.iinc 6 1, 3) := by decide +kernel
theorem dX7_copy_151 : decode cX7_copy 151 = .ok (.goto (-28), 3) := by decide +kernel
theorem dX7_copy_154 : decode cX7_copy 154 = .ok (.iconst 0, 1) := by decide +kernel
theorem dX7_copy_155 : decode cX7_copy 155 = .ok (.istore 6, 2) := by decide +kernel
theorem dX7_copy_157 : decode cX7_copy 157 = .ok (.iload 6, 2) := by decide +kernel
theorem dX7_copy_159 : decode cX7_copy 159 = .ok (.iload 5, 2) := by decide +kernel
theorem dX7_copy_161 : decode cX7_copy 161 = .ok (.if_icmp .ge 28, 3) := by decide +kernel
theorem dX7_copy_164 : decode cX7_copy 164 = .ok (.aload_n 0, 1) := by decide +kernel
theorem dX7_copy_165 : decode cX7_copy 165 = .ok (.getfield 51, 3) := by decide +kernel
theorem dX7_copy_168 : decode cX7_copy 168 = .ok (.iload_n 3, 1) := by decide +kernel
theorem dX7_copy_169 : decode cX7_copy 169 = .ok (.aaload, 1) := by decide +kernel
theorem dX7_copy_170 : decode cX7_copy 170 = .ok (.iload 4, 2) := by decide +kernel
theorem dX7_copy_172 : decode cX7_copy 172 = .ok (.iload 6, 2) := by decide +kernel
theorem dX7_copy_174 : decode cX7_copy 174 = .ok (.iadd, 1) := by decide +kernel
theorem dX7_copy_175 : decode cX7_copy 175 = .ok (.aload_n 0, 1) := by decide +kernel
theorem dX7_copy_176 : decode cX7_copy 176 = .ok (.getfield 54, 3) := by decide +kernel
theorem dX7_copy_179 : decode cX7_copy 179 = .ok (.iload 6, 2) := by decide +kernel
theorem dX7_copy_181 : decode cX7_copy 181 = .ok (.laload, 1) := by decide +kernel
theorem dX7_copy_182 : decode cX7_copy 182 = .ok (.lastore, 1) := by decide +kernel
theorem dX7_copy_183 : decode cX7_copy 183 = .ok (.iinc 6 1, 3) := by decide +kernel
theorem dX7_copy_186 : decode cX7_copy 186 = .ok (.goto (-29), 3) := by decide +kernel
theorem dX7_copy_189 : decode cX7_copy 189 = .ok (.iload 5, 2) := by decide +kernel
theorem dX7_copy_191 : decode cX7_copy 191 = .ok (.ireturn, 1) := by decide +kernel
def gX7_copy_14 (s : Mem)  : Option (Int32 × Mem) :=
  (fX7_finds s (0 : Int32)).bind (fun y2 => some ((y2.1, y2.2)))
set_option maxRecDepth 4000 in
theorem jgX7_copy_14 {X : Scr} (d : Nat) (s : Mem)  {r : (Int32 × Mem)} {w : Option Value} {s' : Mem} (hh : gX7_copy_14 s = some r) (hk : w = some (.int r.1) ∧ r.2 = s') : J X MX7_copy (d + 2) 14 [some (.ref 19), none, none, none, none, none, none] [] s w s' := by
  unfold gX7_copy_14 at hh
  refine J_aload_n (pc := 14) dX7_copy_14 rfl ?_
  refine J_iconst (pc := 15) dX7_copy_15 ci_0 ?_
  obtain ⟨y2, hy2, hh⟩ := bd_some hh
  refine J_callVi (pc := 16) (M' := MX7_finds) (a := 19) (rest := []) (As := [.int (0 : Int32)]) (L0 := [some (.ref 19), some (.int (0 : Int32))]) okX7_finds ovX7_finds mlX7_158 clX7 so19 rfl rfl (Nat.le_of_ble_eq_true rfl) dX7_copy_16 rfl (Nat.le_of_ble_eq_true rfl) (jX7_finds (X := X) (d + 1) s (0 : Int32) hy2) ?_
  obtain rfl := Option.some.inj hh
  obtain ⟨rfl, rfl⟩ := hk
  exact J_ret (w := some (.int y2.1)) ⟨dX7_copy_19, _, rfl, rfl⟩
def gX7_copy_38 (s : Mem)  : Option (Int32 × Mem) :=
  (fX7_finds s (5 : Int32)).bind (fun y5 => some ((y5.1, y5.2)))
set_option maxRecDepth 4000 in
theorem jgX7_copy_38 {X : Scr} (d : Nat) (s : Mem)  {r : (Int32 × Mem)} {w : Option Value} {s' : Mem} (hh : gX7_copy_38 s = some r) (hk : w = some (.int r.1) ∧ r.2 = s') : J X MX7_copy (d + 2) 38 [some (.ref 19), none, none, none, none, none, none] [] s w s' := by
  unfold gX7_copy_38 at hh
  refine J_aload_n (pc := 38) dX7_copy_38 rfl ?_
  refine J_iconst (pc := 39) dX7_copy_39 ci_5 ?_
  obtain ⟨y5, hy5, hh⟩ := bd_some hh
  refine J_callVi (pc := 40) (M' := MX7_finds) (a := 19) (rest := []) (As := [.int (5 : Int32)]) (L0 := [some (.ref 19), some (.int (5 : Int32))]) okX7_finds ovX7_finds mlX7_158 clX7 so19 rfl rfl (Nat.le_of_ble_eq_true rfl) dX7_copy_40 rfl (Nat.le_of_ble_eq_true rfl) (jX7_finds (X := X) (d + 1) s (5 : Int32) hy5) ?_
  obtain rfl := Option.some.inj hh
  obtain ⟨rfl, rfl⟩ := hk
  exact J_ret (w := some (.int y5.1)) ⟨dX7_copy_43, _, rfl, rfl⟩
def gX7_copy_114 (s : Mem)  : Option (Int32 × Mem) :=
  (fX7_finds s (0 : Int32)).bind (fun y9 => some ((y9.1, y9.2)))
set_option maxRecDepth 4000 in
theorem jgX7_copy_114 {X : Scr} (d : Nat) (s : Mem)  {r : (Int32 × Mem)} {w : Option Value} {s' : Mem} (hh : gX7_copy_114 s = some r) (hk : w = some (.int r.1) ∧ r.2 = s') : J X MX7_copy (d + 2) 114 [some (.ref 19), none, none, none, none, none, none] [] s w s' := by
  unfold gX7_copy_114 at hh
  refine J_aload_n (pc := 114) dX7_copy_114 rfl ?_
  refine J_iconst (pc := 115) dX7_copy_115 ci_0 ?_
  obtain ⟨y9, hy9, hh⟩ := bd_some hh
  refine J_callVi (pc := 116) (M' := MX7_finds) (a := 19) (rest := []) (As := [.int (0 : Int32)]) (L0 := [some (.ref 19), some (.int (0 : Int32))]) okX7_finds ovX7_finds mlX7_158 clX7 so19 rfl rfl (Nat.le_of_ble_eq_true rfl) dX7_copy_116 rfl (Nat.le_of_ble_eq_true rfl) (jX7_finds (X := X) (d + 1) s (0 : Int32) hy9) ?_
  obtain rfl := Option.some.inj hh
  obtain ⟨rfl, rfl⟩ := hk
  exact J_ret (w := some (.int y9.1)) ⟨dX7_copy_119, _, rfl, rfl⟩
def bX7_copy_123 (s : Mem) (v1 : Int32) (v2 : Int32) (v3 : Int32) (v4 : Int32) (v5 : Int32) (v6 : Int32) : Option (Mem ⊕ (Int32 × Mem)) :=
  if v5 ≤ v6 then some (Sum.inl s) else gd v1 4 (gd (v2 + v6) 40 (gd v6 40 (lt (upL s 32 v6.toNatClampNeg (s.2 (33 + v1.toNatClampNeg) (v2 + v6).toNatClampNeg)) (fun s15 => lt (v6 + (1 : Int32)) (fun x16 => some (Sum.inr (x16, s15)))))))
set_option maxRecDepth 4000 in
theorem jbX7_copy_123 {X : Scr} (d : Nat) (s : Mem) (v1 : Int32) (v2 : Int32) (v3 : Int32) (v4 : Int32) (v5 : Int32) (v6 : Int32) {r : (Mem ⊕ (Int32 × Mem))} {w : Option Value} {s' : Mem} (hh : bX7_copy_123 s v1 v2 v3 v4 v5 v6 = some r) (hk : Sum.elim (fun t : Mem => J X MX7_copy (d + 2) 154 [some (.ref 19), none, none, some (.int v3), some (.int v4), some (.int v5), none] [] t w s') (fun a : (Int32 × Mem) => J X MX7_copy (d + 2) 123 [some (.ref 19), some (.int v1), some (.int v2), some (.int v3), some (.int v4), some (.int v5), some (.int a.1)] [] a.2 w s') r) : J X MX7_copy (d + 2) 123 [some (.ref 19), some (.int v1), some (.int v2), some (.int v3), some (.int v4), some (.int v5), some (.int v6)] [] s w s' := by
  unfold bX7_copy_123 at hh
  refine J_iload (pc := 123) dX7_copy_123 rfl ?_
  refine J_iload (pc := 125) dX7_copy_125 rfl ?_
  refine J_icmp_ge (pc := 127) 154 dX7_copy_127 (by decide) (fun c17 => ?_) (fun c17 => ?_)
  · replace hh := (if_pos c17).symm.trans hh
    refine J_drop 1 (L' := [some (.ref 19), none, some (.int v2), some (.int v3), some (.int v4), some (.int v5), some (.int v6)]) rfl ?_
    refine J_drop 2 (L' := [some (.ref 19), none, none, some (.int v3), some (.int v4), some (.int v5), some (.int v6)]) rfl ?_
    refine J_drop 6 (L' := [some (.ref 19), none, none, some (.int v3), some (.int v4), some (.int v5), none]) rfl ?_
    obtain rfl := Option.some.inj hh
    exact hk
  · replace hh := (if_neg c17).symm.trans hh
    refine J_aload_n (pc := 130) dX7_copy_130 rfl ?_
    refine J_getR (pc := 131) (k := 28) flX7_54 so19 fk19_28 dX7_copy_131 ?_
    refine J_iload (pc := 134) dX7_copy_134 rfl ?_
    refine J_aload_n (pc := 136) dX7_copy_136 rfl ?_
    refine J_getR (pc := 137) (k := 27) flX7_51 so19 fk19_27 dX7_copy_137 ?_
    refine J_iload_n (pc := 140) dX7_copy_140 rfl ?_
    obtain ⟨h12, hh⟩ := gd_some hh
    refine J_aald (pc := 141) dX7_copy_141 (Or.inr rfl) sa31 h12 ?_
    refine J_iload_n (pc := 142) dX7_copy_142 rfl ?_
    refine J_iload (pc := 143) dX7_copy_143 rfl ?_
    refine J_iadd (pc := 145) dX7_copy_145 ?_
    obtain ⟨h13, hh⟩ := gd_some hh
    refine J_lald (pc := 146) dX7_copy_146 (sh_cells h12) h13 ?_
    obtain ⟨h14, hh⟩ := gd_some hh
    refine J_lastL (pc := 147) dX7_copy_147 sa32 h14 hh (fun s15 hh => ?_)
    refine J_iincL (pc := 148) (v := v6 + (1 : Int32)) (fun x16 => [some (.ref 19), some (.int v1), some (.int v2), some (.int v3), some (.int v4), some (.int v5), some (.int x16)]) dX7_copy_148 rfl rfl (Nat.le_of_ble_eq_true rfl) (congrArg _ ci_1) (fun _ => rfl) hh (fun x16 hh => ?_)
    refine J_goto (pc := 151) 123 dX7_copy_151 (by decide) ?_
    obtain rfl := Option.some.inj hh
    exact hk
def bX7_copy_157 (s : Mem) (v3 : Int32) (v4 : Int32) (v5 : Int32) (v6 : Int32) : Option (Mem ⊕ (Int32 × Mem)) :=
  if v5 ≤ v6 then some (Sum.inl s) else gd v3 4 (gd v6 40 (gd (v4 + v6) 40 (lt (upL s (33 + v3.toNatClampNeg) (v4 + v6).toNatClampNeg (s.2 32 v6.toNatClampNeg)) (fun s22 => lt (v6 + (1 : Int32)) (fun x23 => some (Sum.inr (x23, s22)))))))
set_option maxRecDepth 4000 in
theorem jbX7_copy_157 {X : Scr} (d : Nat) (s : Mem) (v3 : Int32) (v4 : Int32) (v5 : Int32) (v6 : Int32) {r : (Mem ⊕ (Int32 × Mem))} {w : Option Value} {s' : Mem} (hh : bX7_copy_157 s v3 v4 v5 v6 = some r) (hk : Sum.elim (fun t : Mem => J X MX7_copy (d + 2) 189 [none, none, none, none, none, some (.int v5), none] [] t w s') (fun a : (Int32 × Mem) => J X MX7_copy (d + 2) 157 [some (.ref 19), none, none, some (.int v3), some (.int v4), some (.int v5), some (.int a.1)] [] a.2 w s') r) : J X MX7_copy (d + 2) 157 [some (.ref 19), none, none, some (.int v3), some (.int v4), some (.int v5), some (.int v6)] [] s w s' := by
  unfold bX7_copy_157 at hh
  refine J_iload (pc := 157) dX7_copy_157 rfl ?_
  refine J_iload (pc := 159) dX7_copy_159 rfl ?_
  refine J_icmp_ge (pc := 161) 189 dX7_copy_161 (by decide) (fun c24 => ?_) (fun c24 => ?_)
  · replace hh := (if_pos c24).symm.trans hh
    refine J_drop 0 (L' := [none, none, none, some (.int v3), some (.int v4), some (.int v5), some (.int v6)]) rfl ?_
    refine J_drop 3 (L' := [none, none, none, none, some (.int v4), some (.int v5), some (.int v6)]) rfl ?_
    refine J_drop 4 (L' := [none, none, none, none, none, some (.int v5), some (.int v6)]) rfl ?_
    refine J_drop 6 (L' := [none, none, none, none, none, some (.int v5), none]) rfl ?_
    obtain rfl := Option.some.inj hh
    exact hk
  · replace hh := (if_neg c24).symm.trans hh
    refine J_aload_n (pc := 164) dX7_copy_164 rfl ?_
    refine J_getR (pc := 165) (k := 27) flX7_51 so19 fk19_27 dX7_copy_165 ?_
    refine J_iload_n (pc := 168) dX7_copy_168 rfl ?_
    obtain ⟨h19, hh⟩ := gd_some hh
    refine J_aald (pc := 169) dX7_copy_169 (Or.inr rfl) sa31 h19 ?_
    refine J_iload (pc := 170) dX7_copy_170 rfl ?_
    refine J_iload (pc := 172) dX7_copy_172 rfl ?_
    refine J_iadd (pc := 174) dX7_copy_174 ?_
    refine J_aload_n (pc := 175) dX7_copy_175 rfl ?_
    refine J_getR (pc := 176) (k := 28) flX7_54 so19 fk19_28 dX7_copy_176 ?_
    refine J_iload (pc := 179) dX7_copy_179 rfl ?_
    obtain ⟨h20, hh⟩ := gd_some hh
    refine J_lald (pc := 181) dX7_copy_181 sa32 h20 ?_
    obtain ⟨h21, hh⟩ := gd_some hh
    refine J_lastL (pc := 182) dX7_copy_182 (sh_cells h19) h21 hh (fun s22 hh => ?_)
    refine J_iincL (pc := 183) (v := v6 + (1 : Int32)) (fun x23 => [some (.ref 19), none, none, some (.int v3), some (.int v4), some (.int v5), some (.int x23)]) dX7_copy_183 rfl rfl (Nat.le_of_ble_eq_true rfl) (congrArg _ ci_1) (fun _ => rfl) hh (fun x23 hh => ?_)
    refine J_goto (pc := 186) 157 dX7_copy_186 (by decide) ?_
    obtain rfl := Option.some.inj hh
    exact hk
def fX7_copy (s : Mem) (p0 : Int32) (p1 : Int32) (p2 : Int32) (p3 : Int32) (p4 : Int32) : Option (Int32 × Mem) :=
  (fX7_isSheet p0).bind (fun y1 => if y1 = (0 : Int32) then gX7_copy_14 s else (fX7_isSheet p2).bind (fun y3 => if y3 = (0 : Int32) then gX7_copy_14 s else gd p0 4 (if (s.1 29 p0.toNatClampNeg) < (0 : Int32) then gX7_copy_38 s else gd p2 4 (if (0 : Int32) ≤ (s.1 29 p2.toNatClampNeg) then gd p0 4 (gd p2 4 (if (s.1 29 p0.toNatClampNeg) = (s.1 29 p2.toNatClampNeg) then if p1 < (0 : Int32) then gX7_copy_114 s else if p3 < (0 : Int32) then gX7_copy_114 s else if p4 < (0 : Int32) then gX7_copy_114 s else gd p0 4 (if (0 : Int32) < (lg_cmp ((p1.toInt64) + (p4.toInt64)) ((s.1 30 p0.toNatClampNeg).toInt64)) then gX7_copy_114 s else gd p2 4 (if (lg_cmp ((p3.toInt64) + (p4.toInt64)) ((s.1 30 p2.toNatClampNeg).toInt64)) ≤ (0 : Int32) then (lp (fun a => bX7_copy_123 a.2 p0 p1 p2 p3 p4 a.1) 600 ((0 : Int32), s)).bind (fun y18 => (lp (fun a => bX7_copy_157 a.2 p2 p3 p4 a.1) 600 ((0 : Int32), y18)).bind (fun y25 => some ((p4, y25)))) else gX7_copy_114 s)) else (fX7_finds s (2 : Int32)).bind (fun y31 => some ((y31.1, y31.2))))) else gX7_copy_38 s))))
set_option maxRecDepth 4000 in
theorem jjX7_copy {X : Scr} (d : Nat) (s : Mem) (p0 : Int32) (p1 : Int32) (p2 : Int32) (p3 : Int32) (p4 : Int32) {r : (Int32 × Mem)} {w : Option Value} {s' : Mem} (hh : fX7_copy s p0 p1 p2 p3 p4 = some r) (hk : w = some (.int r.1) ∧ r.2 = s') : J X MX7_copy (d + 2) 0 [some (.ref 19), some (.int p0), some (.int p1), some (.int p2), some (.int p3), some (.int p4), none] [] s w s' := by
  unfold fX7_copy at hh
  refine J_iload_n (pc := 0) dX7_copy_0 rfl ?_
  obtain ⟨y1, hy1, hh⟩ := bd_some hh
  refine J_callSi (pc := 1) (M' := MX7_isSheet) (rest := []) (As := [.int p0]) (L0 := [some (.int p0)]) okX7_isSheet osX7_isSheet mlX7_297 rfl rfl (Nat.le_of_ble_eq_true rfl) dX7_copy_1 rfl (Nat.le_of_ble_eq_true rfl) (jX7_isSheet (X := X) d s p0 hy1) ?_
  refine J_if_eq (pc := 4) 14 dX7_copy_4 (by decide) (fun c36 => ?_) (fun c36 => ?_)
  · replace hh := (if_pos c36).symm.trans hh
    refine J_drop 1 (L' := [some (.ref 19), none, some (.int p1), some (.int p2), some (.int p3), some (.int p4), none]) rfl ?_
    refine J_drop 2 (L' := [some (.ref 19), none, none, some (.int p2), some (.int p3), some (.int p4), none]) rfl ?_
    refine J_drop 3 (L' := [some (.ref 19), none, none, none, some (.int p3), some (.int p4), none]) rfl ?_
    refine J_drop 4 (L' := [some (.ref 19), none, none, none, none, some (.int p4), none]) rfl ?_
    refine J_drop 5 (L' := [some (.ref 19), none, none, none, none, none, none]) rfl ?_
    exact jgX7_copy_14 d s hh hk
  · replace hh := (if_neg c36).symm.trans hh
    refine J_iload_n (pc := 7) dX7_copy_7 rfl ?_
    obtain ⟨y3, hy3, hh⟩ := bd_some hh
    refine J_callSi (pc := 8) (M' := MX7_isSheet) (rest := []) (As := [.int p2]) (L0 := [some (.int p2)]) okX7_isSheet osX7_isSheet mlX7_297 rfl rfl (Nat.le_of_ble_eq_true rfl) dX7_copy_8 rfl (Nat.le_of_ble_eq_true rfl) (jX7_isSheet (X := X) d s p2 hy3) ?_
    refine J_if_ne (pc := 11) 20 dX7_copy_11 (by decide) (fun c35 => ?_) (fun c35 => ?_)
    · replace hh := (if_neg c35).symm.trans hh
      refine J_aload_n (pc := 20) dX7_copy_20 rfl ?_
      refine J_getR (pc := 21) (k := 25) flX7_43 so19 fk19_25 dX7_copy_21 ?_
      refine J_iload_n (pc := 24) dX7_copy_24 rfl ?_
      obtain ⟨h4, hh⟩ := gd_some hh
      refine J_iald (pc := 25) dX7_copy_25 sa29 h4 ?_
      refine J_if_lt (pc := 26) 38 dX7_copy_26 (by decide) (fun c34 => ?_) (fun c34 => ?_)
      · replace hh := (if_pos c34).symm.trans hh
        refine J_drop 1 (L' := [some (.ref 19), none, some (.int p1), some (.int p2), some (.int p3), some (.int p4), none]) rfl ?_
        refine J_drop 2 (L' := [some (.ref 19), none, none, some (.int p2), some (.int p3), some (.int p4), none]) rfl ?_
        refine J_drop 3 (L' := [some (.ref 19), none, none, none, some (.int p3), some (.int p4), none]) rfl ?_
        refine J_drop 4 (L' := [some (.ref 19), none, none, none, none, some (.int p4), none]) rfl ?_
        refine J_drop 5 (L' := [some (.ref 19), none, none, none, none, none, none]) rfl ?_
        exact jgX7_copy_38 d s hh hk
      · replace hh := (if_neg c34).symm.trans hh
        refine J_aload_n (pc := 29) dX7_copy_29 rfl ?_
        refine J_getR (pc := 30) (k := 25) flX7_43 so19 fk19_25 dX7_copy_30 ?_
        refine J_iload_n (pc := 33) dX7_copy_33 rfl ?_
        obtain ⟨h6, hh⟩ := gd_some hh
        refine J_iald (pc := 34) dX7_copy_34 sa29 h6 ?_
        refine J_if_ge (pc := 35) 44 dX7_copy_35 (by decide) (fun c33 => ?_) (fun c33 => ?_)
        · replace hh := (if_pos c33).symm.trans hh
          refine J_aload_n (pc := 44) dX7_copy_44 rfl ?_
          refine J_getR (pc := 45) (k := 25) flX7_43 so19 fk19_25 dX7_copy_45 ?_
          refine J_iload_n (pc := 48) dX7_copy_48 rfl ?_
          obtain ⟨h7, hh⟩ := gd_some hh
          refine J_iald (pc := 49) dX7_copy_49 sa29 h7 ?_
          refine J_aload_n (pc := 50) dX7_copy_50 rfl ?_
          refine J_getR (pc := 51) (k := 25) flX7_43 so19 fk19_25 dX7_copy_51 ?_
          refine J_iload_n (pc := 54) dX7_copy_54 rfl ?_
          obtain ⟨h8, hh⟩ := gd_some hh
          refine J_iald (pc := 55) dX7_copy_55 sa29 h8 ?_
          refine J_icmp_eq (pc := 56) 65 dX7_copy_56 (by decide) (fun c32 => ?_) (fun c32 => ?_)
          · replace hh := (if_pos c32).symm.trans hh
            refine J_iload_n (pc := 65) dX7_copy_65 rfl ?_
            refine J_if_lt (pc := 66) 114 dX7_copy_66 (by decide) (fun c30 => ?_) (fun c30 => ?_)
            · replace hh := (if_pos c30).symm.trans hh
              refine J_drop 1 (L' := [some (.ref 19), none, some (.int p1), some (.int p2), some (.int p3), some (.int p4), none]) rfl ?_
              refine J_drop 2 (L' := [some (.ref 19), none, none, some (.int p2), some (.int p3), some (.int p4), none]) rfl ?_
              refine J_drop 3 (L' := [some (.ref 19), none, none, none, some (.int p3), some (.int p4), none]) rfl ?_
              refine J_drop 4 (L' := [some (.ref 19), none, none, none, none, some (.int p4), none]) rfl ?_
              refine J_drop 5 (L' := [some (.ref 19), none, none, none, none, none, none]) rfl ?_
              exact jgX7_copy_114 d s hh hk
            · replace hh := (if_neg c30).symm.trans hh
              refine J_iload (pc := 69) dX7_copy_69 rfl ?_
              refine J_if_lt (pc := 71) 114 dX7_copy_71 (by decide) (fun c29 => ?_) (fun c29 => ?_)
              · replace hh := (if_pos c29).symm.trans hh
                refine J_drop 1 (L' := [some (.ref 19), none, some (.int p1), some (.int p2), some (.int p3), some (.int p4), none]) rfl ?_
                refine J_drop 2 (L' := [some (.ref 19), none, none, some (.int p2), some (.int p3), some (.int p4), none]) rfl ?_
                refine J_drop 3 (L' := [some (.ref 19), none, none, none, some (.int p3), some (.int p4), none]) rfl ?_
                refine J_drop 4 (L' := [some (.ref 19), none, none, none, none, some (.int p4), none]) rfl ?_
                refine J_drop 5 (L' := [some (.ref 19), none, none, none, none, none, none]) rfl ?_
                exact jgX7_copy_114 d s hh hk
              · replace hh := (if_neg c29).symm.trans hh
                refine J_iload (pc := 74) dX7_copy_74 rfl ?_
                refine J_if_lt (pc := 76) 114 dX7_copy_76 (by decide) (fun c28 => ?_) (fun c28 => ?_)
                · replace hh := (if_pos c28).symm.trans hh
                  refine J_drop 1 (L' := [some (.ref 19), none, some (.int p1), some (.int p2), some (.int p3), some (.int p4), none]) rfl ?_
                  refine J_drop 2 (L' := [some (.ref 19), none, none, some (.int p2), some (.int p3), some (.int p4), none]) rfl ?_
                  refine J_drop 3 (L' := [some (.ref 19), none, none, none, some (.int p3), some (.int p4), none]) rfl ?_
                  refine J_drop 4 (L' := [some (.ref 19), none, none, none, none, some (.int p4), none]) rfl ?_
                  refine J_drop 5 (L' := [some (.ref 19), none, none, none, none, none, none]) rfl ?_
                  exact jgX7_copy_114 d s hh hk
                · replace hh := (if_neg c28).symm.trans hh
                  refine J_iload_n (pc := 79) dX7_copy_79 rfl ?_
                  refine J_i2l (pc := 80) dX7_copy_80 ?_
                  refine J_iload (pc := 81) dX7_copy_81 rfl ?_
                  refine J_i2l (pc := 83) dX7_copy_83 ?_
                  refine J_ladd (pc := 84) dX7_copy_84 ?_
                  refine J_aload_n (pc := 85) dX7_copy_85 rfl ?_
                  refine J_getR (pc := 86) (k := 26) flX7_46 so19 fk19_26 dX7_copy_86 ?_
                  refine J_iload_n (pc := 89) dX7_copy_89 rfl ?_
                  obtain ⟨h10, hh⟩ := gd_some hh
                  refine J_iald (pc := 90) dX7_copy_90 sa30 h10 ?_
                  refine J_i2l (pc := 91) dX7_copy_91 ?_
                  refine J_lcmp (pc := 92) dX7_copy_92 ?_
                  refine J_if_gt (pc := 93) 114 dX7_copy_93 (by decide) (fun c27 => ?_) (fun c27 => ?_)
                  · replace hh := (if_pos c27).symm.trans hh
                    refine J_drop 1 (L' := [some (.ref 19), none, some (.int p1), some (.int p2), some (.int p3), some (.int p4), none]) rfl ?_
                    refine J_drop 2 (L' := [some (.ref 19), none, none, some (.int p2), some (.int p3), some (.int p4), none]) rfl ?_
                    refine J_drop 3 (L' := [some (.ref 19), none, none, none, some (.int p3), some (.int p4), none]) rfl ?_
                    refine J_drop 4 (L' := [some (.ref 19), none, none, none, none, some (.int p4), none]) rfl ?_
                    refine J_drop 5 (L' := [some (.ref 19), none, none, none, none, none, none]) rfl ?_
                    exact jgX7_copy_114 d s hh hk
                  · replace hh := (if_neg c27).symm.trans hh
                    refine J_iload (pc := 96) dX7_copy_96 rfl ?_
                    refine J_i2l (pc := 98) dX7_copy_98 ?_
                    refine J_iload (pc := 99) dX7_copy_99 rfl ?_
                    refine J_i2l (pc := 101) dX7_copy_101 ?_
                    refine J_ladd (pc := 102) dX7_copy_102 ?_
                    refine J_aload_n (pc := 103) dX7_copy_103 rfl ?_
                    refine J_getR (pc := 104) (k := 26) flX7_46 so19 fk19_26 dX7_copy_104 ?_
                    refine J_iload_n (pc := 107) dX7_copy_107 rfl ?_
                    obtain ⟨h11, hh⟩ := gd_some hh
                    refine J_iald (pc := 108) dX7_copy_108 sa30 h11 ?_
                    refine J_i2l (pc := 109) dX7_copy_109 ?_
                    refine J_lcmp (pc := 110) dX7_copy_110 ?_
                    refine J_if_le (pc := 111) 120 dX7_copy_111 (by decide) (fun c26 => ?_) (fun c26 => ?_)
                    · replace hh := (if_pos c26).symm.trans hh
                      refine J_iconst (pc := 120) dX7_copy_120 ci_0 ?_
                      refine J_istore (pc := 121) (L' := [some (.ref 19), some (.int p0), some (.int p1), some (.int p2), some (.int p3), some (.int p4), some (.int (0 : Int32))]) dX7_copy_121 rfl (Nat.le_of_ble_eq_true rfl) rfl ?_
                      obtain ⟨y18, hy18, hh⟩ := bd_some hh
                      refine J_lp (a := ((0 : Int32), s)) (fun a : (Int32 × Mem) => J X MX7_copy (d + 2) 123 [some (.ref 19), some (.int p0), some (.int p1), some (.int p2), some (.int p3), some (.int p4), some (.int a.1)] [] a.2 w s') (fun t : Mem => J X MX7_copy (d + 2) 154 [some (.ref 19), none, none, some (.int p2), some (.int p3), some (.int p4), none] [] t w s') (fun a q h1 h2 => jbX7_copy_123 d a.2 p0 p1 p2 p3 p4 a.1 h1 h2) hy18 ?_
                      refine J_iconst (pc := 154) dX7_copy_154 ci_0 ?_
                      refine J_istore (pc := 155) (L' := [some (.ref 19), none, none, some (.int p2), some (.int p3), some (.int p4), some (.int (0 : Int32))]) dX7_copy_155 rfl (Nat.le_of_ble_eq_true rfl) rfl ?_
                      obtain ⟨y25, hy25, hh⟩ := bd_some hh
                      refine J_lp (a := ((0 : Int32), y18)) (fun a : (Int32 × Mem) => J X MX7_copy (d + 2) 157 [some (.ref 19), none, none, some (.int p2), some (.int p3), some (.int p4), some (.int a.1)] [] a.2 w s') (fun t : Mem => J X MX7_copy (d + 2) 189 [none, none, none, none, none, some (.int p4), none] [] t w s') (fun a q h1 h2 => jbX7_copy_157 d a.2 p2 p3 p4 a.1 h1 h2) hy25 ?_
                      refine J_iload (pc := 189) dX7_copy_189 rfl ?_
                      obtain rfl := Option.some.inj hh
                      obtain ⟨rfl, rfl⟩ := hk
                      exact J_ret (w := some (.int p4)) ⟨dX7_copy_191, _, rfl, rfl⟩
                    · replace hh := (if_neg c26).symm.trans hh
                      refine J_drop 1 (L' := [some (.ref 19), none, some (.int p1), some (.int p2), some (.int p3), some (.int p4), none]) rfl ?_
                      refine J_drop 2 (L' := [some (.ref 19), none, none, some (.int p2), some (.int p3), some (.int p4), none]) rfl ?_
                      refine J_drop 3 (L' := [some (.ref 19), none, none, none, some (.int p3), some (.int p4), none]) rfl ?_
                      refine J_drop 4 (L' := [some (.ref 19), none, none, none, none, some (.int p4), none]) rfl ?_
                      refine J_drop 5 (L' := [some (.ref 19), none, none, none, none, none, none]) rfl ?_
                      exact jgX7_copy_114 d s hh hk
          · replace hh := (if_neg c32).symm.trans hh
            refine J_aload_n (pc := 59) dX7_copy_59 rfl ?_
            refine J_iconst (pc := 60) dX7_copy_60 ci_2 ?_
            obtain ⟨y31, hy31, hh⟩ := bd_some hh
            refine J_callVi (pc := 61) (M' := MX7_finds) (a := 19) (rest := []) (As := [.int (2 : Int32)]) (L0 := [some (.ref 19), some (.int (2 : Int32))]) okX7_finds ovX7_finds mlX7_158 clX7 so19 rfl rfl (Nat.le_of_ble_eq_true rfl) dX7_copy_61 rfl (Nat.le_of_ble_eq_true rfl) (jX7_finds (X := X) (d + 1) s (2 : Int32) hy31) ?_
            obtain rfl := Option.some.inj hh
            obtain ⟨rfl, rfl⟩ := hk
            exact J_ret (w := some (.int y31.1)) ⟨dX7_copy_64, _, rfl, rfl⟩
        · replace hh := (if_neg c33).symm.trans hh
          refine J_drop 1 (L' := [some (.ref 19), none, some (.int p1), some (.int p2), some (.int p3), some (.int p4), none]) rfl ?_
          refine J_drop 2 (L' := [some (.ref 19), none, none, some (.int p2), some (.int p3), some (.int p4), none]) rfl ?_
          refine J_drop 3 (L' := [some (.ref 19), none, none, none, some (.int p3), some (.int p4), none]) rfl ?_
          refine J_drop 4 (L' := [some (.ref 19), none, none, none, none, some (.int p4), none]) rfl ?_
          refine J_drop 5 (L' := [some (.ref 19), none, none, none, none, none, none]) rfl ?_
          exact jgX7_copy_38 d s hh hk
    · replace hh := (if_pos c35).symm.trans hh
      refine J_drop 1 (L' := [some (.ref 19), none, some (.int p1), some (.int p2), some (.int p3), some (.int p4), none]) rfl ?_
      refine J_drop 2 (L' := [some (.ref 19), none, none, some (.int p2), some (.int p3), some (.int p4), none]) rfl ?_
      refine J_drop 3 (L' := [some (.ref 19), none, none, none, some (.int p3), some (.int p4), none]) rfl ?_
      refine J_drop 4 (L' := [some (.ref 19), none, none, none, none, some (.int p4), none]) rfl ?_
      refine J_drop 5 (L' := [some (.ref 19), none, none, none, none, none, none]) rfl ?_
      exact jgX7_copy_14 d s hh hk
theorem jX7_copy {X : Scr} (d : Nat) (s : Mem) (p0 : Int32) (p1 : Int32) (p2 : Int32) (p3 : Int32) (p4 : Int32) {r : (Int32 × Mem)} (hh : fX7_copy s p0 p1 p2 p3 p4 = some r) : J X MX7_copy (d + 2) 0 [some (.ref 19), some (.int p0), some (.int p1), some (.int p2), some (.int p3), some (.int p4), none] [] s (some (.int r.1)) r.2 := jjX7_copy d s p0 p1 p2 p3 p4 hh ⟨rfl, rfl⟩
