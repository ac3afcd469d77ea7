theorem dX7_finds_0 : decode cX7_finds 0 = .ok (.aload_n 0, 1) := by decide +kernel
theorem dX7_finds_1 : decode cX7_finds 1 = .ok (.getfield 22, 3) := by decide +kernel
theorem dX7_finds_4 : decode cX7_finds 4 = .ok (.iload_n 1, 1) := by decide +kernel
theorem dX7_finds_5 : decode cX7_finds 5 = .ok (.dup2, 1) := by decide +kernel
theorem dX7_finds_6 : decode cX7_finds 6 = .ok (.iaload, 1) := by decide +kernel
theorem dX7_finds_7 : decode cX7_finds 7 = .ok (.iconst 1, 1) := by decide +kernel
theorem dX7_finds_8 : decode cX7_finds 8 = .ok (.iadd, 1) := by decide +kernel
theorem dX7_finds_9 : decode cX7_finds 9 = .ok (.iastore, 1) := by decide +kernel
theorem dX7_finds_10 : decode cX7_finds 10 = .ok (.ldc 58, 2) := by decide +kernel
theorem dX7_finds_12 : decode cX7_finds 12 = .ok (.iload_n 1, 1) := by decide +kernel
theorem dX7_finds_13 : decode cX7_finds 13 = .ok (.isub, 1) := by decide +kernel
theorem dX7_finds_14 : decode cX7_finds 14 = .ok (.ireturn, 1) := by decide +kernel
def fX7_finds (s : Mem) (p0 : Int32) : Option (Int32 × Mem) :=
  gd p0 8 (gd p0 8 (lt (up2 s 22 p0.toNatClampNeg ((s.1 22 p0.toNatClampNeg) + (1 : Int32))) (fun s3 => some (((-1000001 : Int32) - p0, s3)))))
set_option maxRecDepth 4000 in
theorem jjX7_finds {X : Scr} (d : Nat) (s : Mem) (p0 : Int32) {r : (Int32 × Mem)} {w : Option Value} {s' : Mem} (hh : fX7_finds s p0 = some r) (hk : w = some (.int r.1) ∧ r.2 = s') : J X MX7_finds (d + 0) 0 [some (.ref 19), some (.int p0)] [] s w s' := by
  unfold fX7_finds at hh
  refine J_aload_n (pc := 0) dX7_finds_0 rfl ?_
  refine J_getR (pc := 1) (k := 5) flX7_22 so19 fk19_5 dX7_finds_1 ?_
  refine J_iload_n (pc := 4) dX7_finds_4 rfl ?_
  refine J_dup2 (pc := 5) dX7_finds_5 rfl rfl ?_
  obtain ⟨h1, hh⟩ := gd_some hh
  refine J_iald (pc := 6) dX7_finds_6 sa22 h1 ?_
  refine J_iconst (pc := 7) dX7_finds_7 ci_1 ?_
  refine J_iadd (pc := 8) dX7_finds_8 ?_
  obtain ⟨h2, hh⟩ := gd_some hh
  refine J_iastL (pc := 9) dX7_finds_9 sa22 h2 hh (fun s3 hh => ?_)
  refine J_ldc (pc := 10) kcX7_58 dX7_finds_10 ?_
  refine J_iload_n (pc := 12) dX7_finds_12 rfl ?_
  refine J_isub (pc := 13) dX7_finds_13 ?_
  obtain rfl := Option.some.inj hh
  obtain ⟨rfl, rfl⟩ := hk
  exact J_ret (w := some (.int ((-1000001 : Int32) - p0))) ⟨dX7_finds_14, _, rfl, rfl⟩
theorem jX7_finds {X : Scr} (d : Nat) (s : Mem) (p0 : Int32) {r : (Int32 × Mem)} (hh : fX7_finds s p0 = some r) : J X MX7_finds (d + 0) 0 [some (.ref 19), some (.int p0)] [] s (some (.int r.1)) r.2 := jjX7_finds d s p0 hh ⟨rfl, rfl⟩
theorem dX7_findsLong_0 : decode cX7_findsLong 0 = .ok (.aload_n 0, 1) := by decide +kernel
theorem dX7_findsLong_1 : decode cX7_findsLong 1 = .ok (.getfield 22, 3) := by decide +kernel
theorem dX7_findsLong_4 : decode cX7_findsLong 4 = .ok (.iload_n 1, 1) := by decide +kernel
theorem dX7_findsLong_5 : decode cX7_findsLong 5 = .ok (.dup2, 1) := by decide +kernel
theorem dX7_findsLong_6 : decode cX7_findsLong 6 = .ok (.iaload, 1) := by decide +kernel
theorem dX7_findsLong_7 : decode cX7_findsLong 7 = .ok (.iconst 1, 1) := by decide +kernel
theorem dX7_findsLong_8 : decode cX7_findsLong 8 = .ok (.iadd, 1) := by decide +kernel
theorem dX7_findsLong_9 : decode cX7_findsLong 9 = .ok (.iastore, 1) := by decide +kernel
theorem dX7_findsLong_10 : decode cX7_findsLong 10 = .ok (.ldc2_w 59, 3) := by decide +kernel
theorem dX7_findsLong_13 : decode cX7_findsLong 13 = .ok (.iload_n 1, 1) := by decide +kernel
theorem dX7_findsLong_14 : decode cX7_findsLong 14 = .ok (.i2l, 1) := by decide +kernel
theorem dX7_findsLong_15 : decode cX7_findsLong 15 = .ok (.lsub, 1) := by decide +kernel
theorem dX7_findsLong_16 : decode cX7_findsLong 16 = .ok (.lreturn, 1) := by decide +kernel
def fX7_findsLong (s : Mem) (p0 : Int32) : Option (Int64 × Mem) :=
  gd p0 8 (gd p0 8 (lt (up2 s 22 p0.toNatClampNeg ((s.1 22 p0.toNatClampNeg) + (1 : Int32))) (fun s3 => some (((-1000000000000000001 : Int64) - (p0.toInt64), s3)))))
set_option maxRecDepth 4000 in
theorem jjX7_findsLong {X : Scr} (d : Nat) (s : Mem) (p0 : Int32) {r : (Int64 × Mem)} {w : Option Value} {s' : Mem} (hh : fX7_findsLong s p0 = some r) (hk : w = some (.long r.1) ∧ r.2 = s') : J X MX7_findsLong (d + 0) 0 [some (.ref 19), some (.int p0)] [] s w s' := by
  unfold fX7_findsLong at hh
  refine J_aload_n (pc := 0) dX7_findsLong_0 rfl ?_
  refine J_getR (pc := 1) (k := 5) flX7_22 so19 fk19_5 dX7_findsLong_1 ?_
  refine J_iload_n (pc := 4) dX7_findsLong_4 rfl ?_
  refine J_dup2 (pc := 5) dX7_findsLong_5 rfl rfl ?_
  obtain ⟨h1, hh⟩ := gd_some hh
  refine J_iald (pc := 6) dX7_findsLong_6 sa22 h1 ?_
  refine J_iconst (pc := 7) dX7_findsLong_7 ci_1 ?_
  refine J_iadd (pc := 8) dX7_findsLong_8 ?_
  obtain ⟨h2, hh⟩ := gd_some hh
  refine J_iastL (pc := 9) dX7_findsLong_9 sa22 h2 hh (fun s3 hh => ?_)
  refine J_ldc2 (pc := 10) klX7_59 dX7_findsLong_10 ?_
  refine J_iload_n (pc := 13) dX7_findsLong_13 rfl ?_
  refine J_i2l (pc := 14) dX7_findsLong_14 ?_
  refine J_lsub (pc := 15) dX7_findsLong_15 ?_
  obtain rfl := Option.some.inj hh
  obtain ⟨rfl, rfl⟩ := hk
  exact J_ret (w := some (.long ((-1000000000000000001 : Int64) - (p0.toInt64)))) ⟨dX7_findsLong_16, rfl⟩
theorem jX7_findsLong {X : Scr} (d : Nat) (s : Mem) (p0 : Int32) {r : (Int64 × Mem)} (hh : fX7_findsLong s p0 = some r) : J X MX7_findsLong (d + 0) 0 [some (.ref 19), some (.int p0)] [] s (some (.long r.1)) r.2 := jjX7_findsLong d s p0 hh ⟨rfl, rfl⟩
theorem dX7_in_0 : decode cX7_in 0 = .ok (.lload_n 0, 1) := by decide +kernel
theorem dX7_in_1 : decode cX7_in 1 = .ok (.lload_n 2, 1) := by decide +kernel
theorem dX7_in_2 : decode cX7_in 2 = .ok (.lcmp, 1) := by decide +kernel
theorem dX7_in_3 : decode cX7_in 3 = .ok (.ifCond .lt 14, 3) := by decide +kernel
theorem dX7_in_6 : decode cX7_in 6 = .ok (.lload_n 0, 1) := by decide +kernel
theorem dX7_in_7 : decode cX7_in 7 = .ok (.lload 4, 2) := by decide +kernel
theorem dX7_in_9 : decode cX7_in 9 = .ok (.lcmp, 1) := by decide +kernel
theorem dX7_in_10 : decode cX7_in 10 = .ok (.ifCond .gt 7, 3) := by decide +kernel
theorem dX7_in_13 : decode cX7_in 13 = .ok (.iconst 1, 1) := by decide +kernel
theorem dX7_in_14 : decode cX7_in 14 = .ok (.goto 4, 3) := by decide +kernel
theorem dX7_in_17 : decode cX7_in 17 = .ok (.iconst 0, 1) := by decide +kernel
theorem dX7_in_18 : decode cX7_in 18 = .ok (.ireturn, 1) := by decide +kernel
def fX7_in (p0 : Int64) (p1 : Int64) (p2 : Int64) : Option Int32 :=
  if (lg_cmp p0 p1) < (0 : Int32) then some (0 : Int32) else if (0 : Int32) < (lg_cmp p0 p2) then some (0 : Int32) else some (1 : Int32)
set_option maxRecDepth 4000 in
theorem jjX7_in {X : Scr} (d : Nat) {s : Mem} (p0 : Int64) (p1 : Int64) (p2 : Int64) {r : Int32} {w : Option Value} {s' : Mem} (hh : fX7_in p0 p1 p2 = some r) (hk : w = some (.int r) ∧ s = s') : J X MX7_in (d + 0) 0 [some (.long p0), none, some (.long p1), none, some (.long p2), none] [] s w s' := by
  unfold fX7_in at hh
  refine J_lload_n (pc := 0) dX7_in_0 rfl ?_
  refine J_lload_n (pc := 1) dX7_in_1 rfl ?_
  refine J_lcmp (pc := 2) dX7_in_2 ?_
  refine J_if_lt (pc := 3) 17 dX7_in_3 (by decide) (fun c2 => ?_) (fun c2 => ?_)
  · replace hh := (if_pos c2).symm.trans hh
    refine J_iconst (pc := 17) dX7_in_17 ci_0 ?_
    obtain rfl := Option.some.inj hh
    obtain ⟨rfl, rfl⟩ := hk
    exact J_ret (w := some (.int (0 : Int32))) ⟨dX7_in_18, _, rfl, rfl⟩
  · replace hh := (if_neg c2).symm.trans hh
    refine J_lload_n (pc := 6) dX7_in_6 rfl ?_
    refine J_lload (pc := 7) dX7_in_7 rfl ?_
    refine J_lcmp (pc := 9) dX7_in_9 ?_
    refine J_if_gt (pc := 10) 17 dX7_in_10 (by decide) (fun c1 => ?_) (fun c1 => ?_)
    · replace hh := (if_pos c1).symm.trans hh
      refine J_iconst (pc := 17) dX7_in_17 ci_0 ?_
      obtain rfl := Option.some.inj hh
      obtain ⟨rfl, rfl⟩ := hk
      exact J_ret (w := some (.int (0 : Int32))) ⟨dX7_in_18, _, rfl, rfl⟩
    · replace hh := (if_neg c1).symm.trans hh
      refine J_iconst (pc := 13) dX7_in_13 ci_1 ?_
      refine J_goto (pc := 14) 18 dX7_in_14 (by decide) ?_
      obtain rfl := Option.some.inj hh
      obtain ⟨rfl, rfl⟩ := hk
      exact J_ret (w := some (.int (1 : Int32))) ⟨dX7_in_18, _, rfl, rfl⟩
theorem jX7_in {X : Scr} (d : Nat) (s : Mem) (p0 : Int64) (p1 : Int64) (p2 : Int64) {r : Int32} (hh : fX7_in p0 p1 p2 = some r) : J X MX7_in (d + 0) 0 [some (.long p0), none, some (.long p1), none, some (.long p2), none] [] s (some (.int r)) s := jjX7_in d p0 p1 p2 hh ⟨rfl, rfl⟩
theorem dX7_has_0 : decode cX7_has 0 = .ok (.iload_n 0, 1) := by decide +kernel
theorem dX7_has_1 : decode cX7_has 1 = .ok (.iload_n 1, 1) := by decide +kernel
theorem dX7_has_2 : decode cX7_has 2 = .ok (.ishr, 1) := by decide +kernel
theorem dX7_has_3 : decode cX7_has 3 = .ok (.iconst 1, 1) := by decide +kernel
theorem dX7_has_4 : decode cX7_has 4 = .ok (.iand, 1) := by decide +kernel
theorem dX7_has_5 : decode cX7_has 5 = .ok (.iconst 1, 1) := by decide +kernel
theorem dX7_has_6 : decode cX7_has 6 = .ok (.if_icmp .ne 7, 3) := by decide +kernel
theorem dX7_has_9 : decode cX7_has 9 = .ok (.iconst 1, 1) := by decide +kernel
theorem dX7_has_10 : decode cX7_has 10 = .ok (.goto 4, 3) := by decide +kernel
theorem dX7_has_13 : decode cX7_has 13 = .ok (.iconst 0, 1) := by decide +kernel
theorem dX7_has_14 : decode cX7_has 14 = .ok (.ireturn, 1) := by decide +kernel
def fX7_has (p0 : Int32) (p1 : Int32) : Option Int32 :=
  if ((p0 >>> (p1 &&& 31)) &&& (1 : Int32)) = (1 : Int32) then some (1 : Int32) else some (0 : Int32)
set_option maxRecDepth 4000 in
theorem jjX7_has {X : Scr} (d : Nat) {s : Mem} (p0 : Int32) (p1 : Int32) {r : Int32} {w : Option Value} {s' : Mem} (hh : fX7_has p0 p1 = some r) (hk : w = some (.int r) ∧ s = s') : J X MX7_has (d + 0) 0 [some (.int p0), some (.int p1)] [] s w s' := by
  unfold fX7_has at hh
  refine J_iload_n (pc := 0) dX7_has_0 rfl ?_
  refine J_iload_n (pc := 1) dX7_has_1 rfl ?_
  refine J_ishr (pc := 2) dX7_has_2 ?_
  refine J_iconst (pc := 3) dX7_has_3 ci_1 ?_
  refine J_iand (pc := 4) dX7_has_4 ?_
  refine J_iconst (pc := 5) dX7_has_5 ci_1 ?_
  refine J_icmp_ne (pc := 6) 13 dX7_has_6 (by decide) (fun c1 => ?_) (fun c1 => ?_)
  · replace hh := (if_neg c1).symm.trans hh
    refine J_iconst (pc := 13) dX7_has_13 ci_0 ?_
    obtain rfl := Option.some.inj hh
    obtain ⟨rfl, rfl⟩ := hk
    exact J_ret (w := some (.int (0 : Int32))) ⟨dX7_has_14, _, rfl, rfl⟩
  · replace hh := (if_pos c1).symm.trans hh
    refine J_iconst (pc := 9) dX7_has_9 ci_1 ?_
    refine J_goto (pc := 10) 14 dX7_has_10 (by decide) ?_
    obtain rfl := Option.some.inj hh
    obtain ⟨rfl, rfl⟩ := hk
    exact J_ret (w := some (.int (1 : Int32))) ⟨dX7_has_14, _, rfl, rfl⟩
theorem jX7_has {X : Scr} (d : Nat) (s : Mem) (p0 : Int32) (p1 : Int32) {r : Int32} (hh : fX7_has p0 p1 = some r) : J X MX7_has (d + 0) 0 [some (.int p0), some (.int p1)] [] s (some (.int r)) s := jjX7_has d p0 p1 hh ⟨rfl, rfl⟩
theorem dX7_bits_0 : decode cX7_bits 0 = .ok (.iconst 0, 1) := by decide +kernel
theorem dX7_bits_1 : decode cX7_bits 1 = .ok (.istore_n 1, 1) := by decide +kernel
theorem dX7_bits_2 : decode cX7_bits 2 = .ok (.iconst 0, 1) := by decide +kernel
theorem dX7_bits_3 : decode cX7_bits 3 = .ok (.istore_n 2, 1) := by decide +kernel
theorem dX7_bits_4 : decode cX7_bits 4 = .ok (.iload_n 2, 1) := by decide +kernel
theorem dX7_bits_5 : decode cX7_bits 5 = .ok (.bipush 20, 2) := by decide +kernel
theorem dX7_bits_7 : decode cX7_bits 7 = .ok (.if_icmp .ge 17, 3) := by decide +kernel
theorem dX7_bits_10 : decode cX7_bits 10 = .ok (.iload_n 1, 1) := by decide +kernel
theorem dX7_bits_11 : decode cX7_bits 11 = .ok (.iload_n 0, 1) := by decide +kernel
theorem dX7_bits_12 : decode cX7_bits 12 = .ok (.iload_n 2, 1) := by decide +kernel
theorem dX7_bits_13 : decode cX7_bits 13 = .ok (.ishr, 1) := by decide +kernel
theorem dX7_bits_14 : decode cX7_bits 14 = .ok (.iconst 1, 1) := by decide +kernel
theorem dX7_bits_15 : decode cX7_bits 15 = .ok (.iand, 1) := by decide +kernel
theorem dX7_bits_16 : decode cX7_bits 16 = .ok (.iadd, 1) := by decide +kernel
theorem dX7_bits_17 : decode cX7_bits 17 = .ok (.istore_n 1, 1) := by decide +kernel
theorem dX7_bits_18 : decode cX7_bits 18 = .ok (.iinc 2 1, 3) := by decide +kernel
theorem dX7_bits_21 : decode cX7_bits 21 = .ok (.goto (-17), 3) := by decide +kernel
theorem dX7_bits_24 : decode cX7_bits 24 = .ok (.iload_n 1, 1) := by decide +kernel
theorem dX7_bits_25 : decode cX7_bits 25 = .ok (.ireturn, 1) := by decide +kernel
def bX7_bits_4 (v0 : Int32) (v1 : Int32) (v2 : Int32) : Option (Int32 ⊕ (Int32 × Int32)) :=
  if (20 : Int32) ≤ v2 then some (Sum.inl v1) else lt (v1 + ((v0 >>> (v2 &&& 31)) &&& (1 : Int32))) (fun x1 => lt (v2 + (1 : Int32)) (fun x2 => some (Sum.inr (x1, x2))))
set_option maxRecDepth 4000 in
theorem jbX7_bits_4 {X : Scr} (d : Nat) {s : Mem} (v0 : Int32) (v1 : Int32) (v2 : Int32) {r : (Int32 ⊕ (Int32 × Int32))} {w : Option Value} {s' : Mem} (hh : bX7_bits_4 v0 v1 v2 = some r) (hk : Sum.elim (fun t : Int32 => J X MX7_bits (d + 0) 24 [none, some (.int t), none] [] s w s') (fun a : (Int32 × Int32) => J X MX7_bits (d + 0) 4 [some (.int v0), some (.int a.1), some (.int a.2)] [] s w s') r) : J X MX7_bits (d + 0) 4 [some (.int v0), some (.int v1), some (.int v2)] [] s w s' := by
  unfold bX7_bits_4 at hh
  refine J_iload_n (pc := 4) dX7_bits_4 rfl ?_
  refine J_bipush (pc := 5) dX7_bits_5 cb_20 ?_
  refine J_icmp_ge (pc := 7) 24 dX7_bits_7 (by decide) (fun c3 => ?_) (fun c3 => ?_)
  · replace hh := (if_pos c3).symm.trans hh
    refine J_drop 0 (L' := [none, some (.int v1), some (.int v2)]) rfl ?_
    refine J_drop 2 (L' := [none, some (.int v1), none]) rfl ?_
    obtain rfl := Option.some.inj hh
    exact hk
  · replace hh := (if_neg c3).symm.trans hh
    refine J_iload_n (pc := 10) dX7_bits_10 rfl ?_
    refine J_iload_n (pc := 11) dX7_bits_11 rfl ?_
    refine J_iload_n (pc := 12) dX7_bits_12 rfl ?_
    refine J_ishr (pc := 13) dX7_bits_13 ?_
    refine J_iconst (pc := 14) dX7_bits_14 ci_1 ?_
    refine J_iand (pc := 15) dX7_bits_15 ?_
    refine J_iadd (pc := 16) dX7_bits_16 ?_
    refine J_istoreL_n (pc := 17) (fun x1 => [some (.int v0), some (.int x1), some (.int v2)]) dX7_bits_17 rfl (Nat.le_of_ble_eq_true rfl) (fun _ => rfl) hh (fun x1 hh => ?_)
    refine J_iincL (pc := 18) (v := v2 + (1 : Int32)) (fun x2 => [some (.int v0), some (.int x1), some (.int x2)]) dX7_bits_18 rfl rfl (Nat.le_of_ble_eq_true rfl) (congrArg _ ci_1) (fun _ => rfl) hh (fun x2 hh => ?_)
    refine J_goto (pc := 21) 4 dX7_bits_21 (by decide) ?_
    obtain rfl := Option.some.inj hh
    exact hk
def fX7_bits (p0 : Int32) : Option Int32 :=
  (lp (fun a => bX7_bits_4 p0 a.1 a.2) 600 ((0 : Int32), (0 : Int32))).bind (fun y4 => some y4)
set_option maxRecDepth 4000 in
theorem jjX7_bits {X : Scr} (d : Nat) {s : Mem} (p0 : Int32) {r : Int32} {w : Option Value} {s' : Mem} (hh : fX7_bits p0 = some r) (hk : w = some (.int r) ∧ s = s') : J X MX7_bits (d + 0) 0 [some (.int p0), none, none] [] s w s' := by
  unfold fX7_bits at hh
  refine J_iconst (pc := 0) dX7_bits_0 ci_0 ?_
  refine J_istore_n (pc := 1) (L' := [some (.int p0), some (.int (0 : Int32)), none]) dX7_bits_1 rfl (Nat.le_of_ble_eq_true rfl) rfl ?_
  refine J_iconst (pc := 2) dX7_bits_2 ci_0 ?_
  refine J_istore_n (pc := 3) (L' := [some (.int p0), some (.int (0 : Int32)), some (.int (0 : Int32))]) dX7_bits_3 rfl (Nat.le_of_ble_eq_true rfl) rfl ?_
  obtain ⟨y4, hy4, hh⟩ := bd_some hh
  refine J_lp (a := ((0 : Int32), (0 : Int32))) (fun a : (Int32 × Int32) => J X MX7_bits (d + 0) 4 [some (.int p0), some (.int a.1), some (.int a.2)] [] s w s') (fun t : Int32 => J X MX7_bits (d + 0) 24 [none, some (.int t), none] [] s w s') (fun a q h1 h2 => jbX7_bits_4 d p0 a.1 a.2 h1 h2) hy4 ?_
  refine J_iload_n (pc := 24) dX7_bits_24 rfl ?_
  obtain rfl := Option.some.inj hh
  obtain ⟨rfl, rfl⟩ := hk
  exact J_ret (w := some (.int y4)) ⟨dX7_bits_25, _, rfl, rfl⟩
theorem jX7_bits {X : Scr} (d : Nat) (s : Mem) (p0 : Int32) {r : Int32} (hh : fX7_bits p0 = some r) : J X MX7_bits (d + 0) 0 [some (.int p0), none, none] [] s (some (.int r)) s := jjX7_bits d p0 hh ⟨rfl, rfl⟩
theorem dX7_areHours_0 : decode cX7_areHours 0 = .ok (.iload_n 0, 1) := by decide +kernel
theorem dX7_areHours_1 : decode cX7_areHours 1 = .ok (.i2l, 1) := by decide +kernel
theorem dX7_areHours_2 : decode cX7_areHours 2 = .ok (.lconst 0, 1) := by decide +kernel
theorem dX7_areHours_3 : decode cX7_areHours 3 = .ok (.ldc2_w 61, 3) := by decide +kernel
theorem dX7_areHours_6 : decode cX7_areHours 6 = .ok (.invokestatic 63, 3) := by decide +kernel
theorem dX7_areHours_9 : decode cX7_areHours 9 = .ok (.ireturn, 1) := by decide +kernel
def fX7_areHours (p0 : Int32) : Option Int32 :=
  (fX7_in (p0.toInt64) (0 : Int64) (1048575 : Int64)).bind (fun y1 => gz y1 (some y1))
set_option maxRecDepth 4000 in
theorem jjX7_areHours {X : Scr} (d : Nat) {s : Mem} (p0 : Int32) {r : Int32} {w : Option Value} {s' : Mem} (hh : fX7_areHours p0 = some r) (hk : w = some (.int r) ∧ s = s') : J X MX7_areHours (d + 1) 0 [some (.int p0)] [] s w s' := by
  unfold fX7_areHours at hh
  refine J_iload_n (pc := 0) dX7_areHours_0 rfl ?_
  refine J_i2l (pc := 1) dX7_areHours_1 ?_
  refine J_lconst (pc := 2) (v := 0) dX7_areHours_2 rfl ?_
  refine J_ldc2 (pc := 3) klX7_61 dX7_areHours_3 ?_
  obtain ⟨y1, hy1, hh⟩ := bd_some hh
  refine J_callSi (pc := 6) (M' := MX7_in) (rest := []) (As := [.long (p0.toInt64), .long (0 : Int64), .long (1048575 : Int64)]) (L0 := [some (.long (p0.toInt64)), none, some (.long (0 : Int64)), none, some (.long (1048575 : Int64)), none]) okX7_in osX7_in mlX7_63 rfl rfl (Nat.le_of_ble_eq_true rfl) dX7_areHours_6 rfl (Nat.le_of_ble_eq_true rfl) (jX7_in (X := X) d s (p0.toInt64) (0 : Int64) (1048575 : Int64) hy1) ?_
  obtain ⟨hz2, hh⟩ := gz_some hh
  obtain rfl := Option.some.inj hh
  obtain ⟨rfl, rfl⟩ := hk
  exact J_ret (w := some (.int y1)) ⟨dX7_areHours_9, _, rfl, (nz_bool hz2)⟩
theorem jX7_areHours {X : Scr} (d : Nat) (s : Mem) (p0 : Int32) {r : Int32} (hh : fX7_areHours p0 = some r) : J X MX7_areHours (d + 1) 0 [some (.int p0)] [] s (some (.int r)) s := jjX7_areHours d p0 hh ⟨rfl, rfl⟩
theorem dX7_laysAside_0 : decode cX7_laysAside 0 = .ok (.iconst 0, 1) := by decide +kernel
theorem dX7_laysAside_1 : decode cX7_laysAside 1 = .ok (.istore_n 1, 1) := by decide +kernel
theorem dX7_laysAside_2 : decode cX7_laysAside 2 = .ok (.iload_n 1, 1) := by decide +kernel
theorem dX7_laysAside_3 : decode cX7_laysAside 3 = .ok (.sipush 139, 3) := by decide +kernel
theorem dX7_laysAside_6 : decode cX7_laysAside 6 = .ok (.if_icmp .ge 21, 3) := by decide +kernel
theorem dX7_laysAside_9 : decode cX7_laysAside 9 = .ok (.aload_n 0, 1) := by decide +kernel
theorem dX7_laysAside_10 : decode cX7_laysAside 10 = .ok (.getfield 25, 3) := by decide +kernel
theorem dX7_laysAside_13 : decode cX7_laysAside 13 = .ok (.iload_n 1, 1) := by decide +kernel
theorem dX7_laysAside_14 : decode cX7_laysAside 14 = .ok (.aload_n 0, 1) := by decide +kernel
theorem dX7_laysAside_15 : decode cX7_laysAside 15 = .ok (.getfield 9, 3) := by decide +kernel
theorem dX7_laysAside_18 : decode cX7_laysAside 18 = .ok (.iload_n 1, 1) := by decide +kernel
theorem dX7_laysAside_19 : decode cX7_laysAside 19 = .ok (.iaload, 1) := by decide +kernel
theorem dX7_laysAside_20 : decode cX7_laysAside 20 = .ok (.iastore, 1) := by decide +kernel
theorem dX7_laysAside_21 : decode cX7_laysAside 21 = .ok (.iinc 1 1, 3) := by decide +kernel
theorem dX7_laysAside_24 : decode cX7_laysAside 24 = .ok (.goto (-22), 3) := by decide +kernel
theorem dX7_laysAside_27 : decode cX7_laysAside 27 = .ok (.return_, 1) := by decide +kernel
def bX7_laysAside_2 (s : Mem) (v1 : Int32) : Option (Mem ⊕ (Int32 × Mem)) :=
  if (139 : Int32) ≤ v1 then some (Sum.inl s) else gd v1 139 (gd v1 139 (lt (up2 s 23 v1.toNatClampNeg (s.1 20 v1.toNatClampNeg)) (fun s3 => lt (v1 + (1 : Int32)) (fun x4 => some (Sum.inr (x4, s3))))))
set_option maxRecDepth 4000 in
theorem jbX7_laysAside_2 {X : Scr} (d : Nat) (s : Mem) (v1 : Int32) {r : (Mem ⊕ (Int32 × Mem))} {w : Option Value} {s' : Mem} (hh : bX7_laysAside_2 s v1 = some r) (hk : Sum.elim (fun t : Mem => J X MX7_laysAside (d + 0) 27 [none, none] [] t w s') (fun a : (Int32 × Mem) => J X MX7_laysAside (d + 0) 2 [some (.ref 19), some (.int a.1)] [] a.2 w s') r) : J X MX7_laysAside (d + 0) 2 [some (.ref 19), some (.int v1)] [] s w s' := by
  unfold bX7_laysAside_2 at hh
  refine J_iload_n (pc := 2) dX7_laysAside_2 rfl ?_
  refine J_sipush (pc := 3) dX7_laysAside_3 cs_139 ?_
  refine J_icmp_ge (pc := 6) 27 dX7_laysAside_6 (by decide) (fun c5 => ?_) (fun c5 => ?_)
  · replace hh := (if_pos c5).symm.trans hh
    refine J_drop 0 (L' := [none, some (.int v1)]) rfl ?_
    refine J_drop 1 (L' := [none, none]) rfl ?_
    obtain rfl := Option.some.inj hh
    exact hk
  · replace hh := (if_neg c5).symm.trans hh
    refine J_aload_n (pc := 9) dX7_laysAside_9 rfl ?_
    refine J_getR (pc := 10) (k := 6) flX7_25 so19 fk19_6 dX7_laysAside_10 ?_
    refine J_iload_n (pc := 13) dX7_laysAside_13 rfl ?_
    refine J_aload_n (pc := 14) dX7_laysAside_14 rfl ?_
    refine J_getR (pc := 15) (k := 0) flX7_9 so19 fk19_0 dX7_laysAside_15 ?_
    refine J_iload_n (pc := 18) dX7_laysAside_18 rfl ?_
    obtain ⟨h1, hh⟩ := gd_some hh
    refine J_iald (pc := 19) dX7_laysAside_19 sa20 h1 ?_
    obtain ⟨h2, hh⟩ := gd_some hh
    refine J_iastL (pc := 20) dX7_laysAside_20 sa23 h2 hh (fun s3 hh => ?_)
    refine J_iincL (pc := 21) (v := v1 + (1 : Int32)) (fun x4 => [some (.ref 19), some (.int x4)]) dX7_laysAside_21 rfl rfl (Nat.le_of_ble_eq_true rfl) (congrArg _ ci_1) (fun _ => rfl) hh (fun x4 hh => ?_)
    refine J_goto (pc := 24) 2 dX7_laysAside_24 (by decide) ?_
    obtain rfl := Option.some.inj hh
    exact hk
def fX7_laysAside (s : Mem)  : Option Mem :=
  (lp (fun a => bX7_laysAside_2 a.2 a.1) 600 ((0 : Int32), s)).bind (fun y6 => some y6)
set_option maxRecDepth 4000 in
theorem jjX7_laysAside {X : Scr} (d : Nat) (s : Mem)  {r : Mem} {w : Option Value} {s' : Mem} (hh : fX7_laysAside s = some r) (hk : w = none ∧ r = s') : J X MX7_laysAside (d + 0) 0 [some (.ref 19), none] [] s w s' := by
  unfold fX7_laysAside at hh
  refine J_iconst (pc := 0) dX7_laysAside_0 ci_0 ?_
  refine J_istore_n (pc := 1) (L' := [some (.ref 19), some (.int (0 : Int32))]) dX7_laysAside_1 rfl (Nat.le_of_ble_eq_true rfl) rfl ?_
  obtain ⟨y6, hy6, hh⟩ := bd_some hh
  refine J_lp (a := ((0 : Int32), s)) (fun a : (Int32 × Mem) => J X MX7_laysAside (d + 0) 2 [some (.ref 19), some (.int a.1)] [] a.2 w s') (fun t : Mem => J X MX7_laysAside (d + 0) 27 [none, none] [] t w s') (fun a q h1 h2 => jbX7_laysAside_2 d a.2 a.1 h1 h2) hy6 ?_
  obtain rfl := Option.some.inj hh
  obtain ⟨rfl, rfl⟩ := hk
  exact J_ret (w := none) ⟨dX7_laysAside_27, rfl⟩
theorem jX7_laysAside {X : Scr} (d : Nat) (s : Mem)  {r : Mem} (hh : fX7_laysAside s = some r) : J X MX7_laysAside (d + 0) 0 [some (.ref 19), none] [] s (none) r := jjX7_laysAside d s hh ⟨rfl, rfl⟩
theorem dX7_laysBack_0 : decode cX7_laysBack 0 = .ok (.iconst 0, 1) := by decide +kernel
theorem dX7_laysBack_1 : decode cX7_laysBack 1 = .ok (.istore_n 1, 1) := by decide +kernel
theorem dX7_laysBack_2 : decode cX7_laysBack 2 = .ok (.iload_n 1, 1) := by decide +kernel
theorem dX7_laysBack_3 : decode cX7_laysBack 3 = .ok (.sipush 139, 3) := by decide +kernel
theorem dX7_laysBack_6 : decode cX7_laysBack 6 = .ok (.if_icmp .ge 21, 3) := by decide +kernel
theorem dX7_laysBack_9 : decode cX7_laysBack 9 = .ok (.aload_n 0, 1) := by decide +kernel
theorem dX7_laysBack_10 : decode cX7_laysBack 10 = .ok (.getfield 9, 3) := by decide +kernel
theorem dX7_laysBack_13 : decode cX7_laysBack 13 = .ok (.iload_n 1, 1) := by decide +kernel
theorem dX7_laysBack_14 : decode cX7_laysBack 14 = .ok (.aload_n 0, 1) := by decide +kernel
theorem dX7_laysBack_15 : decode cX7_laysBack 15 = .ok (.getfield 25, 3) := by decide +kernel
theorem dX7_laysBack_18 : decode cX7_laysBack 18 = .ok (.iload_n 1, 1) := by decide +kernel
theorem dX7_laysBack_19 : decode cX7_laysBack 19 = .ok (.iaload, 1) := by decide +kernel
theorem dX7_laysBack_20 : decode cX7_laysBack 20 = .ok (.iastore, 1) := by decide +kernel
theorem dX7_laysBack_21 : decode cX7_laysBack 21 = .ok (.iinc 1 1, 3) := by decide +kernel
theorem dX7_laysBack_24 : decode cX7_laysBack 24 = .ok (.goto (-22), 3) := by decide +kernel
theorem dX7_laysBack_27 : decode cX7_laysBack 27 = .ok (.return_, 1) := by decide +kernel
def bX7_laysBack_2 (s : Mem) (v1 : Int32) : Option (Mem ⊕ (Int32 × Mem)) :=
  if (139 : Int32) ≤ v1 then some (Sum.inl s) else gd v1 139 (gd v1 139 (lt (up2 s 20 v1.toNatClampNeg (s.1 23 v1.toNatClampNeg)) (fun s3 => lt (v1 + (1 : Int32)) (fun x4 => some (Sum.inr (x4, s3))))))
set_option maxRecDepth 4000 in
theorem jbX7_laysBack_2 {X : Scr} (d : Nat) (s : Mem) (v1 : Int32) {r : (Mem ⊕ (Int32 × Mem))} {w : Option Value} {s' : Mem} (hh : bX7_laysBack_2 s v1 = some r) (hk : Sum.elim (fun t : Mem => J X MX7_laysBack (d + 0) 27 [none, none] [] t w s') (fun a : (Int32 × Mem) => J X MX7_laysBack (d + 0) 2 [some (.ref 19), some (.int a.1)] [] a.2 w s') r) : J X MX7_laysBack (d + 0) 2 [some (.ref 19), some (.int v1)] [] s w s' := by
  unfold bX7_laysBack_2 at hh
  refine J_iload_n (pc := 2) dX7_laysBack_2 rfl ?_
  refine J_sipush (pc := 3) dX7_laysBack_3 cs_139 ?_
  refine J_icmp_ge (pc := 6) 27 dX7_laysBack_6 (by decide) (fun c5 => ?_) (fun c5 => ?_)
  · replace hh := (if_pos c5).symm.trans hh
    refine J_drop 0 (L' := [none, some (.int v1)]) rfl ?_
    refine J_drop 1 (L' := [none, none]) rfl ?_
    obtain rfl := Option.some.inj hh
    exact hk
  · replace hh := (if_neg c5).symm.trans hh
    refine J_aload_n (pc := 9) dX7_laysBack_9 rfl ?_
    refine J_getR (pc := 10) (k := 0) flX7_9 so19 fk19_0 dX7_laysBack_10 ?_
    refine J_iload_n (pc := 13) dX7_laysBack_13 rfl ?_
    refine J_aload_n (pc := 14) dX7_laysBack_14 rfl ?_
    refine J_getR (pc := 15) (k := 6) flX7_25 so19 fk19_6 dX7_laysBack_15 ?_
    refine J_iload_n (pc := 18) dX7_laysBack_18 rfl ?_
    obtain ⟨h1, hh⟩ := gd_some hh
    refine J_iald (pc := 19) dX7_laysBack_19 sa23 h1 ?_
    obtain ⟨h2, hh⟩ := gd_some hh
    refine J_iastL (pc := 20) dX7_laysBack_20 sa20 h2 hh (fun s3 hh => ?_)
    refine J_iincL (pc := 21) (v := v1 + (1 : Int32)) (fun x4 => [some (.ref 19), some (.int x4)]) dX7_laysBack_21 rfl rfl (Nat.le_of_ble_eq_true rfl) (congrArg _ ci_1) (fun _ => rfl) hh (fun x4 hh => ?_)
    refine J_goto (pc := 24) 2 dX7_laysBack_24 (by decide) ?_
    obtain rfl := Option.some.inj hh
    exact hk
def fX7_laysBack (s : Mem)  : Option Mem :=
  (lp (fun a => bX7_laysBack_2 a.2 a.1) 600 ((0 : Int32), s)).bind (fun y6 => some y6)
set_option maxRecDepth 4000 in
theorem jjX7_laysBack {X : Scr} (d : Nat) (s : Mem)  {r : Mem} {w : Option Value} {s' : Mem} (hh : fX7_laysBack s = some r) (hk : w = none ∧ r = s') : J X MX7_laysBack (d + 0) 0 [some (.ref 19), none] [] s w s' := by
  unfold fX7_laysBack at hh
  refine J_iconst (pc := 0) dX7_laysBack_0 ci_0 ?_
  refine J_istore_n (pc := 1) (L' := [some (.ref 19), some (.int (0 : Int32))]) dX7_laysBack_1 rfl (Nat.le_of_ble_eq_true rfl) rfl ?_
  obtain ⟨y6, hy6, hh⟩ := bd_some hh
  refine J_lp (a := ((0 : Int32), s)) (fun a : (Int32 × Mem) => J X MX7_laysBack (d + 0) 2 [some (.ref 19), some (.int a.1)] [] a.2 w s') (fun t : Mem => J X MX7_laysBack (d + 0) 27 [none, none] [] t w s') (fun a q h1 h2 => jbX7_laysBack_2 d a.2 a.1 h1 h2) hy6 ?_
  obtain rfl := Option.some.inj hh
  obtain ⟨rfl, rfl⟩ := hk
  exact J_ret (w := none) ⟨dX7_laysBack_27, rfl⟩
theorem jX7_laysBack {X : Scr} (d : Nat) (s : Mem)  {r : Mem} (hh : fX7_laysBack s = some r) : J X MX7_laysBack (d + 0) 0 [some (.ref 19), none] [] s (none) r := jjX7_laysBack d s hh ⟨rfl, rfl⟩
theorem dX7_changes_0 : decode cX7_changes 0 = .ok (.aload_n 0, 1) := by decide +kernel
theorem dX7_changes_1 : decode cX7_changes 1 = .ok (.getfield 67, 3) := by decide +kernel
theorem dX7_changes_4 : decode cX7_changes 4 = .ok (.aload_n 0, 1) := by decide +kernel
theorem dX7_changes_5 : decode cX7_changes 5 = .ok (.getfield 70, 3) := by decide +kernel
theorem dX7_changes_8 : decode cX7_changes 8 = .ok (.iadd, 1) := by decide +kernel
theorem dX7_changes_9 : decode cX7_changes 9 = .ok (.bipush 30, 2) := by decide +kernel
theorem dX7_changes_11 : decode cX7_changes 11 = .ok (.irem, 1) := by decide +kernel
theorem dX7_changes_12 : decode cX7_changes 12 = .ok (.istore_n 1, 1) := by decide +kernel
theorem dX7_changes_13 : decode cX7_changes 13 = .ok (.aload_n 0, 1) := by decide +kernel
theorem dX7_changes_14 : decode cX7_changes 14 = .ok (.getfield 70, 3) := by decide +kernel
theorem dX7_changes_17 : decode cX7_changes 17 = .ok (.bipush 30, 2) := by decide +kernel
theorem dX7_changes_19 : decode cX7_changes 19 = .ok (.if_icmp .ne 19, 3) := by decide +kernel
theorem dX7_changes_22 : decode cX7_changes 22 = .ok (.aload_n 0, 1) := by decide +kernel
theorem dX7_changes_23 : decode cX7_changes 23 = .ok (.aload_n 0, 1) := by decide +kernel
theorem dX7_changes_24 : decode cX7_changes 24 = .ok (.getfield 67, 3) := by decide +kernel
theorem dX7_changes_27 : decode cX7_changes 27 = .ok (.iconst 1, 1) := by decide +kernel
theorem dX7_changes_28 : decode cX7_changes 28 = .ok (.iadd, 1) := by decide +kernel
theorem dX7_changes_29 : decode cX7_changes 29 = .ok (.bipush 30, 2) := by decide +kernel
theorem dX7_changes_31 : decode cX7_changes 31 = .ok (.irem, 1) := by decide +kernel
theorem dX7_changes_32 : decode cX7_changes 32 = .ok (.putfield 67, 3) := by decide +kernel
theorem dX7_changes_35 : decode cX7_changes 35 = .ok (.goto 13, 3) := by decide +kernel
theorem dX7_changes_38 : decode cX7_changes 38 = .ok (.aload_n 0, 1) := by decide +kernel
theorem dX7_changes_39 : decode cX7_changes 39 = .ok (.dup, 1) := by decide +kernel
theorem dX7_changes_40 : decode cX7_changes 40 = .ok (.getfield 70, 3) := by decide +kernel
theorem dX7_changes_43 : decode cX7_changes 43 = .ok (.iconst 1, 1) := by decide +kernel
theorem dX7_changes_44 : decode cX7_changes 44 = .ok (.iadd, 1) := by decide +kernel
theorem dX7_changes_45 : decode cX7_changes 45 = .ok (.putfield 70, 3) := by decide +kernel
theorem dX7_changes_48 : decode cX7_changes 48 = .ok (.iconst 0, 1) := by decide +kernel
theorem dX7_changes_49 : decode cX7_changes 49 = .ok (.istore_n 2, 1) := by decide +kernel
theorem dX7_changes_50 : decode cX7_changes 50 = .ok (.iload_n 2, 1) := by decide +kernel
theorem dX7_changes_51 : decode cX7_changes 51 = .ok (.sipush 139, 3) := by decide +kernel
theorem dX7_changes_54 : decode cX7_changes 54 = .ok (.if_icmp .ge 23, 3) := by decide +kernel
theorem dX7_changes_57 : decode cX7_changes 57 = .ok (.aload_n 0, 1) := by decide +kernel
theorem dX7_changes_58 : decode cX7_changes 58 = .ok (.getfield 15, 3) := by decide +kernel
theorem dX7_changes_61 : decode cX7_changes 61 = .ok (.iload_n 1, 1) := by decide +kernel
theorem dX7_changes_62 : decode cX7_changes 62 = .ok (.aaload, 1) := by decide +kernel
theorem dX7_changes_63 : decode cX7_changes 63 = .ok (.iload_n 2, 1) := by decide +kernel
theorem dX7_changes_64 : decode cX7_changes 64 = .ok (.aload_n 0, 1) := by decide +kernel
theorem dX7_changes_65 : decode cX7_changes 65 = .ok (.getfield 25, 3) := by decide +kernel
theorem dX7_changes_68 : decode cX7_changes 68 = .ok (.iload_n 2, 1) := by decide +kernel
theorem dX7_changes_69 : decode cX7_changes 69 = .ok (.iaload, 1) := by decide +kernel
theorem dX7_changes_70 : decode cX7_changes 70 = .ok (.iastore, 1) := by decide +kernel
theorem dX7_changes_71 : decode cX7_changes 71 = .ok (.iinc 2 1, 3) := by decide +kernel
theorem dX7_changes_74 : decode cX7_changes 74 = .ok (.goto (-24), 3) := by decide +kernel
theorem dX7_changes_77 : decode cX7_changes 77 = .ok (.return_, 1) := by decide +kernel
def bX7_changes_50 (s : Mem) (v1 : Int32) (v2 : Int32) : Option (Mem ⊕ (Int32 × Mem)) :=
  if (139 : Int32) ≤ v2 then some (Sum.inl s) else gd v1 30 (gd v2 139 (gd v2 139 (lt (up2 s (37 + v1.toNatClampNeg) v2.toNatClampNeg (s.1 23 v2.toNatClampNeg)) (fun s6 => lt (v2 + (1 : Int32)) (fun x7 => some (Sum.inr (x7, s6)))))))
set_option maxRecDepth 4000 in
theorem jbX7_changes_50 {X : Scr} (d : Nat) (s : Mem) (v1 : Int32) (v2 : Int32) {r : (Mem ⊕ (Int32 × Mem))} {w : Option Value} {s' : Mem} (hh : bX7_changes_50 s v1 v2 = some r) (hk : Sum.elim (fun t : Mem => J X MX7_changes (d + 0) 77 [none, none, none] [] t w s') (fun a : (Int32 × Mem) => J X MX7_changes (d + 0) 50 [some (.ref 19), some (.int v1), some (.int a.1)] [] a.2 w s') r) : J X MX7_changes (d + 0) 50 [some (.ref 19), some (.int v1), some (.int v2)] [] s w s' := by
  unfold bX7_changes_50 at hh
  refine J_iload_n (pc := 50) dX7_changes_50 rfl ?_
  refine J_sipush (pc := 51) dX7_changes_51 cs_139 ?_
  refine J_icmp_ge (pc := 54) 77 dX7_changes_54 (by decide) (fun c8 => ?_) (fun c8 => ?_)
  · replace hh := (if_pos c8).symm.trans hh
    refine J_drop 0 (L' := [none, some (.int v1), some (.int v2)]) rfl ?_
    refine J_drop 1 (L' := [none, none, some (.int v2)]) rfl ?_
    refine J_drop 2 (L' := [none, none, none]) rfl ?_
    obtain rfl := Option.some.inj hh
    exact hk
  · replace hh := (if_neg c8).symm.trans hh
    refine J_aload_n (pc := 57) dX7_changes_57 rfl ?_
    refine J_getR (pc := 58) (k := 1) flX7_15 so19 fk19_1 dX7_changes_58 ?_
    refine J_iload_n (pc := 61) dX7_changes_61 rfl ?_
    obtain ⟨h3, hh⟩ := gd_some hh
    refine J_aald (pc := 62) dX7_changes_62 (Or.inl rfl) sa21 h3 ?_
    refine J_iload_n (pc := 63) dX7_changes_63 rfl ?_
    refine J_aload_n (pc := 64) dX7_changes_64 rfl ?_
    refine J_getR (pc := 65) (k := 6) flX7_25 so19 fk19_6 dX7_changes_65 ?_
    refine J_iload_n (pc := 68) dX7_changes_68 rfl ?_
    obtain ⟨h4, hh⟩ := gd_some hh
    refine J_iald (pc := 69) dX7_changes_69 sa23 h4 ?_
    obtain ⟨h5, hh⟩ := gd_some hh
    refine J_iastL (pc := 70) dX7_changes_70 (sh_kept h3) h5 hh (fun s6 hh => ?_)
    refine J_iincL (pc := 71) (v := v2 + (1 : Int32)) (fun x7 => [some (.ref 19), some (.int v1), some (.int x7)]) dX7_changes_71 rfl rfl (Nat.le_of_ble_eq_true rfl) (congrArg _ ci_1) (fun _ => rfl) hh (fun x7 hh => ?_)
    refine J_goto (pc := 74) 50 dX7_changes_74 (by decide) ?_
    obtain rfl := Option.some.inj hh
    exact hk
def gX7_changes_48 (s : Mem) (v1 : Int32) : Option Mem :=
  (lp (fun a => bX7_changes_50 a.2 v1 a.1) 600 ((0 : Int32), s)).bind (fun y9 => some y9)
set_option maxRecDepth 4000 in
theorem jgX7_changes_48 {X : Scr} (d : Nat) (s : Mem) (v1 : Int32) {r : Mem} {w : Option Value} {s' : Mem} (hh : gX7_changes_48 s v1 = some r) (hk : w = none ∧ r = s') : J X MX7_changes (d + 0) 48 [some (.ref 19), some (.int v1), none] [] s w s' := by
  unfold gX7_changes_48 at hh
  refine J_iconst (pc := 48) dX7_changes_48 ci_0 ?_
  refine J_istore_n (pc := 49) (L' := [some (.ref 19), some (.int v1), some (.int (0 : Int32))]) dX7_changes_49 rfl (Nat.le_of_ble_eq_true rfl) rfl ?_
  obtain ⟨y9, hy9, hh⟩ := bd_some hh
  refine J_lp (a := ((0 : Int32), s)) (fun a : (Int32 × Mem) => J X MX7_changes (d + 0) 50 [some (.ref 19), some (.int v1), some (.int a.1)] [] a.2 w s') (fun t : Mem => J X MX7_changes (d + 0) 77 [none, none, none] [] t w s') (fun a q h1 h2 => jbX7_changes_50 d a.2 v1 a.1 h1 h2) hy9 ?_
  obtain rfl := Option.some.inj hh
  obtain ⟨rfl, rfl⟩ := hk
  exact J_ret (w := none) ⟨dX7_changes_77, rfl⟩
def fX7_changes (s : Mem)  : Option Mem :=
  lt (((s.1 19 2) + (s.1 19 3)) - ((s.1 19 2) + (s.1 19 3)) / (30 : Int32) * (30 : Int32)) (fun x1 => if (s.1 19 3) = (30 : Int32) then lt (up2 s 19 2 (((s.1 19 2) + (1 : Int32)) - ((s.1 19 2) + (1 : Int32)) / (30 : Int32) * (30 : Int32))) (fun s10 => gX7_changes_48 s10 x1) else lt (up2 s 19 3 ((s.1 19 3) + (1 : Int32))) (fun s2 => gX7_changes_48 s2 x1))
set_option maxRecDepth 4000 in
theorem jjX7_changes {X : Scr} (d : Nat) (s : Mem)  {r : Mem} {w : Option Value} {s' : Mem} (hh : fX7_changes s = some r) (hk : w = none ∧ r = s') : J X MX7_changes (d + 0) 0 [some (.ref 19), none, none] [] s w s' := by
  unfold fX7_changes at hh
  refine J_aload_n (pc := 0) dX7_changes_0 rfl ?_
  refine J_getI (pc := 1) (k := 2) flX7_67 so19 fk19_2 dX7_changes_1 ?_
  refine J_aload_n (pc := 4) dX7_changes_4 rfl ?_
  refine J_getI (pc := 5) (k := 3) flX7_70 so19 fk19_3 dX7_changes_5 ?_
  refine J_iadd (pc := 8) dX7_changes_8 ?_
  refine J_bipush (pc := 9) dX7_changes_9 cb_30 ?_
  refine J_irem (pc := 11) dX7_changes_11 (by decide) ?_
  refine J_istoreL_n (pc := 12) (fun x1 => [some (.ref 19), some (.int x1), none]) dX7_changes_12 rfl (Nat.le_of_ble_eq_true rfl) (fun _ => rfl) hh (fun x1 hh => ?_)
  refine J_aload_n (pc := 13) dX7_changes_13 rfl ?_
  refine J_getI (pc := 14) (k := 3) flX7_70 so19 fk19_3 dX7_changes_14 ?_
  refine J_bipush (pc := 17) dX7_changes_17 cb_30 ?_
  refine J_icmp_ne (pc := 19) 38 dX7_changes_19 (by decide) (fun c11 => ?_) (fun c11 => ?_)
  · replace hh := (if_neg c11).symm.trans hh
    refine J_aload_n (pc := 38) dX7_changes_38 rfl ?_
    refine J_dup (pc := 39) dX7_changes_39 rfl ?_
    refine J_getI (pc := 40) (k := 3) flX7_70 so19 fk19_3 dX7_changes_40 ?_
    refine J_iconst (pc := 43) dX7_changes_43 ci_1 ?_
    refine J_iadd (pc := 44) dX7_changes_44 ?_
    refine J_putIL (pc := 45) (k := 3) fpX7_70 so19 fk19_3 rfl rfl dX7_changes_45 hh (fun s2 hh => ?_)
    exact jgX7_changes_48 d s2 x1 hh hk
  · replace hh := (if_pos c11).symm.trans hh
    refine J_aload_n (pc := 22) dX7_changes_22 rfl ?_
    refine J_aload_n (pc := 23) dX7_changes_23 rfl ?_
    refine J_getI (pc := 24) (k := 2) flX7_67 so19 fk19_2 dX7_changes_24 ?_
    refine J_iconst (pc := 27) dX7_changes_27 ci_1 ?_
    refine J_iadd (pc := 28) dX7_changes_28 ?_
    refine J_bipush (pc := 29) dX7_changes_29 cb_30 ?_
    refine J_irem (pc := 31) dX7_changes_31 (by decide) ?_
    refine J_putIL (pc := 32) (k := 2) fpX7_67 so19 fk19_2 rfl rfl dX7_changes_32 hh (fun s10 hh => ?_)
    refine J_goto (pc := 35) 48 dX7_changes_35 (by decide) ?_
    exact jgX7_changes_48 d s10 x1 hh hk
theorem jX7_changes {X : Scr} (d : Nat) (s : Mem)  {r : Mem} (hh : fX7_changes s = some r) : J X MX7_changes (d + 0) 0 [some (.ref 19), none, none] [] s (none) r := jjX7_changes d s hh ⟨rfl, rfl⟩
theorem dX7_at_0 : decode cX7_at 0 = .ok (.iconst 4, 1) := by decide +kernel
theorem dX7_at_1 : decode cX7_at 1 = .ok (.bipush 6, 2) := by decide +kernel
theorem dX7_at_3 : decode cX7_at 3 = .ok (.iload_n 0, 1) := by decide +kernel
theorem dX7_at_4 : decode cX7_at 4 = .ok (.imul, 1) := by decide +kernel
theorem dX7_at_5 : decode cX7_at 5 = .ok (.iconst 2, 1) := by decide +kernel
theorem dX7_at_6 : decode cX7_at 6 = .ok (.iload_n 1, 1) := by decide +kernel
theorem dX7_at_7 : decode cX7_at 7 = .ok (.imul, 1) := by decide +kernel
theorem dX7_at_8 : decode cX7_at 8 = .ok (.iadd, 1) := by decide +kernel
theorem dX7_at_9 : decode cX7_at 9 = .ok (.iload_n 2, 1) := by decide +kernel
theorem dX7_at_10 : decode cX7_at 10 = .ok (.iadd, 1) := by decide +kernel
theorem dX7_at_11 : decode cX7_at 11 = .ok (.imul, 1) := by decide +kernel
theorem dX7_at_12 : decode cX7_at 12 = .ok (.ireturn, 1) := by decide +kernel
def fX7_at (p0 : Int32) (p1 : Int32) (p2 : Int32) : Option Int32 :=
  some (((4 : Int32) * ((((6 : Int32) * p0) + ((2 : Int32) * p1)) + p2)))
set_option maxRecDepth 4000 in
theorem jjX7_at {X : Scr} (d : Nat) {s : Mem} (p0 : Int32) (p1 : Int32) (p2 : Int32) {r : Int32} {w : Option Value} {s' : Mem} (hh : fX7_at p0 p1 p2 = some r) (hk : w = some (.int r) ∧ s = s') : J X MX7_at (d + 0) 0 [some (.int p0), some (.int p1), some (.int p2)] [] s w s' := by
  unfold fX7_at at hh
  refine J_iconst (pc := 0) dX7_at_0 ci_4 ?_
  refine J_bipush (pc := 1) dX7_at_1 cb_6 ?_
  refine J_iload_n (pc := 3) dX7_at_3 rfl ?_
  refine J_imul (pc := 4) dX7_at_4 ?_
  refine J_iconst (pc := 5) dX7_at_5 ci_2 ?_
  refine J_iload_n (pc := 6) dX7_at_6 rfl ?_
  refine J_imul (pc := 7) dX7_at_7 ?_
  refine J_iadd (pc := 8) dX7_at_8 ?_
  refine J_iload_n (pc := 9) dX7_at_9 rfl ?_
  refine J_iadd (pc := 10) dX7_at_10 ?_
  refine J_imul (pc := 11) dX7_at_11 ?_
  obtain rfl := Option.some.inj hh
  obtain ⟨rfl, rfl⟩ := hk
  exact J_ret (w := some (.int ((4 : Int32) * ((((6 : Int32) * p0) + ((2 : Int32) * p1)) + p2)))) ⟨dX7_at_12, _, rfl, rfl⟩
theorem jX7_at {X : Scr} (d : Nat) (s : Mem) (p0 : Int32) (p1 : Int32) (p2 : Int32) {r : Int32} (hh : fX7_at p0 p1 p2 = some r) : J X MX7_at (d + 0) 0 [some (.int p0), some (.int p1), some (.int p2)] [] s (some (.int r)) s := jjX7_at d p0 p1 p2 hh ⟨rfl, rfl⟩
theorem dX7_isOpen_0 : decode cX7_isOpen 0 = .ok (.aload_n 0, 1) := by decide +kernel
theorem dX7_isOpen_1 : decode cX7_isOpen 1 = .ok (.getfield 9, 3) := by decide +kernel
theorem dX7_isOpen_4 : decode cX7_isOpen 4 = .ok (.iload_n 1, 1) := by decide +kernel
theorem dX7_isOpen_5 : decode cX7_isOpen 5 = .ok (.iload_n 2, 1) := by decide +kernel
theorem dX7_isOpen_6 : decode cX7_isOpen 6 = .ok (.iload_n 3, 1) := by decide +kernel
theorem dX7_isOpen_7 : decode cX7_isOpen 7 = .ok (.invokestatic 73, 3) := by decide +kernel
theorem dX7_isOpen_10 : decode cX7_isOpen 10 = .ok (.iconst 0, 1) := by decide +kernel
theorem dX7_isOpen_11 : decode cX7_isOpen 11 = .ok (.iadd, 1) := by decide +kernel
theorem dX7_isOpen_12 : decode cX7_isOpen 12 = .ok (.iaload, 1) := by decide +kernel
theorem dX7_isOpen_13 : decode cX7_isOpen 13 = .ok (.iconst 1, 1) := by decide +kernel
theorem dX7_isOpen_14 : decode cX7_isOpen 14 = .ok (.if_icmp .ne 7, 3) := by decide +kernel
theorem dX7_isOpen_17 : decode cX7_isOpen 17 = .ok (.iconst 1, 1) := by decide +kernel
theorem dX7_isOpen_18 : decode cX7_isOpen 18 = .ok (.goto 4, 3) := by decide +kernel
theorem dX7_isOpen_21 : decode cX7_isOpen 21 = .ok (.iconst 0, 1) := by decide +kernel
theorem dX7_isOpen_22 : decode cX7_isOpen 22 = .ok (.ireturn, 1) := by decide +kernel
def fX7_isOpen (s : Mem) (p0 : Int32) (p1 : Int32) (p2 : Int32) : Option Int32 :=
  (fX7_at p0 p1 p2).bind (fun y1 => gd (y1 + (0 : Int32)) 139 (if (s.1 20 (y1 + (0 : Int32)).toNatClampNeg) = (1 : Int32) then some (1 : Int32) else some (0 : Int32)))
set_option maxRecDepth 4000 in
theorem jjX7_isOpen {X : Scr} (d : Nat) (s : Mem) (p0 : Int32) (p1 : Int32) (p2 : Int32) {r : Int32} {w : Option Value} {s' : Mem} (hh : fX7_isOpen s p0 p1 p2 = some r) (hk : w = some (.int r) ∧ s = s') : J X MX7_isOpen (d + 1) 0 [some (.ref 19), some (.int p0), some (.int p1), some (.int p2)] [] s w s' := by
  unfold fX7_isOpen at hh
  refine J_aload_n (pc := 0) dX7_isOpen_0 rfl ?_
  refine J_getR (pc := 1) (k := 0) flX7_9 so19 fk19_0 dX7_isOpen_1 ?_
  refine J_iload_n (pc := 4) dX7_isOpen_4 rfl ?_
  refine J_iload_n (pc := 5) dX7_isOpen_5 rfl ?_
  refine J_iload_n (pc := 6) dX7_isOpen_6 rfl ?_
  obtain ⟨y1, hy1, hh⟩ := bd_some hh
  refine J_callSi (pc := 7) (M' := MX7_at) (rest := [.ref 20]) (As := [.int p0, .int p1, .int p2]) (L0 := [some (.int p0), some (.int p1), some (.int p2)]) okX7_at osX7_at mlX7_73 rfl rfl (Nat.le_of_ble_eq_true rfl) dX7_isOpen_7 rfl (Nat.le_of_ble_eq_true rfl) (jX7_at (X := X) d s p0 p1 p2 hy1) ?_
  refine J_iconst (pc := 10) dX7_isOpen_10 ci_0 ?_
  refine J_iadd (pc := 11) dX7_isOpen_11 ?_
  obtain ⟨h2, hh⟩ := gd_some hh
  refine J_iald (pc := 12) dX7_isOpen_12 sa20 h2 ?_
  refine J_iconst (pc := 13) dX7_isOpen_13 ci_1 ?_
  refine J_icmp_ne (pc := 14) 21 dX7_isOpen_14 (by decide) (fun c3 => ?_) (fun c3 => ?_)
  · replace hh := (if_neg c3).symm.trans hh
    refine J_iconst (pc := 21) dX7_isOpen_21 ci_0 ?_
    obtain rfl := Option.some.inj hh
    obtain ⟨rfl, rfl⟩ := hk
    exact J_ret (w := some (.int (0 : Int32))) ⟨dX7_isOpen_22, _, rfl, rfl⟩
  · replace hh := (if_pos c3).symm.trans hh
    refine J_iconst (pc := 17) dX7_isOpen_17 ci_1 ?_
    refine J_goto (pc := 18) 22 dX7_isOpen_18 (by decide) ?_
    obtain rfl := Option.some.inj hh
    obtain ⟨rfl, rfl⟩ := hk
    exact J_ret (w := some (.int (1 : Int32))) ⟨dX7_isOpen_22, _, rfl, rfl⟩
theorem jX7_isOpen {X : Scr} (d : Nat) (s : Mem) (p0 : Int32) (p1 : Int32) (p2 : Int32) {r : Int32} (hh : fX7_isOpen s p0 p1 p2 = some r) : J X MX7_isOpen (d + 1) 0 [some (.ref 19), some (.int p0), some (.int p1), some (.int p2)] [] s (some (.int r)) s := jjX7_isOpen d s p0 p1 p2 hh ⟨rfl, rfl⟩
theorem dX7_part_0 : decode cX7_part 0 = .ok (.iload_n 1, 1) := by decide +kernel
theorem dX7_part_1 : decode cX7_part 1 = .ok (.ifCond .ne 9, 3) := by decide +kernel
theorem dX7_part_4 : decode cX7_part 4 = .ok (.iload_n 0, 1) := by decide +kernel
theorem dX7_part_5 : decode cX7_part 5 = .ok (.iconst 4, 1) := by decide +kernel
theorem dX7_part_6 : decode cX7_part 6 = .ok (.idiv, 1) := by decide +kernel
theorem dX7_part_7 : decode cX7_part 7 = .ok (.goto 19, 3) := by decide +kernel
theorem dX7_part_10 : decode cX7_part 10 = .ok (.iload_n 1, 1) := by decide +kernel
theorem dX7_part_11 : decode cX7_part 11 = .ok (.iconst 1, 1) := by decide +kernel
theorem dX7_part_12 : decode cX7_part 12 = .ok (.if_icmp .ne 11, 3) := by decide +kernel
theorem dX7_part_15 : decode cX7_part 15 = .ok (.iload_n 0, 1) := by decide +kernel
theorem dX7_part_16 : decode cX7_part 16 = .ok (.iconst 2, 1) := by decide +kernel
theorem dX7_part_17 : decode cX7_part 17 = .ok (.idiv, 1) := by decide +kernel
theorem dX7_part_18 : decode cX7_part 18 = .ok (.iconst 2, 1) := by decide +kernel
theorem dX7_part_19 : decode cX7_part 19 = .ok (.irem, 1) := by decide +kernel
theorem dX7_part_20 : decode cX7_part 20 = .ok (.goto 6, 3) := by decide +kernel
theorem dX7_part_23 : decode cX7_part 23 = .ok (.iload_n 0, 1) := by decide +kernel
theorem dX7_part_24 : decode cX7_part 24 = .ok (.iconst 2, 1) := by decide +kernel
theorem dX7_part_25 : decode cX7_part 25 = .ok (.irem, 1) := by decide +kernel
theorem dX7_part_26 : decode cX7_part 26 = .ok (.ireturn, 1) := by decide +kernel
def fX7_part (p0 : Int32) (p1 : Int32) : Option Int32 :=
  if p1 = (0 : Int32) then some ((p0 / (4 : Int32))) else if p1 = (1 : Int32) then some (((p0 / (2 : Int32)) - (p0 / (2 : Int32)) / (2 : Int32) * (2 : Int32))) else some ((p0 - p0 / (2 : Int32) * (2 : Int32)))
set_option maxRecDepth 4000 in
theorem jjX7_part {X : Scr} (d : Nat) {s : Mem} (p0 : Int32) (p1 : Int32) {r : Int32} {w : Option Value} {s' : Mem} (hh : fX7_part p0 p1 = some r) (hk : w = some (.int r) ∧ s = s') : J X MX7_part (d + 0) 0 [some (.int p0), some (.int p1)] [] s w s' := by
  unfold fX7_part at hh
  refine J_iload_n (pc := 0) dX7_part_0 rfl ?_
  refine J_if_ne (pc := 1) 10 dX7_part_1 (by decide) (fun c2 => ?_) (fun c2 => ?_)
  · replace hh := (if_neg c2).symm.trans hh
    refine J_iload_n (pc := 10) dX7_part_10 rfl ?_
    refine J_iconst (pc := 11) dX7_part_11 ci_1 ?_
    refine J_icmp_ne (pc := 12) 23 dX7_part_12 (by decide) (fun c1 => ?_) (fun c1 => ?_)
    · replace hh := (if_neg c1).symm.trans hh
      refine J_iload_n (pc := 23) dX7_part_23 rfl ?_
      refine J_iconst (pc := 24) dX7_part_24 ci_2 ?_
      refine J_irem (pc := 25) dX7_part_25 (by decide) ?_
      obtain rfl := Option.some.inj hh
      obtain ⟨rfl, rfl⟩ := hk
      exact J_ret (w := some (.int (p0 - p0 / (2 : Int32) * (2 : Int32)))) ⟨dX7_part_26, _, rfl, rfl⟩
    · replace hh := (if_pos c1).symm.trans hh
      refine J_iload_n (pc := 15) dX7_part_15 rfl ?_
      refine J_iconst (pc := 16) dX7_part_16 ci_2 ?_
      refine J_idiv (pc := 17) dX7_part_17 (by decide) ?_
      refine J_iconst (pc := 18) dX7_part_18 ci_2 ?_
      refine J_irem (pc := 19) dX7_part_19 (by decide) ?_
      refine J_goto (pc := 20) 26 dX7_part_20 (by decide) ?_
      obtain rfl := Option.some.inj hh
      obtain ⟨rfl, rfl⟩ := hk
      exact J_ret (w := some (.int ((p0 / (2 : Int32)) - (p0 / (2 : Int32)) / (2 : Int32) * (2 : Int32)))) ⟨dX7_part_26, _, rfl, rfl⟩
  · replace hh := (if_pos c2).symm.trans hh
    refine J_iload_n (pc := 4) dX7_part_4 rfl ?_
    refine J_iconst (pc := 5) dX7_part_5 ci_4 ?_
    refine J_idiv (pc := 6) dX7_part_6 (by decide) ?_
    refine J_goto (pc := 7) 26 dX7_part_7 (by decide) ?_
    obtain rfl := Option.some.inj hh
    obtain ⟨rfl, rfl⟩ := hk
    exact J_ret (w := some (.int (p0 / (4 : Int32)))) ⟨dX7_part_26, _, rfl, rfl⟩
theorem jX7_part {X : Scr} (d : Nat) (s : Mem) (p0 : Int32) (p1 : Int32) {r : Int32} (hh : fX7_part p0 p1 = some r) : J X MX7_part (d + 0) 0 [some (.int p0), some (.int p1)] [] s (some (.int r)) s := jjX7_part d p0 p1 hh ⟨rfl, rfl⟩
theorem dX7_isAny_0 : decode cX7_isAny 0 = .ok (.aload_n 0, 1) := by decide +kernel
theorem dX7_isAny_1 : decode cX7_isAny 1 = .ok (.iload_n 1, 1) := by decide +kernel
theorem dX7_isAny_2 : decode cX7_isAny 2 = .ok (.iload_n 2, 1) := by decide +kernel
theorem dX7_isAny_3 : decode cX7_isAny 3 = .ok (.iconst 0, 1) := by decide +kernel
theorem dX7_isAny_4 : decode cX7_isAny 4 = .ok (.invokevirtual 77, 3) := by decide +kernel
theorem dX7_isAny_7 : decode cX7_isAny 7 = .ok (.ifCond .ne 13, 3) := by decide +kernel
theorem dX7_isAny_10 : decode cX7_isAny 10 = .ok (.aload_n 0, 1) := by decide +kernel
theorem dX7_isAny_11 : decode cX7_isAny 11 = .ok (.iload_n 1, 1) := by decide +kernel
theorem dX7_isAny_12 : decode cX7_isAny 12 = .ok (.iload_n 2, 1) := by decide +kernel
theorem dX7_isAny_13 : decode cX7_isAny 13 = .ok (.iconst 1, 1) := by decide +kernel
theorem dX7_isAny_14 : decode cX7_isAny 14 = .ok (.invokevirtual 77, 3) := by decide +kernel
theorem dX7_isAny_17 : decode cX7_isAny 17 = .ok (.ifCond .eq 7, 3) := by decide +kernel
theorem dX7_isAny_20 : decode cX7_isAny 20 = .ok (.iconst 1, 1) := by decide +kernel
theorem dX7_isAny_21 : decode cX7_isAny 21 = .ok (.goto 4, 3) := by decide +kernel
theorem dX7_isAny_24 : decode cX7_isAny 24 = .ok (.iconst 0, 1) := by decide +kernel
theorem dX7_isAny_25 : decode cX7_isAny 25 = .ok (.ireturn, 1) := by decide +kernel
def fX7_isAny (s : Mem) (p0 : Int32) (p1 : Int32) : Option Int32 :=
  (fX7_isOpen s p0 p1 (0 : Int32)).bind (fun y1 => if y1 = (0 : Int32) then (fX7_isOpen s p0 p1 (1 : Int32)).bind (fun y2 => if y2 = (0 : Int32) then some (0 : Int32) else some (1 : Int32)) else some (1 : Int32))
set_option maxRecDepth 4000 in
theorem jjX7_isAny {X : Scr} (d : Nat) (s : Mem) (p0 : Int32) (p1 : Int32) {r : Int32} {w : Option Value} {s' : Mem} (hh : fX7_isAny s p0 p1 = some r) (hk : w = some (.int r) ∧ s = s') : J X MX7_isAny (d + 2) 0 [some (.ref 19), some (.int p0), some (.int p1)] [] s w s' := by
  unfold fX7_isAny at hh
  refine J_aload_n (pc := 0) dX7_isAny_0 rfl ?_
  refine J_iload_n (pc := 1) dX7_isAny_1 rfl ?_
  refine J_iload_n (pc := 2) dX7_isAny_2 rfl ?_
  refine J_iconst (pc := 3) dX7_isAny_3 ci_0 ?_
  obtain ⟨y1, hy1, hh⟩ := bd_some hh
  refine J_callVi (pc := 4) (M' := MX7_isOpen) (a := 19) (rest := []) (As := [.int p0, .int p1, .int (0 : Int32)]) (L0 := [some (.ref 19), some (.int p0), some (.int p1), some (.int (0 : Int32))]) okX7_isOpen ovX7_isOpen mlX7_77 clX7 so19 rfl rfl (Nat.le_of_ble_eq_true rfl) dX7_isAny_4 rfl (Nat.le_of_ble_eq_true rfl) (jX7_isOpen (X := X) d s p0 p1 (0 : Int32) hy1) ?_
  refine J_if_ne (pc := 7) 20 dX7_isAny_7 (by decide) (fun c4 => ?_) (fun c4 => ?_)
  · replace hh := (if_neg c4).symm.trans hh
    refine J_iconst (pc := 20) dX7_isAny_20 ci_1 ?_
    refine J_goto (pc := 21) 25 dX7_isAny_21 (by decide) ?_
    obtain rfl := Option.some.inj hh
    obtain ⟨rfl, rfl⟩ := hk
    exact J_ret (w := some (.int (1 : Int32))) ⟨dX7_isAny_25, _, rfl, rfl⟩
  · replace hh := (if_pos c4).symm.trans hh
    refine J_aload_n (pc := 10) dX7_isAny_10 rfl ?_
    refine J_iload_n (pc := 11) dX7_isAny_11 rfl ?_
    refine J_iload_n (pc := 12) dX7_isAny_12 rfl ?_
    refine J_iconst (pc := 13) dX7_isAny_13 ci_1 ?_
    obtain ⟨y2, hy2, hh⟩ := bd_some hh
    refine J_callVi (pc := 14) (M' := MX7_isOpen) (a := 19) (rest := []) (As := [.int p0, .int p1, .int (1 : Int32)]) (L0 := [some (.ref 19), some (.int p0), some (.int p1), some (.int (1 : Int32))]) okX7_isOpen ovX7_isOpen mlX7_77 clX7 so19 rfl rfl (Nat.le_of_ble_eq_true rfl) dX7_isAny_14 rfl (Nat.le_of_ble_eq_true rfl) (jX7_isOpen (X := X) d s p0 p1 (1 : Int32) hy2) ?_
    refine J_if_eq (pc := 17) 24 dX7_isAny_17 (by decide) (fun c3 => ?_) (fun c3 => ?_)
    · replace hh := (if_pos c3).symm.trans hh
      refine J_iconst (pc := 24) dX7_isAny_24 ci_0 ?_
      obtain rfl := Option.some.inj hh
      obtain ⟨rfl, rfl⟩ := hk
      exact J_ret (w := some (.int (0 : Int32))) ⟨dX7_isAny_25, _, rfl, rfl⟩
    · replace hh := (if_neg c3).symm.trans hh
      refine J_iconst (pc := 20) dX7_isAny_20 ci_1 ?_
      refine J_goto (pc := 21) 25 dX7_isAny_21 (by decide) ?_
      obtain rfl := Option.some.inj hh
      obtain ⟨rfl, rfl⟩ := hk
      exact J_ret (w := some (.int (1 : Int32))) ⟨dX7_isAny_25, _, rfl, rfl⟩
theorem jX7_isAny {X : Scr} (d : Nat) (s : Mem) (p0 : Int32) (p1 : Int32) {r : Int32} (hh : fX7_isAny s p0 p1 = some r) : J X MX7_isAny (d + 2) 0 [some (.ref 19), some (.int p0), some (.int p1)] [] s (some (.int r)) s := jjX7_isAny d s p0 p1 hh ⟨rfl, rfl⟩
theorem dX7_counts_0 : decode cX7_counts 0 = .ok (.aload_n 0, 1) := by decide +kernel
theorem dX7_counts_1 : decode cX7_counts 1 = .ok (.iload_n 1, 1) := by decide +kernel
theorem dX7_counts_2 : decode cX7_counts 2 = .ok (.iload_n 3, 1) := by decide +kernel
theorem dX7_counts_3 : decode cX7_counts 3 = .ok (.iload_n 2, 1) := by decide +kernel
theorem dX7_counts_4 : decode cX7_counts 4 = .ok (.iload_n 3, 1) := by decide +kernel
theorem dX7_counts_5 : decode cX7_counts 5 = .ok (.invokestatic 81, 3) := by decide +kernel
theorem dX7_counts_8 : decode cX7_counts 8 = .ok (.invokevirtual 77, 3) := by decide +kernel
theorem dX7_counts_11 : decode cX7_counts 11 = .ok (.ireturn, 1) := by decide +kernel
def fX7_counts (s : Mem) (p0 : Int32) (p1 : Int32) (p2 : Int32) : Option Int32 :=
  (fX7_part p1 p2).bind (fun y1 => (fX7_isOpen s p0 p2 y1).bind (fun y2 => gz y2 (some y2)))
set_option maxRecDepth 4000 in
theorem jjX7_counts {X : Scr} (d : Nat) (s : Mem) (p0 : Int32) (p1 : Int32) (p2 : Int32) {r : Int32} {w : Option Value} {s' : Mem} (hh : fX7_counts s p0 p1 p2 = some r) (hk : w = some (.int r) ∧ s = s') : J X MX7_counts (d + 2) 0 [some (.ref 19), some (.int p0), some (.int p1), some (.int p2)] [] s w s' := by
  unfold fX7_counts at hh
  refine J_aload_n (pc := 0) dX7_counts_0 rfl ?_
  refine J_iload_n (pc := 1) dX7_counts_1 rfl ?_
  refine J_iload_n (pc := 2) dX7_counts_2 rfl ?_
  refine J_iload_n (pc := 3) dX7_counts_3 rfl ?_
  refine J_iload_n (pc := 4) dX7_counts_4 rfl ?_
  obtain ⟨y1, hy1, hh⟩ := bd_some hh
  refine J_callSi (pc := 5) (M' := MX7_part) (rest := [.int p2, .int p0, .ref 19]) (As := [.int p1, .int p2]) (L0 := [some (.int p1), some (.int p2)]) okX7_part osX7_part mlX7_81 rfl rfl (Nat.le_of_ble_eq_true rfl) dX7_counts_5 rfl (Nat.le_of_ble_eq_true rfl) (jX7_part (X := X) (d + 1) s p1 p2 hy1) ?_
  obtain ⟨y2, hy2, hh⟩ := bd_some hh
  refine J_callVi (pc := 8) (M' := MX7_isOpen) (a := 19) (rest := []) (As := [.int p0, .int p2, .int y1]) (L0 := [some (.ref 19), some (.int p0), some (.int p2), some (.int y1)]) okX7_isOpen ovX7_isOpen mlX7_77 clX7 so19 rfl rfl (Nat.le_of_ble_eq_true rfl) dX7_counts_8 rfl (Nat.le_of_ble_eq_true rfl) (jX7_isOpen (X := X) d s p0 p2 y1 hy2) ?_
  obtain ⟨hz3, hh⟩ := gz_some hh
  obtain rfl := Option.some.inj hh
  obtain ⟨rfl, rfl⟩ := hk
  exact J_ret (w := some (.int y2)) ⟨dX7_counts_11, _, rfl, (nz_bool hz3)⟩
theorem jX7_counts {X : Scr} (d : Nat) (s : Mem) (p0 : Int32) (p1 : Int32) (p2 : Int32) {r : Int32} (hh : fX7_counts s p0 p1 p2 = some r) : J X MX7_counts (d + 2) 0 [some (.ref 19), some (.int p0), some (.int p1), some (.int p2)] [] s (some (.int r)) s := jjX7_counts d s p0 p1 p2 hh ⟨rfl, rfl⟩
theorem dX7_goes_0 : decode cX7_goes 0 = .ok (.iload_n 2, 1) := by decide +kernel
theorem dX7_goes_1 : decode cX7_goes 1 = .ok (.iload_n 3, 1) := by decide +kernel
theorem dX7_goes_2 : decode cX7_goes 2 = .ok (.invokestatic 81, 3) := by decide +kernel
theorem dX7_goes_5 : decode cX7_goes 5 = .ok (.istore 4, 2) := by decide +kernel
theorem dX7_goes_7 : decode cX7_goes 7 = .ok (.aload_n 0, 1) := by decide +kernel
theorem dX7_goes_8 : decode cX7_goes 8 = .ok (.iload_n 1, 1) := by decide +kernel
theorem dX7_goes_9 : decode cX7_goes 9 = .ok (.iload_n 3, 1) := by decide +kernel
theorem dX7_goes_10 : decode cX7_goes 10 = .ok (.invokevirtual 85, 3) := by decide +kernel
theorem dX7_goes_13 : decode cX7_goes 13 = .ok (.ifCond .ne 18, 3) := by decide +kernel
theorem dX7_goes_16 : decode cX7_goes 16 = .ok (.iload_n 3, 1) := by decide +kernel
theorem dX7_goes_17 : decode cX7_goes 17 = .ok (.ifCond .le 12, 3) := by decide +kernel
theorem dX7_goes_20 : decode cX7_goes 20 = .ok (.iload 4, 2) := by decide +kernel
theorem dX7_goes_22 : decode cX7_goes 22 = .ok (.ifCond .ne 7, 3) := by decide +kernel
theorem dX7_goes_25 : decode cX7_goes 25 = .ok (.iconst 1, 1) := by decide +kernel
theorem dX7_goes_26 : decode cX7_goes 26 = .ok (.goto 4, 3) := by decide +kernel
theorem dX7_goes_29 : decode cX7_goes 29 = .ok (.iconst 0, 1) := by decide +kernel
theorem dX7_goes_30 : decode cX7_goes 30 = .ok (.ireturn, 1) := by decide +kernel
theorem dX7_goes_31 : decode cX7_goes 31 = .ok (.aload_n 0, 1) := by decide +kernel
theorem dX7_goes_32 : decode cX7_goes 32 = .ok (.getfield 9, 3) := by decide +kernel
theorem dX7_goes_35 : decode cX7_goes 35 = .ok (.iload_n 1, 1) := by decide +kernel
theorem dX7_goes_36 : decode cX7_goes 36 = .ok (.iload_n 3, 1) := by decide +kernel
theorem dX7_goes_37 : decode cX7_goes 37 = .ok (.iload 4, 2) := by decide +kernel
theorem dX7_goes_39 : decode cX7_goes 39 = .ok (.invokestatic 73, 3) := by decide +kernel
theorem dX7_goes_42 : decode cX7_goes 42 = .ok (.iconst 3, 1) := by decide +kernel
theorem dX7_goes_43 : decode cX7_goes 43 = .ok (.iadd, 1) := by decide +kernel
theorem dX7_goes_44 : decode cX7_goes 44 = .ok (.iaload, 1) := by decide +kernel
theorem dX7_goes_45 : decode cX7_goes 45 = .ok (.istore 5, 2) := by decide +kernel
theorem dX7_goes_47 : decode cX7_goes 47 = .ok (.aload_n 0, 1) := by decide +kernel
theorem dX7_goes_48 : decode cX7_goes 48 = .ok (.iload_n 1, 1) := by decide +kernel
theorem dX7_goes_49 : decode cX7_goes 49 = .ok (.iload_n 3, 1) := by decide +kernel
theorem dX7_goes_50 : decode cX7_goes 50 = .ok (.iload 4, 2) := by decide +kernel
theorem dX7_goes_52 : decode cX7_goes 52 = .ok (.invokevirtual 77, 3) := by decide +kernel
theorem dX7_goes_55 : decode cX7_goes 55 = .ok (.ifCond .eq 26, 3) := by decide +kernel
theorem dX7_goes_58 : decode cX7_goes 58 = .ok (.iload_n 3, 1) := by decide +kernel
theorem dX7_goes_59 : decode cX7_goes 59 = .ok (.ifCond .eq 18, 3) := by decide +kernel
theorem dX7_goes_62 : decode cX7_goes 62 = .ok (.iload 5, 2) := by decide +kernel
theorem dX7_goes_64 : decode cX7_goes 64 = .ok (.ifCond .lt 13, 3) := by decide +kernel
theorem dX7_goes_67 : decode cX7_goes 67 = .ok (.iload 5, 2) := by decide +kernel
theorem dX7_goes_69 : decode cX7_goes 69 = .ok (.iload_n 2, 1) := by decide +kernel
theorem dX7_goes_70 : decode cX7_goes 70 = .ok (.iconst 0, 1) := by decide +kernel
theorem dX7_goes_71 : decode cX7_goes 71 = .ok (.invokestatic 81, 3) := by decide +kernel
theorem dX7_goes_74 : decode cX7_goes 74 = .ok (.if_icmp .ne 7, 3) := by decide +kernel
theorem dX7_goes_77 : decode cX7_goes 77 = .ok (.iconst 1, 1) := by decide +kernel
theorem dX7_goes_78 : decode cX7_goes 78 = .ok (.goto 4, 3) := by decide +kernel
theorem dX7_goes_81 : decode cX7_goes 81 = .ok (.iconst 0, 1) := by decide +kernel
theorem dX7_goes_82 : decode cX7_goes 82 = .ok (.ireturn, 1) := by decide +kernel
def fX7_goes (s : Mem) (p0 : Int32) (p1 : Int32) (p2 : Int32) : Option Int32 :=
  (fX7_part p1 p2).bind (fun y1 => (fX7_isAny s p0 p2).bind (fun y2 => if y2 = (0 : Int32) then if p2 ≤ (0 : Int32) then some (0 : Int32) else if y1 = (0 : Int32) then some (1 : Int32) else some (0 : Int32) else (fX7_at p0 p2 y1).bind (fun y3 => gd (y3 + (3 : Int32)) 139 (lt (s.1 20 (y3 + (3 : Int32)).toNatClampNeg) (fun x5 => (fX7_isOpen s p0 p2 y1).bind (fun y6 => if y6 = (0 : Int32) then some (0 : Int32) else if p2 = (0 : Int32) then some (1 : Int32) else if x5 < (0 : Int32) then some (1 : Int32) else (fX7_part p1 (0 : Int32)).bind (fun y7 => if x5 = y7 then some (1 : Int32) else some (0 : Int32))))))))
set_option maxRecDepth 4000 in
theorem jjX7_goes {X : Scr} (d : Nat) (s : Mem) (p0 : Int32) (p1 : Int32) (p2 : Int32) {r : Int32} {w : Option Value} {s' : Mem} (hh : fX7_goes s p0 p1 p2 = some r) (hk : w = some (.int r) ∧ s = s') : J X MX7_goes (d + 3) 0 [some (.ref 19), some (.int p0), some (.int p1), some (.int p2), none, none] [] s w s' := by
  unfold fX7_goes at hh
  refine J_iload_n (pc := 0) dX7_goes_0 rfl ?_
  refine J_iload_n (pc := 1) dX7_goes_1 rfl ?_
  obtain ⟨y1, hy1, hh⟩ := bd_some hh
  refine J_callSi (pc := 2) (M' := MX7_part) (rest := []) (As := [.int p1, .int p2]) (L0 := [some (.int p1), some (.int p2)]) okX7_part osX7_part mlX7_81 rfl rfl (Nat.le_of_ble_eq_true rfl) dX7_goes_2 rfl (Nat.le_of_ble_eq_true rfl) (jX7_part (X := X) (d + 2) s p1 p2 hy1) ?_
  refine J_istore (pc := 5) (L' := [some (.ref 19), some (.int p0), some (.int p1), some (.int p2), some (.int y1), none]) dX7_goes_5 rfl (Nat.le_of_ble_eq_true rfl) rfl ?_
  refine J_aload_n (pc := 7) dX7_goes_7 rfl ?_
  refine J_iload_n (pc := 8) dX7_goes_8 rfl ?_
  refine J_iload_n (pc := 9) dX7_goes_9 rfl ?_
  obtain ⟨y2, hy2, hh⟩ := bd_some hh
  refine J_callVi (pc := 10) (M' := MX7_isAny) (a := 19) (rest := []) (As := [.int p0, .int p2]) (L0 := [some (.ref 19), some (.int p0), some (.int p2)]) okX7_isAny ovX7_isAny mlX7_85 clX7 so19 rfl rfl (Nat.le_of_ble_eq_true rfl) dX7_goes_10 rfl (Nat.le_of_ble_eq_true rfl) (jX7_isAny (X := X) d s p0 p2 hy2) ?_
  refine J_if_ne (pc := 13) 31 dX7_goes_13 (by decide) (fun c14 => ?_) (fun c14 => ?_)
  · replace hh := (if_neg c14).symm.trans hh
    refine J_aload_n (pc := 31) dX7_goes_31 rfl ?_
    refine J_getR (pc := 32) (k := 0) flX7_9 so19 fk19_0 dX7_goes_32 ?_
    refine J_iload_n (pc := 35) dX7_goes_35 rfl ?_
    refine J_iload_n (pc := 36) dX7_goes_36 rfl ?_
    refine J_iload (pc := 37) dX7_goes_37 rfl ?_
    obtain ⟨y3, hy3, hh⟩ := bd_some hh
    refine J_callSi (pc := 39) (M' := MX7_at) (rest := [.ref 20]) (As := [.int p0, .int p2, .int y1]) (L0 := [some (.int p0), some (.int p2), some (.int y1)]) okX7_at osX7_at mlX7_73 rfl rfl (Nat.le_of_ble_eq_true rfl) dX7_goes_39 rfl (Nat.le_of_ble_eq_true rfl) (jX7_at (X := X) (d + 2) s p0 p2 y1 hy3) ?_
    refine J_iconst (pc := 42) dX7_goes_42 ci_3 ?_
    refine J_iadd (pc := 43) dX7_goes_43 ?_
    obtain ⟨h4, hh⟩ := gd_some hh
    refine J_iald (pc := 44) dX7_goes_44 sa20 h4 ?_
    refine J_istoreL (pc := 45) (fun x5 => [some (.ref 19), some (.int p0), some (.int p1), some (.int p2), some (.int y1), some (.int x5)]) dX7_goes_45 rfl (Nat.le_of_ble_eq_true rfl) (fun _ => rfl) hh (fun x5 hh => ?_)
    refine J_aload_n (pc := 47) dX7_goes_47 rfl ?_
    refine J_iload_n (pc := 48) dX7_goes_48 rfl ?_
    refine J_iload_n (pc := 49) dX7_goes_49 rfl ?_
    refine J_iload (pc := 50) dX7_goes_50 rfl ?_
    obtain ⟨y6, hy6, hh⟩ := bd_some hh
    refine J_callVi (pc := 52) (M' := MX7_isOpen) (a := 19) (rest := []) (As := [.int p0, .int p2, .int y1]) (L0 := [some (.ref 19), some (.int p0), some (.int p2), some (.int y1)]) okX7_isOpen ovX7_isOpen mlX7_77 clX7 so19 rfl rfl (Nat.le_of_ble_eq_true rfl) dX7_goes_52 rfl (Nat.le_of_ble_eq_true rfl) (jX7_isOpen (X := X) (d + 1) s p0 p2 y1 hy6) ?_
    refine J_if_eq (pc := 55) 81 dX7_goes_55 (by decide) (fun c11 => ?_) (fun c11 => ?_)
    · replace hh := (if_pos c11).symm.trans hh
      refine J_iconst (pc := 81) dX7_goes_81 ci_0 ?_
      obtain rfl := Option.some.inj hh
      obtain ⟨rfl, rfl⟩ := hk
      exact J_ret (w := some (.int (0 : Int32))) ⟨dX7_goes_82, _, rfl, rfl⟩
    · replace hh := (if_neg c11).symm.trans hh
      refine J_iload_n (pc := 58) dX7_goes_58 rfl ?_
      refine J_if_eq (pc := 59) 77 dX7_goes_59 (by decide) (fun c10 => ?_) (fun c10 => ?_)
      · replace hh := (if_pos c10).symm.trans hh
        refine J_iconst (pc := 77) dX7_goes_77 ci_1 ?_
        refine J_goto (pc := 78) 82 dX7_goes_78 (by decide) ?_
        obtain rfl := Option.some.inj hh
        obtain ⟨rfl, rfl⟩ := hk
        exact J_ret (w := some (.int (1 : Int32))) ⟨dX7_goes_82, _, rfl, rfl⟩
      · replace hh := (if_neg c10).symm.trans hh
        refine J_iload (pc := 62) dX7_goes_62 rfl ?_
        refine J_if_lt (pc := 64) 77 dX7_goes_64 (by decide) (fun c9 => ?_) (fun c9 => ?_)
        · replace hh := (if_pos c9).symm.trans hh
          refine J_iconst (pc := 77) dX7_goes_77 ci_1 ?_
          refine J_goto (pc := 78) 82 dX7_goes_78 (by decide) ?_
          obtain rfl := Option.some.inj hh
          obtain ⟨rfl, rfl⟩ := hk
          exact J_ret (w := some (.int (1 : Int32))) ⟨dX7_goes_82, _, rfl, rfl⟩
        · replace hh := (if_neg c9).symm.trans hh
          refine J_iload (pc := 67) dX7_goes_67 rfl ?_
          refine J_iload_n (pc := 69) dX7_goes_69 rfl ?_
          refine J_iconst (pc := 70) dX7_goes_70 ci_0 ?_
          obtain ⟨y7, hy7, hh⟩ := bd_some hh
          refine J_callSi (pc := 71) (M' := MX7_part) (rest := [.int x5]) (As := [.int p1, .int (0 : Int32)]) (L0 := [some (.int p1), some (.int (0 : Int32))]) okX7_part osX7_part mlX7_81 rfl rfl (Nat.le_of_ble_eq_true rfl) dX7_goes_71 rfl (Nat.le_of_ble_eq_true rfl) (jX7_part (X := X) (d + 2) s p1 (0 : Int32) hy7) ?_
          refine J_icmp_ne (pc := 74) 81 dX7_goes_74 (by decide) (fun c8 => ?_) (fun c8 => ?_)
          · replace hh := (if_neg c8).symm.trans hh
            refine J_iconst (pc := 81) dX7_goes_81 ci_0 ?_
            obtain rfl := Option.some.inj hh
            obtain ⟨rfl, rfl⟩ := hk
            exact J_ret (w := some (.int (0 : Int32))) ⟨dX7_goes_82, _, rfl, rfl⟩
          · replace hh := (if_pos c8).symm.trans hh
            refine J_iconst (pc := 77) dX7_goes_77 ci_1 ?_
            refine J_goto (pc := 78) 82 dX7_goes_78 (by decide) ?_
            obtain rfl := Option.some.inj hh
            obtain ⟨rfl, rfl⟩ := hk
            exact J_ret (w := some (.int (1 : Int32))) ⟨dX7_goes_82, _, rfl, rfl⟩
  · replace hh := (if_pos c14).symm.trans hh
    refine J_iload_n (pc := 16) dX7_goes_16 rfl ?_
    refine J_if_le (pc := 17) 29 dX7_goes_17 (by decide) (fun c13 => ?_) (fun c13 => ?_)
    · replace hh := (if_pos c13).symm.trans hh
      refine J_iconst (pc := 29) dX7_goes_29 ci_0 ?_
      obtain rfl := Option.some.inj hh
      obtain ⟨rfl, rfl⟩ := hk
      exact J_ret (w := some (.int (0 : Int32))) ⟨dX7_goes_30, _, rfl, rfl⟩
    · replace hh := (if_neg c13).symm.trans hh
      refine J_iload (pc := 20) dX7_goes_20 rfl ?_
      refine J_if_ne (pc := 22) 29 dX7_goes_22 (by decide) (fun c12 => ?_) (fun c12 => ?_)
      · replace hh := (if_neg c12).symm.trans hh
        refine J_iconst (pc := 29) dX7_goes_29 ci_0 ?_
        obtain rfl := Option.some.inj hh
        obtain ⟨rfl, rfl⟩ := hk
        exact J_ret (w := some (.int (0 : Int32))) ⟨dX7_goes_30, _, rfl, rfl⟩
      · replace hh := (if_pos c12).symm.trans hh
        refine J_iconst (pc := 25) dX7_goes_25 ci_1 ?_
        refine J_goto (pc := 26) 30 dX7_goes_26 (by decide) ?_
        obtain rfl := Option.some.inj hh
        obtain ⟨rfl, rfl⟩ := hk
        exact J_ret (w := some (.int (1 : Int32))) ⟨dX7_goes_30, _, rfl, rfl⟩
theorem jX7_goes {X : Scr} (d : Nat) (s : Mem) (p0 : Int32) (p1 : Int32) (p2 : Int32) {r : Int32} (hh : fX7_goes s p0 p1 p2 = some r) : J X MX7_goes (d + 3) 0 [some (.ref 19), some (.int p0), some (.int p1), some (.int p2), none, none] [] s (some (.int r)) s := jjX7_goes d s p0 p1 p2 hh ⟨rfl, rfl⟩
theorem dX7_timeOf_0 : decode cX7_timeOf 0 = .ok (.aload_n 0, 1) := by decide +kernel
theorem dX7_timeOf_1 : decode cX7_timeOf 1 = .ok (.iload_n 1, 1) := by decide +kernel
theorem dX7_timeOf_2 : decode cX7_timeOf 2 = .ok (.iload_n 2, 1) := by decide +kernel
theorem dX7_timeOf_3 : decode cX7_timeOf 3 = .ok (.iload_n 3, 1) := by decide +kernel
theorem dX7_timeOf_4 : decode cX7_timeOf 4 = .ok (.invokevirtual 89, 3) := by decide +kernel
theorem dX7_timeOf_7 : decode cX7_timeOf 7 = .ok (.ifCond .eq 23, 3) := by decide +kernel
theorem dX7_timeOf_10 : decode cX7_timeOf 10 = .ok (.aload_n 0, 1) := by decide +kernel
theorem dX7_timeOf_11 : decode cX7_timeOf 11 = .ok (.getfield 9, 3) := by decide +kernel
theorem dX7_timeOf_14 : decode cX7_timeOf 14 = .ok (.iload_n 1, 1) := by decide +kernel
theorem dX7_timeOf_15 : decode cX7_timeOf 15 = .ok (.iload_n 3, 1) := by decide +kernel
theorem dX7_timeOf_16 : decode cX7_timeOf 16 = .ok (.iload_n 2, 1) := by decide +kernel
theorem dX7_timeOf_17 : decode cX7_timeOf 17 = .ok (.iload_n 3, 1) := by decide +kernel
theorem dX7_timeOf_18 : decode cX7_timeOf 18 = .ok (.invokestatic 81, 3) := by decide +kernel
theorem dX7_timeOf_21 : decode cX7_timeOf 21 = .ok (.invokestatic 73, 3) := by decide +kernel
theorem dX7_timeOf_24 : decode cX7_timeOf 24 = .ok (.iconst 1, 1) := by decide +kernel
theorem dX7_timeOf_25 : decode cX7_timeOf 25 = .ok (.iadd, 1) := by decide +kernel
theorem dX7_timeOf_26 : decode cX7_timeOf 26 = .ok (.iaload, 1) := by decide +kernel
theorem dX7_timeOf_27 : decode cX7_timeOf 27 = .ok (.goto 4, 3) := by decide +kernel
theorem dX7_timeOf_30 : decode cX7_timeOf 30 = .ok (.iconst 0, 1) := by decide +kernel
theorem dX7_timeOf_31 : decode cX7_timeOf 31 = .ok (.ireturn, 1) := by decide +kernel
def fX7_timeOf (s : Mem) (p0 : Int32) (p1 : Int32) (p2 : Int32) : Option Int32 :=
  (fX7_counts s p0 p1 p2).bind (fun y1 => if y1 = (0 : Int32) then some (0 : Int32) else (fX7_part p1 p2).bind (fun y2 => (fX7_at p0 p2 y2).bind (fun y3 => gd (y3 + (1 : Int32)) 139 (some ((s.1 20 (y3 + (1 : Int32)).toNatClampNeg))))))
set_option maxRecDepth 4000 in
theorem jjX7_timeOf {X : Scr} (d : Nat) (s : Mem) (p0 : Int32) (p1 : Int32) (p2 : Int32) {r : Int32} {w : Option Value} {s' : Mem} (hh : fX7_timeOf s p0 p1 p2 = some r) (hk : w = some (.int r) ∧ s = s') : J X MX7_timeOf (d + 3) 0 [some (.ref 19), some (.int p0), some (.int p1), some (.int p2)] [] s w s' := by
  unfold fX7_timeOf at hh
  refine J_aload_n (pc := 0) dX7_timeOf_0 rfl ?_
  refine J_iload_n (pc := 1) dX7_timeOf_1 rfl ?_
  refine J_iload_n (pc := 2) dX7_timeOf_2 rfl ?_
  refine J_iload_n (pc := 3) dX7_timeOf_3 rfl ?_
  obtain ⟨y1, hy1, hh⟩ := bd_some hh
  refine J_callVi (pc := 4) (M' := MX7_counts) (a := 19) (rest := []) (As := [.int p0, .int p1, .int p2]) (L0 := [some (.ref 19), some (.int p0), some (.int p1), some (.int p2)]) okX7_counts ovX7_counts mlX7_89 clX7 so19 rfl rfl (Nat.le_of_ble_eq_true rfl) dX7_timeOf_4 rfl (Nat.le_of_ble_eq_true rfl) (jX7_counts (X := X) d s p0 p1 p2 hy1) ?_
  refine J_if_eq (pc := 7) 30 dX7_timeOf_7 (by decide) (fun c5 => ?_) (fun c5 => ?_)
  · replace hh := (if_pos c5).symm.trans hh
    refine J_iconst (pc := 30) dX7_timeOf_30 ci_0 ?_
    obtain rfl := Option.some.inj hh
    obtain ⟨rfl, rfl⟩ := hk
    exact J_ret (w := some (.int (0 : Int32))) ⟨dX7_timeOf_31, _, rfl, rfl⟩
  · replace hh := (if_neg c5).symm.trans hh
    refine J_aload_n (pc := 10) dX7_timeOf_10 rfl ?_
    refine J_getR (pc := 11) (k := 0) flX7_9 so19 fk19_0 dX7_timeOf_11 ?_
    refine J_iload_n (pc := 14) dX7_timeOf_14 rfl ?_
    refine J_iload_n (pc := 15) dX7_timeOf_15 rfl ?_
    refine J_iload_n (pc := 16) dX7_timeOf_16 rfl ?_
    refine J_iload_n (pc := 17) dX7_timeOf_17 rfl ?_
    obtain ⟨y2, hy2, hh⟩ := bd_some hh
    refine J_callSi (pc := 18) (M' := MX7_part) (rest := [.int p2, .int p0, .ref 20]) (As := [.int p1, .int p2]) (L0 := [some (.int p1), some (.int p2)]) okX7_part osX7_part mlX7_81 rfl rfl (Nat.le_of_ble_eq_true rfl) dX7_timeOf_18 rfl (Nat.le_of_ble_eq_true rfl) (jX7_part (X := X) (d + 2) s p1 p2 hy2) ?_
    obtain ⟨y3, hy3, hh⟩ := bd_some hh
    refine J_callSi (pc := 21) (M' := MX7_at) (rest := [.ref 20]) (As := [.int p0, .int p2, .int y2]) (L0 := [some (.int p0), some (.int p2), some (.int y2)]) okX7_at osX7_at mlX7_73 rfl rfl (Nat.le_of_ble_eq_true rfl) dX7_timeOf_21 rfl (Nat.le_of_ble_eq_true rfl) (jX7_at (X := X) (d + 2) s p0 p2 y2 hy3) ?_
    refine J_iconst (pc := 24) dX7_timeOf_24 ci_1 ?_
    refine J_iadd (pc := 25) dX7_timeOf_25 ?_
    obtain ⟨h4, hh⟩ := gd_some hh
    refine J_iald (pc := 26) dX7_timeOf_26 sa20 h4 ?_
    refine J_goto (pc := 27) 31 dX7_timeOf_27 (by decide) ?_
    obtain rfl := Option.some.inj hh
    obtain ⟨rfl, rfl⟩ := hk
    exact J_ret (w := some (.int (s.1 20 (y3 + (1 : Int32)).toNatClampNeg))) ⟨dX7_timeOf_31, _, rfl, rfl⟩
theorem jX7_timeOf {X : Scr} (d : Nat) (s : Mem) (p0 : Int32) (p1 : Int32) (p2 : Int32) {r : Int32} (hh : fX7_timeOf s p0 p1 p2 = some r) : J X MX7_timeOf (d + 3) 0 [some (.ref 19), some (.int p0), some (.int p1), some (.int p2)] [] s (some (.int r)) s := jjX7_timeOf d s p0 p1 p2 hh ⟨rfl, rfl⟩
theorem dX7_timeOf__0 : decode cX7_timeOf_ 0 = .ok (.aload_n 0, 1) := by decide +kernel
theorem dX7_timeOf__1 : decode cX7_timeOf_ 1 = .ok (.iload_n 1, 1) := by decide +kernel
theorem dX7_timeOf__2 : decode cX7_timeOf_ 2 = .ok (.iload_n 2, 1) := by decide +kernel
theorem dX7_timeOf__3 : decode cX7_timeOf_ 3 = .ok (.iconst 0, 1) := by decide +kernel
theorem dX7_timeOf__4 : decode cX7_timeOf_ 4 = .ok (.invokevirtual 92, 3) := by decide +kernel
theorem dX7_timeOf__7 : decode cX7_timeOf_ 7 = .ok (.aload_n 0, 1) := by decide +kernel
theorem dX7_timeOf__8 : decode cX7_timeOf_ 8 = .ok (.iload_n 1, 1) := by decide +kernel
theorem dX7_timeOf__9 : decode cX7_timeOf_ 9 = .ok (.iload_n 2, 1) := by decide +kernel
theorem dX7_timeOf__10 : decode cX7_timeOf_ 10 = .ok (.iconst 1, 1) := by decide +kernel
theorem dX7_timeOf__11 : decode cX7_timeOf_ 11 = .ok (.invokevirtual 92, 3) := by decide +kernel
theorem dX7_timeOf__14 : decode cX7_timeOf_ 14 = .ok (.ior, 1) := by decide +kernel
theorem dX7_timeOf__15 : decode cX7_timeOf_ 15 = .ok (.aload_n 0, 1) := by decide +kernel
theorem dX7_timeOf__16 : decode cX7_timeOf_ 16 = .ok (.iload_n 1, 1) := by decide +kernel
theorem dX7_timeOf__17 : decode cX7_timeOf_ 17 = .ok (.iload_n 2, 1) := by decide +kernel
theorem dX7_timeOf__18 : decode cX7_timeOf_ 18 = .ok (.iconst 2, 1) := by decide +kernel
theorem dX7_timeOf__19 : decode cX7_timeOf_ 19 = .ok (.invokevirtual 92, 3) := by decide +kernel
theorem dX7_timeOf__22 : decode cX7_timeOf_ 22 = .ok (.ior, 1) := by decide +kernel
theorem dX7_timeOf__23 : decode cX7_timeOf_ 23 = .ok (.ireturn, 1) := by decide +kernel
def fX7_timeOf_ (s : Mem) (p0 : Int32) (p1 : Int32) : Option Int32 :=
  (fX7_timeOf s p0 p1 (0 : Int32)).bind (fun y1 => (fX7_timeOf s p0 p1 (1 : Int32)).bind (fun y2 => (fX7_timeOf s p0 p1 (2 : Int32)).bind (fun y3 => some (((y1 ||| y2) ||| y3)))))
set_option maxRecDepth 4000 in
theorem jjX7_timeOf_ {X : Scr} (d : Nat) (s : Mem) (p0 : Int32) (p1 : Int32) {r : Int32} {w : Option Value} {s' : Mem} (hh : fX7_timeOf_ s p0 p1 = some r) (hk : w = some (.int r) ∧ s = s') : J X MX7_timeOf_ (d + 4) 0 [some (.ref 19), some (.int p0), some (.int p1)] [] s w s' := by
  unfold fX7_timeOf_ at hh
  refine J_aload_n (pc := 0) dX7_timeOf__0 rfl ?_
  refine J_iload_n (pc := 1) dX7_timeOf__1 rfl ?_
  refine J_iload_n (pc := 2) dX7_timeOf__2 rfl ?_
  refine J_iconst (pc := 3) dX7_timeOf__3 ci_0 ?_
  obtain ⟨y1, hy1, hh⟩ := bd_some hh
  refine J_callVi (pc := 4) (M' := MX7_timeOf) (a := 19) (rest := []) (As := [.int p0, .int p1, .int (0 : Int32)]) (L0 := [some (.ref 19), some (.int p0), some (.int p1), some (.int (0 : Int32))]) okX7_timeOf ovX7_timeOf mlX7_92 clX7 so19 rfl rfl (Nat.le_of_ble_eq_true rfl) dX7_timeOf__4 rfl (Nat.le_of_ble_eq_true rfl) (jX7_timeOf (X := X) d s p0 p1 (0 : Int32) hy1) ?_
  refine J_aload_n (pc := 7) dX7_timeOf__7 rfl ?_
  refine J_iload_n (pc := 8) dX7_timeOf__8 rfl ?_
  refine J_iload_n (pc := 9) dX7_timeOf__9 rfl ?_
  refine J_iconst (pc := 10) dX7_timeOf__10 ci_1 ?_
  obtain ⟨y2, hy2, hh⟩ := bd_some hh
  refine J_callVi (pc := 11) (M' := MX7_timeOf) (a := 19) (rest := [.int y1]) (As := [.int p0, .int p1, .int (1 : Int32)]) (L0 := [some (.ref 19), some (.int p0), some (.int p1), some (.int (1 : Int32))]) okX7_timeOf ovX7_timeOf mlX7_92 clX7 so19 rfl rfl (Nat.le_of_ble_eq_true rfl) dX7_timeOf__11 rfl (Nat.le_of_ble_eq_true rfl) (jX7_timeOf (X := X) d s p0 p1 (1 : Int32) hy2) ?_
  refine J_ior (pc := 14) dX7_timeOf__14 ?_
  refine J_aload_n (pc := 15) dX7_timeOf__15 rfl ?_
  refine J_iload_n (pc := 16) dX7_timeOf__16 rfl ?_
  refine J_iload_n (pc := 17) dX7_timeOf__17 rfl ?_
  refine J_iconst (pc := 18) dX7_timeOf__18 ci_2 ?_
  obtain ⟨y3, hy3, hh⟩ := bd_some hh
  refine J_callVi (pc := 19) (M' := MX7_timeOf) (a := 19) (rest := [.int (y1 ||| y2)]) (As := [.int p0, .int p1, .int (2 : Int32)]) (L0 := [some (.ref 19), some (.int p0), some (.int p1), some (.int (2 : Int32))]) okX7_timeOf ovX7_timeOf mlX7_92 clX7 so19 rfl rfl (Nat.le_of_ble_eq_true rfl) dX7_timeOf__19 rfl (Nat.le_of_ble_eq_true rfl) (jX7_timeOf (X := X) d s p0 p1 (2 : Int32) hy3) ?_
  refine J_ior (pc := 22) dX7_timeOf__22 ?_
  obtain rfl := Option.some.inj hh
  obtain ⟨rfl, rfl⟩ := hk
  exact J_ret (w := some (.int ((y1 ||| y2) ||| y3))) ⟨dX7_timeOf__23, _, rfl, rfl⟩
theorem jX7_timeOf_ {X : Scr} (d : Nat) (s : Mem) (p0 : Int32) (p1 : Int32) {r : Int32} (hh : fX7_timeOf_ s p0 p1 = some r) : J X MX7_timeOf_ (d + 4) 0 [some (.ref 19), some (.int p0), some (.int p1)] [] s (some (.int r)) s := jjX7_timeOf_ d s p0 p1 hh ⟨rfl, rfl⟩
theorem dX7_isLawful_0 : decode cX7_isLawful 0 = .ok (.iconst 0, 1) := by decide +kernel
theorem dX7_isLawful_1 : decode cX7_isLawful 1 = .ok (.istore_n 3, 1) := by decide +kernel
theorem dX7_isLawful_2 : decode cX7_isLawful 2 = .ok (.iload_n 3, 1) := by decide +kernel
theorem dX7_isLawful_3 : decode cX7_isLawful 3 = .ok (.iconst 3, 1) := by decide +kernel
theorem dX7_isLawful_4 : decode cX7_isLawful 4 = .ok (.if_icmp .ge 21, 3) := by decide +kernel
theorem dX7_isLawful_7 : decode cX7_isLawful 7 = .ok (.aload_n 0, 1) := by decide +kernel
theorem dX7_isLawful_8 : decode cX7_isLawful 8 = .ok (.iload_n 1, 1) := by decide +kernel
theorem dX7_isLawful_9 : decode cX7_isLawful 9 = .ok (.iload_n 2, 1) := by decide +kernel
theorem dX7_isLawful_10 : decode cX7_isLawful 10 = .ok (.iload_n 3, 1) := by decide +kernel
theorem dX7_isLawful_11 : decode cX7_isLawful 11 = .ok (.invokevirtual 95, 3) := by decide +kernel
theorem dX7_isLawful_14 : decode cX7_isLawful 14 = .ok (.ifCond .ne 5, 3) := by decide +kernel
theorem dX7_isLawful_17 : decode cX7_isLawful 17 = .ok (.iconst 0, 1) := by decide +kernel
theorem dX7_isLawful_18 : decode cX7_isLawful 18 = .ok (.ireturn, 1) := by decide +kernel
theorem dX7_isLawful_19 : decode cX7_isLawful 19 = .ok (.iinc 3 1, 3) := by decide +kernel
theorem dX7_isLawful_22 : decode cX7_isLawful 22 = .ok (.goto (-20), 3) := by decide +kernel
theorem dX7_isLawful_25 : decode cX7_isLawful 25 = .ok (.aload_n 0, 1) := by decide +kernel
theorem dX7_isLawful_26 : decode cX7_isLawful 26 = .ok (.iload_n 1, 1) := by decide +kernel
theorem dX7_isLawful_27 : decode cX7_isLawful 27 = .ok (.iload_n 2, 1) := by decide +kernel
theorem dX7_isLawful_28 : decode cX7_isLawful 28 = .ok (.iconst 0, 1) := by decide +kernel
theorem dX7_isLawful_29 : decode cX7_isLawful 29 = .ok (.invokevirtual 92, 3) := by decide +kernel
theorem dX7_isLawful_32 : decode cX7_isLawful 32 = .ok (.istore_n 3, 1) := by decide +kernel
theorem dX7_isLawful_33 : decode cX7_isLawful 33 = .ok (.aload_n 0, 1) := by decide +kernel
theorem dX7_isLawful_34 : decode cX7_isLawful 34 = .ok (.iload_n 1, 1) := by decide +kernel
theorem dX7_isLawful_35 : decode cX7_isLawful 35 = .ok (.iload_n 2, 1) := by decide +kernel
theorem dX7_isLawful_36 : decode cX7_isLawful 36 = .ok (.iconst 1, 1) := by decide +kernel
theorem dX7_isLawful_37 : decode cX7_isLawful 37 = .ok (.invokevirtual 92, 3) := by decide +kernel
theorem dX7_isLawful_40 : decode cX7_isLawful 40 = .ok (.istore 4, 2) := by decide +kernel
theorem dX7_isLawful_42 : decode cX7_isLawful 42 = .ok (.aload_n 0, 1) := by decide +kernel
theorem dX7_isLawful_43 : decode cX7_isLawful 43 = .ok (.iload_n 1, 1) := by decide +kernel
theorem dX7_isLawful_44 : decode cX7_isLawful 44 = .ok (.iload_n 2, 1) := by decide +kernel
theorem dX7_isLawful_45 : decode cX7_isLawful 45 = .ok (.iconst 2, 1) := by decide +kernel
theorem dX7_isLawful_46 : decode cX7_isLawful 46 = .ok (.invokevirtual 92, 3) := by decide +kernel
theorem dX7_isLawful_49 : decode cX7_isLawful 49 = .ok (.istore 5, 2) := by decide +kernel
theorem dX7_isLawful_51 : decode cX7_isLawful 51 = .ok (.iload_n 3, 1) := by decide +kernel
theorem dX7_isLawful_52 : decode cX7_isLawful 52 = .ok (.iload 4, 2) := by decide +kernel
theorem dX7_isLawful_54 : decode cX7_isLawful 54 = .ok (.iand, 1) := by decide +kernel
theorem dX7_isLawful_55 : decode cX7_isLawful 55 = .ok (.ifCond .ne 22, 3) := by decide +kernel
theorem dX7_isLawful_58 : decode cX7_isLawful 58 = .ok (.iload_n 3, 1) := by decide +kernel
theorem dX7_isLawful_59 : decode cX7_isLawful 59 = .ok (.iload 5, 2) := by decide +kernel
theorem dX7_isLawful_61 : decode cX7_isLawful 61 = .ok (.iand, 1) := by decide +kernel
theorem dX7_isLawful_62 : decode cX7_isLawful 62 = .ok (.ifCond .ne 15, 3) := by decide +kernel
theorem dX7_isLawful_65 : decode cX7_isLawful 65 = .ok (.iload 4, 2) := by decide +kernel
theorem dX7_isLawful_67 : decode cX7_isLawful 67 = .ok (.iload 5, 2) := by decide +kernel
theorem dX7_isLawful_69 : decode cX7_isLawful 69 = .ok (.iand, 1) := by decide +kernel
theorem dX7_isLawful_70 : decode cX7_isLawful 70 = .ok (.ifCond .ne 7, 3) := by decide +kernel
theorem dX7_isLawful_73 : decode cX7_isLawful 73 = .ok (.iconst 1, 1) := by decide +kernel
theorem dX7_isLawful_74 : decode cX7_isLawful 74 = .ok (.goto 4, 3) := by decide +kernel
theorem dX7_isLawful_77 : decode cX7_isLawful 77 = .ok (.iconst 0, 1) := by decide +kernel
theorem dX7_isLawful_78 : decode cX7_isLawful 78 = .ok (.ireturn, 1) := by decide +kernel
def bX7_isLawful_2 (s : Mem) (v1 : Int32) (v2 : Int32) (v3 : Int32) : Option ((Int32 ⊕ Unit) ⊕ Int32) :=
  if (3 : Int32) ≤ v3 then some (Sum.inl (Sum.inr ())) else (fX7_goes s v1 v2 v3).bind (fun y1 => if y1 = (0 : Int32) then some (Sum.inl (Sum.inl (0 : Int32))) else lt (v3 + (1 : Int32)) (fun x2 => some (Sum.inr x2)))
set_option maxRecDepth 4000 in
theorem jbX7_isLawful_2 {X : Scr} (d : Nat) (s : Mem) (v1 : Int32) (v2 : Int32) (v3 : Int32) {r : ((Int32 ⊕ Unit) ⊕ Int32)} {w : Option Value} {s' : Mem} (hh : bX7_isLawful_2 s v1 v2 v3 = some r) (hk : Sum.elim (Sum.elim (fun q : Int32 => w = some (.int q) ∧ s = s') (fun t : Unit => J X MX7_isLawful (d + 4) 25 [some (.ref 19), some (.int v1), some (.int v2), none, none, none] [] s w s')) (fun a : Int32 => J X MX7_isLawful (d + 4) 2 [some (.ref 19), some (.int v1), some (.int v2), some (.int a), none, none] [] s w s') r) : J X MX7_isLawful (d + 4) 2 [some (.ref 19), some (.int v1), some (.int v2), some (.int v3), none, none] [] s w s' := by
  unfold bX7_isLawful_2 at hh
  refine J_iload_n (pc := 2) dX7_isLawful_2 rfl ?_
  refine J_iconst (pc := 3) dX7_isLawful_3 ci_3 ?_
  refine J_icmp_ge (pc := 4) 25 dX7_isLawful_4 (by decide) (fun c4 => ?_) (fun c4 => ?_)
  · replace hh := (if_pos c4).symm.trans hh
    refine J_drop 3 (L' := [some (.ref 19), some (.int v1), some (.int v2), none, none, none]) rfl ?_
    obtain rfl := Option.some.inj hh
    exact hk
  · replace hh := (if_neg c4).symm.trans hh
    refine J_aload_n (pc := 7) dX7_isLawful_7 rfl ?_
    refine J_iload_n (pc := 8) dX7_isLawful_8 rfl ?_
    refine J_iload_n (pc := 9) dX7_isLawful_9 rfl ?_
    refine J_iload_n (pc := 10) dX7_isLawful_10 rfl ?_
    obtain ⟨y1, hy1, hh⟩ := bd_some hh
    refine J_callVi (pc := 11) (M' := MX7_goes) (a := 19) (rest := []) (As := [.int v1, .int v2, .int v3]) (L0 := [some (.ref 19), some (.int v1), some (.int v2), some (.int v3), none, none]) okX7_goes ovX7_goes mlX7_95 clX7 so19 rfl rfl (Nat.le_of_ble_eq_true rfl) dX7_isLawful_11 rfl (Nat.le_of_ble_eq_true rfl) (jX7_goes (X := X) d s v1 v2 v3 hy1) ?_
    refine J_if_ne (pc := 14) 19 dX7_isLawful_14 (by decide) (fun c3 => ?_) (fun c3 => ?_)
    · replace hh := (if_neg c3).symm.trans hh
      refine J_iincL (pc := 19) (v := v3 + (1 : Int32)) (fun x2 => [some (.ref 19), some (.int v1), some (.int v2), some (.int x2), none, none]) dX7_isLawful_19 rfl rfl (Nat.le_of_ble_eq_true rfl) (congrArg _ ci_1) (fun _ => rfl) hh (fun x2 hh => ?_)
      refine J_goto (pc := 22) 2 dX7_isLawful_22 (by decide) ?_
      obtain rfl := Option.some.inj hh
      exact hk
    · replace hh := (if_pos c3).symm.trans hh
      refine J_iconst (pc := 17) dX7_isLawful_17 ci_0 ?_
      obtain rfl := Option.some.inj hh
      obtain ⟨rfl, rfl⟩ := hk
      exact J_ret (w := some (.int (0 : Int32))) ⟨dX7_isLawful_18, _, rfl, rfl⟩
def fX7_isLawful (s : Mem) (p0 : Int32) (p1 : Int32) : Option Int32 :=
  (lp (fun a => bX7_isLawful_2 s p0 p1 a) 600 (0 : Int32)).bind (fun y5 => Sum.elim (fun q7 => some q7) (fun t6 => (fX7_timeOf s p0 p1 (0 : Int32)).bind (fun y8 => (fX7_timeOf s p0 p1 (1 : Int32)).bind (fun y9 => (fX7_timeOf s p0 p1 (2 : Int32)).bind (fun y10 => if (y8 &&& y9) = (0 : Int32) then if (y8 &&& y10) = (0 : Int32) then if (y9 &&& y10) = (0 : Int32) then some (1 : Int32) else some (0 : Int32) else some (0 : Int32) else some (0 : Int32))))) y5)
set_option maxRecDepth 4000 in
theorem jjX7_isLawful {X : Scr} (d : Nat) (s : Mem) (p0 : Int32) (p1 : Int32) {r : Int32} {w : Option Value} {s' : Mem} (hh : fX7_isLawful s p0 p1 = some r) (hk : w = some (.int r) ∧ s = s') : J X MX7_isLawful (d + 4) 0 [some (.ref 19), some (.int p0), some (.int p1), none, none, none] [] s w s' := by
  unfold fX7_isLawful at hh
  refine J_iconst (pc := 0) dX7_isLawful_0 ci_0 ?_
  refine J_istore_n (pc := 1) (L' := [some (.ref 19), some (.int p0), some (.int p1), some (.int (0 : Int32)), none, none]) dX7_isLawful_1 rfl (Nat.le_of_ble_eq_true rfl) rfl ?_
  obtain ⟨y5, hy5, hh⟩ := bd_some hh
  refine J_lp (a := (0 : Int32)) (fun a : Int32 => J X MX7_isLawful (d + 4) 2 [some (.ref 19), some (.int p0), some (.int p1), some (.int a), none, none] [] s w s') (Sum.elim (fun q : Int32 => w = some (.int q) ∧ s = s') (fun t : Unit => J X MX7_isLawful (d + 4) 25 [some (.ref 19), some (.int p0), some (.int p1), none, none, none] [] s w s')) (fun a q h1 h2 => jbX7_isLawful_2 d s p0 p1 a h1 h2) hy5 ?_
  cases y5 with
  | inl q7 =>
    obtain rfl := Option.some.inj hh
    exact hk
  | inr t6 =>
    skip
    replace hh : ((fX7_timeOf s p0 p1 (0 : Int32)).bind (fun y8 => (fX7_timeOf s p0 p1 (1 : Int32)).bind (fun y9 => (fX7_timeOf s p0 p1 (2 : Int32)).bind (fun y10 => if (y8 &&& y9) = (0 : Int32) then if (y8 &&& y10) = (0 : Int32) then if (y9 &&& y10) = (0 : Int32) then some (1 : Int32) else some (0 : Int32) else some (0 : Int32) else some (0 : Int32))))) = some r := hh
    refine J_aload_n (pc := 25) dX7_isLawful_25 rfl ?_
    refine J_iload_n (pc := 26) dX7_isLawful_26 rfl ?_
    refine J_iload_n (pc := 27) dX7_isLawful_27 rfl ?_
    refine J_iconst (pc := 28) dX7_isLawful_28 ci_0 ?_
    obtain ⟨y8, hy8, hh⟩ := bd_some hh
    refine J_callVi (pc := 29) (M' := MX7_timeOf) (a := 19) (rest := []) (As := [.int p0, .int p1, .int (0 : Int32)]) (L0 := [some (.ref 19), some (.int p0), some (.int p1), some (.int (0 : Int32))]) okX7_timeOf ovX7_timeOf mlX7_92 clX7 so19 rfl rfl (Nat.le_of_ble_eq_true rfl) dX7_isLawful_29 rfl (Nat.le_of_ble_eq_true rfl) (jX7_timeOf (X := X) d s p0 p1 (0 : Int32) hy8) ?_
    refine J_istore_n (pc := 32) (L' := [some (.ref 19), some (.int p0), some (.int p1), some (.int y8), none, none]) dX7_isLawful_32 rfl (Nat.le_of_ble_eq_true rfl) rfl ?_
    refine J_aload_n (pc := 33) dX7_isLawful_33 rfl ?_
    refine J_iload_n (pc := 34) dX7_isLawful_34 rfl ?_
    refine J_iload_n (pc := 35) dX7_isLawful_35 rfl ?_
    refine J_iconst (pc := 36) dX7_isLawful_36 ci_1 ?_
    obtain ⟨y9, hy9, hh⟩ := bd_some hh
    refine J_callVi (pc := 37) (M' := MX7_timeOf) (a := 19) (rest := []) (As := [.int p0, .int p1, .int (1 : Int32)]) (L0 := [some (.ref 19), some (.int p0), some (.int p1), some (.int (1 : Int32))]) okX7_timeOf ovX7_timeOf mlX7_92 clX7 so19 rfl rfl (Nat.le_of_ble_eq_true rfl) dX7_isLawful_37 rfl (Nat.le_of_ble_eq_true rfl) (jX7_timeOf (X := X) d s p0 p1 (1 : Int32) hy9) ?_
    refine J_istore (pc := 40) (L' := [some (.ref 19), some (.int p0), some (.int p1), some (.int y8), some (.int y9), none]) dX7_isLawful_40 rfl (Nat.le_of_ble_eq_true rfl) rfl ?_
    refine J_aload_n (pc := 42) dX7_isLawful_42 rfl ?_
    refine J_iload_n (pc := 43) dX7_isLawful_43 rfl ?_
    refine J_iload_n (pc := 44) dX7_isLawful_44 rfl ?_
    refine J_iconst (pc := 45) dX7_isLawful_45 ci_2 ?_
    obtain ⟨y10, hy10, hh⟩ := bd_some hh
    refine J_callVi (pc := 46) (M' := MX7_timeOf) (a := 19) (rest := []) (As := [.int p0, .int p1, .int (2 : Int32)]) (L0 := [some (.ref 19), some (.int p0), some (.int p1), some (.int (2 : Int32))]) okX7_timeOf ovX7_timeOf mlX7_92 clX7 so19 rfl rfl (Nat.le_of_ble_eq_true rfl) dX7_isLawful_46 rfl (Nat.le_of_ble_eq_true rfl) (jX7_timeOf (X := X) d s p0 p1 (2 : Int32) hy10) ?_
    refine J_istore (pc := 49) (L' := [some (.ref 19), some (.int p0), some (.int p1), some (.int y8), some (.int y9), some (.int y10)]) dX7_isLawful_49 rfl (Nat.le_of_ble_eq_true rfl) rfl ?_
    refine J_iload_n (pc := 51) dX7_isLawful_51 rfl ?_
    refine J_iload (pc := 52) dX7_isLawful_52 rfl ?_
    refine J_iand (pc := 54) dX7_isLawful_54 ?_
    refine J_if_ne (pc := 55) 77 dX7_isLawful_55 (by decide) (fun c13 => ?_) (fun c13 => ?_)
    · replace hh := (if_neg c13).symm.trans hh
      refine J_iconst (pc := 77) dX7_isLawful_77 ci_0 ?_
      obtain rfl := Option.some.inj hh
      obtain ⟨rfl, rfl⟩ := hk
      exact J_ret (w := some (.int (0 : Int32))) ⟨dX7_isLawful_78, _, rfl, rfl⟩
    · replace hh := (if_pos c13).symm.trans hh
      refine J_iload_n (pc := 58) dX7_isLawful_58 rfl ?_
      refine J_iload (pc := 59) dX7_isLawful_59 rfl ?_
      refine J_iand (pc := 61) dX7_isLawful_61 ?_
      refine J_if_ne (pc := 62) 77 dX7_isLawful_62 (by decide) (fun c12 => ?_) (fun c12 => ?_)
      · replace hh := (if_neg c12).symm.trans hh
        refine J_iconst (pc := 77) dX7_isLawful_77 ci_0 ?_
        obtain rfl := Option.some.inj hh
        obtain ⟨rfl, rfl⟩ := hk
        exact J_ret (w := some (.int (0 : Int32))) ⟨dX7_isLawful_78, _, rfl, rfl⟩
      · replace hh := (if_pos c12).symm.trans hh
        refine J_iload (pc := 65) dX7_isLawful_65 rfl ?_
        refine J_iload (pc := 67) dX7_isLawful_67 rfl ?_
        refine J_iand (pc := 69) dX7_isLawful_69 ?_
        refine J_if_ne (pc := 70) 77 dX7_isLawful_70 (by decide) (fun c11 => ?_) (fun c11 => ?_)
        · replace hh := (if_neg c11).symm.trans hh
          refine J_iconst (pc := 77) dX7_isLawful_77 ci_0 ?_
          obtain rfl := Option.some.inj hh
          obtain ⟨rfl, rfl⟩ := hk
          exact J_ret (w := some (.int (0 : Int32))) ⟨dX7_isLawful_78, _, rfl, rfl⟩
        · replace hh := (if_pos c11).symm.trans hh
          refine J_iconst (pc := 73) dX7_isLawful_73 ci_1 ?_
          refine J_goto (pc := 74) 78 dX7_isLawful_74 (by decide) ?_
          obtain rfl := Option.some.inj hh
          obtain ⟨rfl, rfl⟩ := hk
          exact J_ret (w := some (.int (1 : Int32))) ⟨dX7_isLawful_78, _, rfl, rfl⟩
theorem jX7_isLawful {X : Scr} (d : Nat) (s : Mem) (p0 : Int32) (p1 : Int32) {r : Int32} (hh : fX7_isLawful s p0 p1 = some r) : J X MX7_isLawful (d + 4) 0 [some (.ref 19), some (.int p0), some (.int p1), none, none, none] [] s (some (.int r)) s := jjX7_isLawful d s p0 p1 hh ⟨rfl, rfl⟩
theorem dX7_lawful_0 : decode cX7_lawful 0 = .ok (.iconst 0, 1) := by decide +kernel
theorem dX7_lawful_1 : decode cX7_lawful 1 = .ok (.istore_n 2, 1) := by decide +kernel
theorem dX7_lawful_2 : decode cX7_lawful 2 = .ok (.iconst 0, 1) := by decide +kernel
theorem dX7_lawful_3 : decode cX7_lawful 3 = .ok (.istore_n 3, 1) := by decide +kernel
theorem dX7_lawful_4 : decode cX7_lawful 4 = .ok (.iload_n 3, 1) := by decide +kernel
theorem dX7_lawful_5 : decode cX7_lawful 5 = .ok (.bipush 8, 2) := by decide +kernel
theorem dX7_lawful_7 : decode cX7_lawful 7 = .ok (.if_icmp .ge 28, 3) := by decide +kernel
theorem dX7_lawful_10 : decode cX7_lawful 10 = .ok (.iload_n 2, 1) := by decide +kernel
theorem dX7_lawful_11 : decode cX7_lawful 11 = .ok (.aload_n 0, 1) := by decide +kernel
theorem dX7_lawful_12 : decode cX7_lawful 12 = .ok (.iload_n 1, 1) := by decide +kernel
theorem dX7_lawful_13 : decode cX7_lawful 13 = .ok (.iload_n 3, 1) := by decide +kernel
theorem dX7_lawful_14 : decode cX7_lawful 14 = .ok (.invokevirtual 98, 3) := by decide +kernel
theorem dX7_lawful_17 : decode cX7_lawful 17 = .ok (.ifCond .eq 9, 3) := by decide +kernel
theorem dX7_lawful_20 : decode cX7_lawful 20 = .ok (.iconst 1, 1) := by decide +kernel
theorem dX7_lawful_21 : decode cX7_lawful 21 = .ok (.iload_n 3, 1) := by decide +kernel
theorem dX7_lawful_22 : decode cX7_lawful 22 = .ok (.ishl, 1) := by decide +kernel
theorem dX7_lawful_23 : decode cX7_lawful 23 = .ok (.goto 4, 3) := by decide +kernel
theorem dX7_lawful_26 : decode cX7_lawful 26 = .ok (.iconst 0, 1) := by decide +kernel
theorem dX7_lawful_27 : decode cX7_lawful 27 = .ok (.ior, 1) := by decide +kernel
theorem dX7_lawful_28 : decode cX7_lawful 28 = .ok (.istore_n 2, 1) := by decide +kernel
theorem dX7_lawful_29 : decode cX7_lawful 29 = .ok (.iinc 3 1, 3) := by decide +kernel
theorem dX7_lawful_32 : decode cX7_lawful 32 = .ok (.goto (-28), 3) := by decide +kernel
theorem dX7_lawful_35 : decode cX7_lawful 35 = .ok (.iload_n 2, 1) := by decide +kernel
theorem dX7_lawful_36 : decode cX7_lawful 36 = .ok (.ireturn, 1) := by decide +kernel
def bX7_lawful_4 (s : Mem) (v1 : Int32) (v2 : Int32) (v3 : Int32) : Option (Int32 ⊕ (Int32 × Int32)) :=
  if (8 : Int32) ≤ v3 then some (Sum.inl v2) else (fX7_isLawful s v1 v3).bind (fun y1 => if y1 = (0 : Int32) then lt (v2 ||| (0 : Int32)) (fun x2 => lt (v3 + (1 : Int32)) (fun x3 => some (Sum.inr (x2, x3)))) else lt (v2 ||| ((1 : Int32) <<< (v3 &&& 31))) (fun x4 => lt (v3 + (1 : Int32)) (fun x5 => some (Sum.inr (x4, x5)))))
set_option maxRecDepth 4000 in
theorem jbX7_lawful_4 {X : Scr} (d : Nat) (s : Mem) (v1 : Int32) (v2 : Int32) (v3 : Int32) {r : (Int32 ⊕ (Int32 × Int32))} {w : Option Value} {s' : Mem} (hh : bX7_lawful_4 s v1 v2 v3 = some r) (hk : Sum.elim (fun t : Int32 => J X MX7_lawful (d + 5) 35 [none, none, some (.int t), none] [] s w s') (fun a : (Int32 × Int32) => J X MX7_lawful (d + 5) 4 [some (.ref 19), some (.int v1), some (.int a.1), some (.int a.2)] [] s w s') r) : J X MX7_lawful (d + 5) 4 [some (.ref 19), some (.int v1), some (.int v2), some (.int v3)] [] s w s' := by
  unfold bX7_lawful_4 at hh
  refine J_iload_n (pc := 4) dX7_lawful_4 rfl ?_
  refine J_bipush (pc := 5) dX7_lawful_5 cb_8 ?_
  refine J_icmp_ge (pc := 7) 35 dX7_lawful_7 (by decide) (fun c7 => ?_) (fun c7 => ?_)
  · replace hh := (if_pos c7).symm.trans hh
    refine J_drop 0 (L' := [none, some (.int v1), some (.int v2), some (.int v3)]) rfl ?_
    refine J_drop 1 (L' := [none, none, some (.int v2), some (.int v3)]) rfl ?_
    refine J_drop 3 (L' := [none, none, some (.int v2), none]) rfl ?_
    obtain rfl := Option.some.inj hh
    exact hk
  · replace hh := (if_neg c7).symm.trans hh
    refine J_iload_n (pc := 10) dX7_lawful_10 rfl ?_
    refine J_aload_n (pc := 11) dX7_lawful_11 rfl ?_
    refine J_iload_n (pc := 12) dX7_lawful_12 rfl ?_
    refine J_iload_n (pc := 13) dX7_lawful_13 rfl ?_
    obtain ⟨y1, hy1, hh⟩ := bd_some hh
    refine J_callVi (pc := 14) (M' := MX7_isLawful) (a := 19) (rest := [.int v2]) (As := [.int v1, .int v3]) (L0 := [some (.ref 19), some (.int v1), some (.int v3), none, none, none]) okX7_isLawful ovX7_isLawful mlX7_98 clX7 so19 rfl rfl (Nat.le_of_ble_eq_true rfl) dX7_lawful_14 rfl (Nat.le_of_ble_eq_true rfl) (jX7_isLawful (X := X) d s v1 v3 hy1) ?_
    refine J_if_eq (pc := 17) 26 dX7_lawful_17 (by decide) (fun c6 => ?_) (fun c6 => ?_)
    · replace hh := (if_pos c6).symm.trans hh
      refine J_iconst (pc := 26) dX7_lawful_26 ci_0 ?_
      refine J_ior (pc := 27) dX7_lawful_27 ?_
      refine J_istoreL_n (pc := 28) (fun x2 => [some (.ref 19), some (.int v1), some (.int x2), some (.int v3)]) dX7_lawful_28 rfl (Nat.le_of_ble_eq_true rfl) (fun _ => rfl) hh (fun x2 hh => ?_)
      refine J_iincL (pc := 29) (v := v3 + (1 : Int32)) (fun x3 => [some (.ref 19), some (.int v1), some (.int x2), some (.int x3)]) dX7_lawful_29 rfl rfl (Nat.le_of_ble_eq_true rfl) (congrArg _ ci_1) (fun _ => rfl) hh (fun x3 hh => ?_)
      refine J_goto (pc := 32) 4 dX7_lawful_32 (by decide) ?_
      obtain rfl := Option.some.inj hh
      exact hk
    · replace hh := (if_neg c6).symm.trans hh
      refine J_iconst (pc := 20) dX7_lawful_20 ci_1 ?_
      refine J_iload_n (pc := 21) dX7_lawful_21 rfl ?_
      refine J_ishl (pc := 22) dX7_lawful_22 ?_
      refine J_goto (pc := 23) 27 dX7_lawful_23 (by decide) ?_
      refine J_ior (pc := 27) dX7_lawful_27 ?_
      refine J_istoreL_n (pc := 28) (fun x4 => [some (.ref 19), some (.int v1), some (.int x4), some (.int v3)]) dX7_lawful_28 rfl (Nat.le_of_ble_eq_true rfl) (fun _ => rfl) hh (fun x4 hh => ?_)
      refine J_iincL (pc := 29) (v := v3 + (1 : Int32)) (fun x5 => [some (.ref 19), some (.int v1), some (.int x4), some (.int x5)]) dX7_lawful_29 rfl rfl (Nat.le_of_ble_eq_true rfl) (congrArg _ ci_1) (fun _ => rfl) hh (fun x5 hh => ?_)
      refine J_goto (pc := 32) 4 dX7_lawful_32 (by decide) ?_
      obtain rfl := Option.some.inj hh
      exact hk
def fX7_lawful (s : Mem) (p0 : Int32) : Option Int32 :=
  (lp (fun a => bX7_lawful_4 s p0 a.1 a.2) 600 ((0 : Int32), (0 : Int32))).bind (fun y8 => some y8)
set_option maxRecDepth 4000 in
theorem jjX7_lawful {X : Scr} (d : Nat) (s : Mem) (p0 : Int32) {r : Int32} {w : Option Value} {s' : Mem} (hh : fX7_lawful s p0 = some r) (hk : w = some (.int r) ∧ s = s') : J X MX7_lawful (d + 5) 0 [some (.ref 19), some (.int p0), none, none] [] s w s' := by
  unfold fX7_lawful at hh
  refine J_iconst (pc := 0) dX7_lawful_0 ci_0 ?_
  refine J_istore_n (pc := 1) (L' := [some (.ref 19), some (.int p0), some (.int (0 : Int32)), none]) dX7_lawful_1 rfl (Nat.le_of_ble_eq_true rfl) rfl ?_
  refine J_iconst (pc := 2) dX7_lawful_2 ci_0 ?_
  refine J_istore_n (pc := 3) (L' := [some (.ref 19), some (.int p0), some (.int (0 : Int32)), some (.int (0 : Int32))]) dX7_lawful_3 rfl (Nat.le_of_ble_eq_true rfl) rfl ?_
  obtain ⟨y8, hy8, hh⟩ := bd_some hh
  refine J_lp (a := ((0 : Int32), (0 : Int32))) (fun a : (Int32 × Int32) => J X MX7_lawful (d + 5) 4 [some (.ref 19), some (.int p0), some (.int a.1), some (.int a.2)] [] s w s') (fun t : Int32 => J X MX7_lawful (d + 5) 35 [none, none, some (.int t), none] [] s w s') (fun a q h1 h2 => jbX7_lawful_4 d s p0 a.1 a.2 h1 h2) hy8 ?_
  refine J_iload_n (pc := 35) dX7_lawful_35 rfl ?_
  obtain rfl := Option.some.inj hh
  obtain ⟨rfl, rfl⟩ := hk
  exact J_ret (w := some (.int y8)) ⟨dX7_lawful_36, _, rfl, rfl⟩
theorem jX7_lawful {X : Scr} (d : Nat) (s : Mem) (p0 : Int32) {r : Int32} (hh : fX7_lawful s p0 = some r) : J X MX7_lawful (d + 5) 0 [some (.ref 19), some (.int p0), none, none] [] s (some (.int r)) s := jjX7_lawful d s p0 hh ⟨rfl, rfl⟩
theorem dX7_kindOf_0 : decode cX7_kindOf 0 = .ok (.aload_n 0, 1) := by decide +kernel
theorem dX7_kindOf_1 : decode cX7_kindOf 1 = .ok (.getfield 9, 3) := by decide +kernel
theorem dX7_kindOf_4 : decode cX7_kindOf 4 = .ok (.bipush 97, 2) := by decide +kernel
theorem dX7_kindOf_6 : decode cX7_kindOf 6 = .ok (.bipush 7, 2) := by decide +kernel
theorem dX7_kindOf_8 : decode cX7_kindOf 8 = .ok (.iload_n 1, 1) := by decide +kernel
theorem dX7_kindOf_9 : decode cX7_kindOf 9 = .ok (.imul, 1) := by decide +kernel
theorem dX7_kindOf_10 : decode cX7_kindOf 10 = .ok (.iadd, 1) := by decide +kernel
theorem dX7_kindOf_11 : decode cX7_kindOf 11 = .ok (.iaload, 1) := by decide +kernel
theorem dX7_kindOf_12 : decode cX7_kindOf 12 = .ok (.ireturn, 1) := by decide +kernel
def fX7_kindOf (s : Mem) (p0 : Int32) : Option Int32 :=
  gd ((97 : Int32) + ((7 : Int32) * p0)) 139 (some ((s.1 20 ((97 : Int32) + ((7 : Int32) * p0)).toNatClampNeg)))
set_option maxRecDepth 4000 in
theorem jjX7_kindOf {X : Scr} (d : Nat) (s : Mem) (p0 : Int32) {r : Int32} {w : Option Value} {s' : Mem} (hh : fX7_kindOf s p0 = some r) (hk : w = some (.int r) ∧ s = s') : J X MX7_kindOf (d + 0) 0 [some (.ref 19), some (.int p0)] [] s w s' := by
  unfold fX7_kindOf at hh
  refine J_aload_n (pc := 0) dX7_kindOf_0 rfl ?_
  refine J_getR (pc := 1) (k := 0) flX7_9 so19 fk19_0 dX7_kindOf_1 ?_
  refine J_bipush (pc := 4) dX7_kindOf_4 cb_97 ?_
  refine J_bipush (pc := 6) dX7_kindOf_6 cb_7 ?_
  refine J_iload_n (pc := 8) dX7_kindOf_8 rfl ?_
  refine J_imul (pc := 9) dX7_kindOf_9 ?_
  refine J_iadd (pc := 10) dX7_kindOf_10 ?_
  obtain ⟨h1, hh⟩ := gd_some hh
  refine J_iald (pc := 11) dX7_kindOf_11 sa20 h1 ?_
  obtain rfl := Option.some.inj hh
  obtain ⟨rfl, rfl⟩ := hk
  exact J_ret (w := some (.int (s.1 20 ((97 : Int32) + ((7 : Int32) * p0)).toNatClampNeg))) ⟨dX7_kindOf_12, _, rfl, rfl⟩
theorem jX7_kindOf {X : Scr} (d : Nat) (s : Mem) (p0 : Int32) {r : Int32} (hh : fX7_kindOf s p0 = some r) : J X MX7_kindOf (d + 0) 0 [some (.ref 19), some (.int p0)] [] s (some (.int r)) s := jjX7_kindOf d s p0 hh ⟨rfl, rfl⟩
theorem dX7_away_0 : decode cX7_away 0 = .ok (.aload_n 0, 1) := by decide +kernel
theorem dX7_away_1 : decode cX7_away 1 = .ok (.getfield 9, 3) := by decide +kernel
theorem dX7_away_4 : decode cX7_away 4 = .ok (.bipush 97, 2) := by decide +kernel
theorem dX7_away_6 : decode cX7_away 6 = .ok (.bipush 7, 2) := by decide +kernel
theorem dX7_away_8 : decode cX7_away 8 = .ok (.iload_n 1, 1) := by decide +kernel
theorem dX7_away_9 : decode cX7_away 9 = .ok (.imul, 1) := by decide +kernel
theorem dX7_away_10 : decode cX7_away 10 = .ok (.iadd, 1) := by decide +kernel
theorem dX7_away_11 : decode cX7_away 11 = .ok (.iconst 1, 1) := by decide +kernel
theorem dX7_away_12 : decode cX7_away 12 = .ok (.iadd, 1) := by decide +kernel
theorem dX7_away_13 : decode cX7_away 13 = .ok (.iaload, 1) := by decide +kernel
theorem dX7_away_14 : decode cX7_away 14 = .ok (.ireturn, 1) := by decide +kernel
def fX7_away (s : Mem) (p0 : Int32) : Option Int32 :=
  gd (((97 : Int32) + ((7 : Int32) * p0)) + (1 : Int32)) 139 (some ((s.1 20 (((97 : Int32) + ((7 : Int32) * p0)) + (1 : Int32)).toNatClampNeg)))
set_option maxRecDepth 4000 in
theorem jjX7_away {X : Scr} (d : Nat) (s : Mem) (p0 : Int32) {r : Int32} {w : Option Value} {s' : Mem} (hh : fX7_away s p0 = some r) (hk : w = some (.int r) ∧ s = s') : J X MX7_away (d + 0) 0 [some (.ref 19), some (.int p0)] [] s w s' := by
  unfold fX7_away at hh
  refine J_aload_n (pc := 0) dX7_away_0 rfl ?_
  refine J_getR (pc := 1) (k := 0) flX7_9 so19 fk19_0 dX7_away_1 ?_
  refine J_bipush (pc := 4) dX7_away_4 cb_97 ?_
  refine J_bipush (pc := 6) dX7_away_6 cb_7 ?_
  refine J_iload_n (pc := 8) dX7_away_8 rfl ?_
  refine J_imul (pc := 9) dX7_away_9 ?_
  refine J_iadd (pc := 10) dX7_away_10 ?_
  refine J_iconst (pc := 11) dX7_away_11 ci_1 ?_
  refine J_iadd (pc := 12) dX7_away_12 ?_
  obtain ⟨h1, hh⟩ := gd_some hh
  refine J_iald (pc := 13) dX7_away_13 sa20 h1 ?_
  obtain rfl := Option.some.inj hh
  obtain ⟨rfl, rfl⟩ := hk
  exact J_ret (w := some (.int (s.1 20 (((97 : Int32) + ((7 : Int32) * p0)) + (1 : Int32)).toNatClampNeg))) ⟨dX7_away_14, _, rfl, rfl⟩
theorem jX7_away {X : Scr} (d : Nat) (s : Mem) (p0 : Int32) {r : Int32} (hh : fX7_away s p0 = some r) : J X MX7_away (d + 0) 0 [some (.ref 19), some (.int p0)] [] s (some (.int r)) s := jjX7_away d s p0 hh ⟨rfl, rfl⟩
theorem dX7_wishes_0 : decode cX7_wishes 0 = .ok (.aload_n 0, 1) := by decide +kernel
theorem dX7_wishes_1 : decode cX7_wishes 1 = .ok (.getfield 9, 3) := by decide +kernel
theorem dX7_wishes_4 : decode cX7_wishes 4 = .ok (.bipush 97, 2) := by decide +kernel
theorem dX7_wishes_6 : decode cX7_wishes 6 = .ok (.bipush 7, 2) := by decide +kernel
theorem dX7_wishes_8 : decode cX7_wishes 8 = .ok (.iload_n 1, 1) := by decide +kernel
theorem dX7_wishes_9 : decode cX7_wishes 9 = .ok (.imul, 1) := by decide +kernel
theorem dX7_wishes_10 : decode cX7_wishes 10 = .ok (.iadd, 1) := by decide +kernel
theorem dX7_wishes_11 : decode cX7_wishes 11 = .ok (.iconst 2, 1) := by decide +kernel
theorem dX7_wishes_12 : decode cX7_wishes 12 = .ok (.iadd, 1) := by decide +kernel
theorem dX7_wishes_13 : decode cX7_wishes 13 = .ok (.iaload, 1) := by decide +kernel
theorem dX7_wishes_14 : decode cX7_wishes 14 = .ok (.ireturn, 1) := by decide +kernel
def fX7_wishes (s : Mem) (p0 : Int32) : Option Int32 :=
  gd (((97 : Int32) + ((7 : Int32) * p0)) + (2 : Int32)) 139 (some ((s.1 20 (((97 : Int32) + ((7 : Int32) * p0)) + (2 : Int32)).toNatClampNeg)))
set_option maxRecDepth 4000 in
theorem jjX7_wishes {X : Scr} (d : Nat) (s : Mem) (p0 : Int32) {r : Int32} {w : Option Value} {s' : Mem} (hh : fX7_wishes s p0 = some r) (hk : w = some (.int r) ∧ s = s') : J X MX7_wishes (d + 0) 0 [some (.ref 19), some (.int p0)] [] s w s' := by
  unfold fX7_wishes at hh
  refine J_aload_n (pc := 0) dX7_wishes_0 rfl ?_
  refine J_getR (pc := 1) (k := 0) flX7_9 so19 fk19_0 dX7_wishes_1 ?_
  refine J_bipush (pc := 4) dX7_wishes_4 cb_97 ?_
  refine J_bipush (pc := 6) dX7_wishes_6 cb_7 ?_
  refine J_iload_n (pc := 8) dX7_wishes_8 rfl ?_
  refine J_imul (pc := 9) dX7_wishes_9 ?_
  refine J_iadd (pc := 10) dX7_wishes_10 ?_
  refine J_iconst (pc := 11) dX7_wishes_11 ci_2 ?_
  refine J_iadd (pc := 12) dX7_wishes_12 ?_
  obtain ⟨h1, hh⟩ := gd_some hh
  refine J_iald (pc := 13) dX7_wishes_13 sa20 h1 ?_
  obtain rfl := Option.some.inj hh
  obtain ⟨rfl, rfl⟩ := hk
  exact J_ret (w := some (.int (s.1 20 (((97 : Int32) + ((7 : Int32) * p0)) + (2 : Int32)).toNatClampNeg))) ⟨dX7_wishes_14, _, rfl, rfl⟩
theorem jX7_wishes {X : Scr} (d : Nat) (s : Mem) (p0 : Int32) {r : Int32} (hh : fX7_wishes s p0 = some r) : J X MX7_wishes (d + 0) 0 [some (.ref 19), some (.int p0)] [] s (some (.int r)) s := jjX7_wishes d s p0 hh ⟨rfl, rfl⟩
theorem dX7_triple_0 : decode cX7_triple 0 = .ok (.aload_n 0, 1) := by decide +kernel
theorem dX7_triple_1 : decode cX7_triple 1 = .ok (.getfield 9, 3) := by decide +kernel
theorem dX7_triple_4 : decode cX7_triple 4 = .ok (.bipush 97, 2) := by decide +kernel
theorem dX7_triple_6 : decode cX7_triple 6 = .ok (.bipush 7, 2) := by decide +kernel
theorem dX7_triple_8 : decode cX7_triple 8 = .ok (.iload_n 1, 1) := by decide +kernel
theorem dX7_triple_9 : decode cX7_triple 9 = .ok (.imul, 1) := by decide +kernel
theorem dX7_triple_10 : decode cX7_triple 10 = .ok (.iadd, 1) := by decide +kernel
theorem dX7_triple_11 : decode cX7_triple 11 = .ok (.iconst 3, 1) := by decide +kernel
theorem dX7_triple_12 : decode cX7_triple 12 = .ok (.iadd, 1) := by decide +kernel
theorem dX7_triple_13 : decode cX7_triple 13 = .ok (.iload_n 2, 1) := by decide +kernel
theorem dX7_triple_14 : decode cX7_triple 14 = .ok (.iadd, 1) := by decide +kernel
theorem dX7_triple_15 : decode cX7_triple 15 = .ok (.iaload, 1) := by decide +kernel
theorem dX7_triple_16 : decode cX7_triple 16 = .ok (.ireturn, 1) := by decide +kernel
def fX7_triple (s : Mem) (p0 : Int32) (p1 : Int32) : Option Int32 :=
  gd ((((97 : Int32) + ((7 : Int32) * p0)) + (3 : Int32)) + p1) 139 (some ((s.1 20 ((((97 : Int32) + ((7 : Int32) * p0)) + (3 : Int32)) + p1).toNatClampNeg)))
set_option maxRecDepth 4000 in
theorem jjX7_triple {X : Scr} (d : Nat) (s : Mem) (p0 : Int32) (p1 : Int32) {r : Int32} {w : Option Value} {s' : Mem} (hh : fX7_triple s p0 p1 = some r) (hk : w = some (.int r) ∧ s = s') : J X MX7_triple (d + 0) 0 [some (.ref 19), some (.int p0), some (.int p1)] [] s w s' := by
  unfold fX7_triple at hh
  refine J_aload_n (pc := 0) dX7_triple_0 rfl ?_
  refine J_getR (pc := 1) (k := 0) flX7_9 so19 fk19_0 dX7_triple_1 ?_
  refine J_bipush (pc := 4) dX7_triple_4 cb_97 ?_
  refine J_bipush (pc := 6) dX7_triple_6 cb_7 ?_
  refine J_iload_n (pc := 8) dX7_triple_8 rfl ?_
  refine J_imul (pc := 9) dX7_triple_9 ?_
  refine J_iadd (pc := 10) dX7_triple_10 ?_
  refine J_iconst (pc := 11) dX7_triple_11 ci_3 ?_
  refine J_iadd (pc := 12) dX7_triple_12 ?_
  refine J_iload_n (pc := 13) dX7_triple_13 rfl ?_
  refine J_iadd (pc := 14) dX7_triple_14 ?_
  obtain ⟨h1, hh⟩ := gd_some hh
  refine J_iald (pc := 15) dX7_triple_15 sa20 h1 ?_
  obtain rfl := Option.some.inj hh
  obtain ⟨rfl, rfl⟩ := hk
  exact J_ret (w := some (.int (s.1 20 ((((97 : Int32) + ((7 : Int32) * p0)) + (3 : Int32)) + p1).toNatClampNeg))) ⟨dX7_triple_16, _, rfl, rfl⟩
theorem jX7_triple {X : Scr} (d : Nat) (s : Mem) (p0 : Int32) (p1 : Int32) {r : Int32} (hh : fX7_triple s p0 p1 = some r) : J X MX7_triple (d + 0) 0 [some (.ref 19), some (.int p0), some (.int p1)] [] s (some (.int r)) s := jjX7_triple d s p0 p1 hh ⟨rfl, rfl⟩
theorem dX7_puts_0 : decode cX7_puts 0 = .ok (.aload_n 0, 1) := by decide +kernel
theorem dX7_puts_1 : decode cX7_puts 1 = .ok (.getfield 9, 3) := by decide +kernel
theorem dX7_puts_4 : decode cX7_puts 4 = .ok (.bipush 97, 2) := by decide +kernel
theorem dX7_puts_6 : decode cX7_puts 6 = .ok (.bipush 7, 2) := by decide +kernel
theorem dX7_puts_8 : decode cX7_puts 8 = .ok (.iload_n 1, 1) := by decide +kernel
theorem dX7_puts_9 : decode cX7_puts 9 = .ok (.imul, 1) := by decide +kernel
theorem dX7_puts_10 : decode cX7_puts 10 = .ok (.iadd, 1) := by decide +kernel
theorem dX7_puts_11 : decode cX7_puts 11 = .ok (.iconst 3, 1) := by decide +kernel
theorem dX7_puts_12 : decode cX7_puts 12 = .ok (.iadd, 1) := by decide +kernel
theorem dX7_puts_13 : decode cX7_puts 13 = .ok (.iload_n 2, 1) := by decide +kernel
theorem dX7_puts_14 : decode cX7_puts 14 = .ok (.iadd, 1) := by decide +kernel
theorem dX7_puts_15 : decode cX7_puts 15 = .ok (.iload_n 3, 1) := by decide +kernel
theorem dX7_puts_16 : decode cX7_puts 16 = .ok (.iastore, 1) := by decide +kernel
theorem dX7_puts_17 : decode cX7_puts 17 = .ok (.return_, 1) := by decide +kernel
def fX7_puts (s : Mem) (p0 : Int32) (p1 : Int32) (p2 : Int32) : Option Mem :=
  gd ((((97 : Int32) + ((7 : Int32) * p0)) + (3 : Int32)) + p1) 139 (lt (up2 s 20 ((((97 : Int32) + ((7 : Int32) * p0)) + (3 : Int32)) + p1).toNatClampNeg p2) (fun s2 => some s2))
set_option maxRecDepth 4000 in
theorem jjX7_puts {X : Scr} (d : Nat) (s : Mem) (p0 : Int32) (p1 : Int32) (p2 : Int32) {r : Mem} {w : Option Value} {s' : Mem} (hh : fX7_puts s p0 p1 p2 = some r) (hk : w = none ∧ r = s') : J X MX7_puts (d + 0) 0 [some (.ref 19), some (.int p0), some (.int p1), some (.int p2)] [] s w s' := by
  unfold fX7_puts at hh
  refine J_aload_n (pc := 0) dX7_puts_0 rfl ?_
  refine J_getR (pc := 1) (k := 0) flX7_9 so19 fk19_0 dX7_puts_1 ?_
  refine J_bipush (pc := 4) dX7_puts_4 cb_97 ?_
  refine J_bipush (pc := 6) dX7_puts_6 cb_7 ?_
  refine J_iload_n (pc := 8) dX7_puts_8 rfl ?_
  refine J_imul (pc := 9) dX7_puts_9 ?_
  refine J_iadd (pc := 10) dX7_puts_10 ?_
  refine J_iconst (pc := 11) dX7_puts_11 ci_3 ?_
  refine J_iadd (pc := 12) dX7_puts_12 ?_
  refine J_iload_n (pc := 13) dX7_puts_13 rfl ?_
  refine J_iadd (pc := 14) dX7_puts_14 ?_
  refine J_iload_n (pc := 15) dX7_puts_15 rfl ?_
  obtain ⟨h1, hh⟩ := gd_some hh
  refine J_iastL (pc := 16) dX7_puts_16 sa20 h1 hh (fun s2 hh => ?_)
  obtain rfl := Option.some.inj hh
  obtain ⟨rfl, rfl⟩ := hk
  exact J_ret (w := none) ⟨dX7_puts_17, rfl⟩
theorem jX7_puts {X : Scr} (d : Nat) (s : Mem) (p0 : Int32) (p1 : Int32) (p2 : Int32) {r : Mem} (hh : fX7_puts s p0 p1 p2 = some r) : J X MX7_puts (d + 0) 0 [some (.ref 19), some (.int p0), some (.int p1), some (.int p2)] [] s (none) r := jjX7_puts d s p0 p1 p2 hh ⟨rfl, rfl⟩
theorem dX7_isPupil_0 : decode cX7_isPupil 0 = .ok (.iload_n 1, 1) := by decide +kernel
theorem dX7_isPupil_1 : decode cX7_isPupil 1 = .ok (.i2l, 1) := by decide +kernel
theorem dX7_isPupil_2 : decode cX7_isPupil 2 = .ok (.lconst 0, 1) := by decide +kernel
theorem dX7_isPupil_3 : decode cX7_isPupil 3 = .ok (.aload_n 0, 1) := by decide +kernel
theorem dX7_isPupil_4 : decode cX7_isPupil 4 = .ok (.getfield 9, 3) := by decide +kernel
theorem dX7_isPupil_7 : decode cX7_isPupil 7 = .ok (.bipush 96, 2) := by decide +kernel
theorem dX7_isPupil_9 : decode cX7_isPupil 9 = .ok (.iaload, 1) := by decide +kernel
theorem dX7_isPupil_10 : decode cX7_isPupil 10 = .ok (.iconst 1, 1) := by decide +kernel
theorem dX7_isPupil_11 : decode cX7_isPupil 11 = .ok (.isub, 1) := by decide +kernel
theorem dX7_isPupil_12 : decode cX7_isPupil 12 = .ok (.i2l, 1) := by decide +kernel
theorem dX7_isPupil_13 : decode cX7_isPupil 13 = .ok (.invokestatic 63, 3) := by decide +kernel
theorem dX7_isPupil_16 : decode cX7_isPupil 16 = .ok (.ireturn, 1) := by decide +kernel
def fX7_isPupil (s : Mem) (p0 : Int32) : Option Int32 :=
  gd (96 : Int32) 139 ((fX7_in (p0.toInt64) (0 : Int64) (((s.1 20 (96 : Int32).toNatClampNeg) - (1 : Int32)).toInt64)).bind (fun y2 => gz y2 (some y2)))
set_option maxRecDepth 4000 in
theorem jjX7_isPupil {X : Scr} (d : Nat) (s : Mem) (p0 : Int32) {r : Int32} {w : Option Value} {s' : Mem} (hh : fX7_isPupil s p0 = some r) (hk : w = some (.int r) ∧ s = s') : J X MX7_isPupil (d + 1) 0 [some (.ref 19), some (.int p0)] [] s w s' := by
  unfold fX7_isPupil at hh
  refine J_iload_n (pc := 0) dX7_isPupil_0 rfl ?_
  refine J_i2l (pc := 1) dX7_isPupil_1 ?_
  refine J_lconst (pc := 2) (v := 0) dX7_isPupil_2 rfl ?_
  refine J_aload_n (pc := 3) dX7_isPupil_3 rfl ?_
  refine J_getR (pc := 4) (k := 0) flX7_9 so19 fk19_0 dX7_isPupil_4 ?_
  refine J_bipush (pc := 7) dX7_isPupil_7 cb_96 ?_
  obtain ⟨h1, hh⟩ := gd_some hh
  refine J_iald (pc := 9) dX7_isPupil_9 sa20 h1 ?_
  refine J_iconst (pc := 10) dX7_isPupil_10 ci_1 ?_
  refine J_isub (pc := 11) dX7_isPupil_11 ?_
  refine J_i2l (pc := 12) dX7_isPupil_12 ?_
  obtain ⟨y2, hy2, hh⟩ := bd_some hh
  refine J_callSi (pc := 13) (M' := MX7_in) (rest := []) (As := [.long (p0.toInt64), .long (0 : Int64), .long (((s.1 20 (96 : Int32).toNatClampNeg) - (1 : Int32)).toInt64)]) (L0 := [some (.long (p0.toInt64)), none, some (.long (0 : Int64)), none, some (.long (((s.1 20 (96 : Int32).toNatClampNeg) - (1 : Int32)).toInt64)), none]) okX7_in osX7_in mlX7_63 rfl rfl (Nat.le_of_ble_eq_true rfl) dX7_isPupil_13 rfl (Nat.le_of_ble_eq_true rfl) (jX7_in (X := X) d s (p0.toInt64) (0 : Int64) (((s.1 20 (96 : Int32).toNatClampNeg) - (1 : Int32)).toInt64) hy2) ?_
  obtain ⟨hz3, hh⟩ := gz_some hh
  obtain rfl := Option.some.inj hh
  obtain ⟨rfl, rfl⟩ := hk
  exact J_ret (w := some (.int y2)) ⟨dX7_isPupil_16, _, rfl, (nz_bool hz3)⟩
theorem jX7_isPupil {X : Scr} (d : Nat) (s : Mem) (p0 : Int32) {r : Int32} (hh : fX7_isPupil s p0 = some r) : J X MX7_isPupil (d + 1) 0 [some (.ref 19), some (.int p0)] [] s (some (.int r)) s := jjX7_isPupil d s p0 hh ⟨rfl, rfl⟩
theorem dX7_isCourse_0 : decode cX7_isCourse 0 = .ok (.iload_n 0, 1) := by decide +kernel
theorem dX7_isCourse_1 : decode cX7_isCourse 1 = .ok (.i2l, 1) := by decide +kernel
theorem dX7_isCourse_2 : decode cX7_isCourse 2 = .ok (.lconst 0, 1) := by decide +kernel
theorem dX7_isCourse_3 : decode cX7_isCourse 3 = .ok (.ldc2_w 101, 3) := by decide +kernel
theorem dX7_isCourse_6 : decode cX7_isCourse 6 = .ok (.invokestatic 63, 3) := by decide +kernel
theorem dX7_isCourse_9 : decode cX7_isCourse 9 = .ok (.ireturn, 1) := by decide +kernel
def fX7_isCourse (p0 : Int32) : Option Int32 :=
  (fX7_in (p0.toInt64) (0 : Int64) (3 : Int64)).bind (fun y1 => gz y1 (some y1))
set_option maxRecDepth 4000 in
theorem jjX7_isCourse {X : Scr} (d : Nat) {s : Mem} (p0 : Int32) {r : Int32} {w : Option Value} {s' : Mem} (hh : fX7_isCourse p0 = some r) (hk : w = some (.int r) ∧ s = s') : J X MX7_isCourse (d + 1) 0 [some (.int p0)] [] s w s' := by
  unfold fX7_isCourse at hh
  refine J_iload_n (pc := 0) dX7_isCourse_0 rfl ?_
  refine J_i2l (pc := 1) dX7_isCourse_1 ?_
  refine J_lconst (pc := 2) (v := 0) dX7_isCourse_2 rfl ?_
  refine J_ldc2 (pc := 3) klX7_101 dX7_isCourse_3 ?_
  obtain ⟨y1, hy1, hh⟩ := bd_some hh
  refine J_callSi (pc := 6) (M' := MX7_in) (rest := []) (As := [.long (p0.toInt64), .long (0 : Int64), .long (3 : Int64)]) (L0 := [some (.long (p0.toInt64)), none, some (.long (0 : Int64)), none, some (.long (3 : Int64)), none]) okX7_in osX7_in mlX7_63 rfl rfl (Nat.le_of_ble_eq_true rfl) dX7_isCourse_6 rfl (Nat.le_of_ble_eq_true rfl) (jX7_in (X := X) d s (p0.toInt64) (0 : Int64) (3 : Int64) hy1) ?_
  obtain ⟨hz2, hh⟩ := gz_some hh
  obtain rfl := Option.some.inj hh
  obtain ⟨rfl, rfl⟩ := hk
  exact J_ret (w := some (.int y1)) ⟨dX7_isCourse_9, _, rfl, (nz_bool hz2)⟩
theorem jX7_isCourse {X : Scr} (d : Nat) (s : Mem) (p0 : Int32) {r : Int32} (hh : fX7_isCourse p0 = some r) : J X MX7_isCourse (d + 1) 0 [some (.int p0)] [] s (some (.int r)) s := jjX7_isCourse d p0 hh ⟨rfl, rfl⟩
theorem dX7_isKind_0 : decode cX7_isKind 0 = .ok (.iload_n 0, 1) := by decide +kernel
theorem dX7_isKind_1 : decode cX7_isKind 1 = .ok (.i2l, 1) := by decide +kernel
theorem dX7_isKind_2 : decode cX7_isKind 2 = .ok (.lconst 0, 1) := by decide +kernel
theorem dX7_isKind_3 : decode cX7_isKind 3 = .ok (.ldc2_w 103, 3) := by decide +kernel
theorem dX7_isKind_6 : decode cX7_isKind 6 = .ok (.invokestatic 63, 3) := by decide +kernel
theorem dX7_isKind_9 : decode cX7_isKind 9 = .ok (.ireturn, 1) := by decide +kernel
def fX7_isKind (p0 : Int32) : Option Int32 :=
  (fX7_in (p0.toInt64) (0 : Int64) (5 : Int64)).bind (fun y1 => gz y1 (some y1))
set_option maxRecDepth 4000 in
theorem jjX7_isKind {X : Scr} (d : Nat) {s : Mem} (p0 : Int32) {r : Int32} {w : Option Value} {s' : Mem} (hh : fX7_isKind p0 = some r) (hk : w = some (.int r) ∧ s = s') : J X MX7_isKind (d + 1) 0 [some (.int p0)] [] s w s' := by
  unfold fX7_isKind at hh
  refine J_iload_n (pc := 0) dX7_isKind_0 rfl ?_
  refine J_i2l (pc := 1) dX7_isKind_1 ?_
  refine J_lconst (pc := 2) (v := 0) dX7_isKind_2 rfl ?_
  refine J_ldc2 (pc := 3) klX7_103 dX7_isKind_3 ?_
  obtain ⟨y1, hy1, hh⟩ := bd_some hh
  refine J_callSi (pc := 6) (M' := MX7_in) (rest := []) (As := [.long (p0.toInt64), .long (0 : Int64), .long (5 : Int64)]) (L0 := [some (.long (p0.toInt64)), none, some (.long (0 : Int64)), none, some (.long (5 : Int64)), none]) okX7_in osX7_in mlX7_63 rfl rfl (Nat.le_of_ble_eq_true rfl) dX7_isKind_6 rfl (Nat.le_of_ble_eq_true rfl) (jX7_in (X := X) d s (p0.toInt64) (0 : Int64) (5 : Int64) hy1) ?_
  obtain ⟨hz2, hh⟩ := gz_some hh
  obtain rfl := Option.some.inj hh
  obtain ⟨rfl, rfl⟩ := hk
  exact J_ret (w := some (.int y1)) ⟨dX7_isKind_9, _, rfl, (nz_bool hz2)⟩
theorem jX7_isKind {X : Scr} (d : Nat) (s : Mem) (p0 : Int32) {r : Int32} (hh : fX7_isKind p0 = some r) : J X MX7_isKind (d + 1) 0 [some (.int p0)] [] s (some (.int r)) s := jjX7_isKind d p0 hh ⟨rfl, rfl⟩
theorem dX7_busyBut_0 : decode cX7_busyBut 0 = .ok (.iconst 0, 1) := by decide +kernel
theorem dX7_busyBut_1 : decode cX7_busyBut 1 = .ok (.istore_n 3, 1) := by decide +kernel
theorem dX7_busyBut_2 : decode cX7_busyBut 2 = .ok (.iconst 0, 1) := by decide +kernel
theorem dX7_busyBut_3 : decode cX7_busyBut 3 = .ok (.istore 4, 2) := by decide +kernel
theorem dX7_busyBut_5 : decode cX7_busyBut 5 = .ok (.iload 4, 2) := by decide +kernel
theorem dX7_busyBut_7 : decode cX7_busyBut 7 = .ok (.iconst 4, 1) := by decide +kernel
theorem dX7_busyBut_8 : decode cX7_busyBut 8 = .ok (.if_icmp .ge 41, 3) := by decide +kernel
theorem dX7_busyBut_11 : decode cX7_busyBut 11 = .ok (.iload 4, 2) := by decide +kernel
theorem dX7_busyBut_13 : decode cX7_busyBut 13 = .ok (.iload_n 2, 1) := by decide +kernel
theorem dX7_busyBut_14 : decode cX7_busyBut 14 = .ok (.if_icmp .eq 29, 3) := by decide +kernel
theorem dX7_busyBut_17 : decode cX7_busyBut 17 = .ok (.aload_n 0, 1) := by decide +kernel
theorem dX7_busyBut_18 : decode cX7_busyBut 18 = .ok (.iload_n 1, 1) := by decide +kernel
theorem dX7_busyBut_19 : decode cX7_busyBut 19 = .ok (.iload 4, 2) := by decide +kernel
theorem dX7_busyBut_21 : decode cX7_busyBut 21 = .ok (.invokevirtual 105, 3) := by decide +kernel
theorem dX7_busyBut_24 : decode cX7_busyBut 24 = .ok (.ifCond .lt 19, 3) := by decide +kernel
theorem dX7_busyBut_27 : decode cX7_busyBut 27 = .ok (.iload_n 3, 1) := by decide +kernel
theorem dX7_busyBut_28 : decode cX7_busyBut 28 = .ok (.aload_n 0, 1) := by decide +kernel
theorem dX7_busyBut_29 : decode cX7_busyBut 29 = .ok (.iload 4, 2) := by decide +kernel
theorem dX7_busyBut_31 : decode cX7_busyBut 31 = .ok (.aload_n 0, 1) := by decide +kernel
theorem dX7_busyBut_32 : decode cX7_busyBut 32 = .ok (.iload_n 1, 1) := by decide +kernel
theorem dX7_busyBut_33 : decode cX7_busyBut 33 = .ok (.iload 4, 2) := by decide +kernel
theorem dX7_busyBut_35 : decode cX7_busyBut 35 = .ok (.invokevirtual 105, 3) := by decide +kernel
theorem dX7_busyBut_38 : decode cX7_busyBut 38 = .ok (.invokevirtual 108, 3) := by decide +kernel
theorem dX7_busyBut_41 : decode cX7_busyBut 41 = .ok (.ior, 1) := by decide +kernel
theorem dX7_busyBut_42 : decode cX7_busyBut 42 = .ok (.istore_n 3, 1) := by decide +kernel
theorem dX7_busyBut_43 : decode cX7_busyBut 43 = .ok (.iinc 4 1, 3) := by decide +kernel
theorem dX7_busyBut_46 : decode cX7_busyBut 46 = .ok (.goto (-41), 3) := by decide +kernel
theorem dX7_busyBut_49 : decode cX7_busyBut 49 = .ok (.iload_n 3, 1) := by decide +kernel
theorem dX7_busyBut_50 : decode cX7_busyBut 50 = .ok (.ireturn, 1) := by decide +kernel
def bX7_busyBut_5 (s : Mem) (v1 : Int32) (v2 : Int32) (v3 : Int32) (v4 : Int32) : Option (Int32 ⊕ (Int32 × Int32)) :=
  if (4 : Int32) ≤ v4 then some (Sum.inl v3) else if v4 = v2 then lt (v4 + (1 : Int32)) (fun x1 => some (Sum.inr (v3, x1))) else (fX7_triple s v1 v4).bind (fun y2 => if y2 < (0 : Int32) then lt (v4 + (1 : Int32)) (fun x3 => some (Sum.inr (v3, x3))) else (fX7_triple s v1 v4).bind (fun y4 => (fX7_timeOf_ s v4 y4).bind (fun y5 => lt (v3 ||| y5) (fun x6 => lt (v4 + (1 : Int32)) (fun x7 => some (Sum.inr (x6, x7)))))))
set_option maxRecDepth 4000 in
theorem jbX7_busyBut_5 {X : Scr} (d : Nat) (s : Mem) (v1 : Int32) (v2 : Int32) (v3 : Int32) (v4 : Int32) {r : (Int32 ⊕ (Int32 × Int32))} {w : Option Value} {s' : Mem} (hh : bX7_busyBut_5 s v1 v2 v3 v4 = some r) (hk : Sum.elim (fun t : Int32 => J X MX7_busyBut (d + 5) 49 [none, none, none, some (.int t), none] [] s w s') (fun a : (Int32 × Int32) => J X MX7_busyBut (d + 5) 5 [some (.ref 19), some (.int v1), some (.int v2), some (.int a.1), some (.int a.2)] [] s w s') r) : J X MX7_busyBut (d + 5) 5 [some (.ref 19), some (.int v1), some (.int v2), some (.int v3), some (.int v4)] [] s w s' := by
  unfold bX7_busyBut_5 at hh
  refine J_iload (pc := 5) dX7_busyBut_5 rfl ?_
  refine J_iconst (pc := 7) dX7_busyBut_7 ci_4 ?_
  refine J_icmp_ge (pc := 8) 49 dX7_busyBut_8 (by decide) (fun c10 => ?_) (fun c10 => ?_)
  · replace hh := (if_pos c10).symm.trans hh
    refine J_drop 0 (L' := [none, some (.int v1), some (.int v2), some (.int v3), some (.int v4)]) rfl ?_
    refine J_drop 1 (L' := [none, none, some (.int v2), some (.int v3), some (.int v4)]) rfl ?_
    refine J_drop 2 (L' := [none, none, none, some (.int v3), some (.int v4)]) rfl ?_
    refine J_drop 4 (L' := [none, none, none, some (.int v3), none]) rfl ?_
    obtain rfl := Option.some.inj hh
    exact hk
  · replace hh := (if_neg c10).symm.trans hh
    refine J_iload (pc := 11) dX7_busyBut_11 rfl ?_
    refine J_iload_n (pc := 13) dX7_busyBut_13 rfl ?_
    refine J_icmp_eq (pc := 14) 43 dX7_busyBut_14 (by decide) (fun c9 => ?_) (fun c9 => ?_)
    · replace hh := (if_pos c9).symm.trans hh
      refine J_iincL (pc := 43) (v := v4 + (1 : Int32)) (fun x1 => [some (.ref 19), some (.int v1), some (.int v2), some (.int v3), some (.int x1)]) dX7_busyBut_43 rfl rfl (Nat.le_of_ble_eq_true rfl) (congrArg _ ci_1) (fun _ => rfl) hh (fun x1 hh => ?_)
      refine J_goto (pc := 46) 5 dX7_busyBut_46 (by decide) ?_
      obtain rfl := Option.some.inj hh
      exact hk
    · replace hh := (if_neg c9).symm.trans hh
      refine J_aload_n (pc := 17) dX7_busyBut_17 rfl ?_
      refine J_iload_n (pc := 18) dX7_busyBut_18 rfl ?_
      refine J_iload (pc := 19) dX7_busyBut_19 rfl ?_
      obtain ⟨y2, hy2, hh⟩ := bd_some hh
      refine J_callVi (pc := 21) (M' := MX7_triple) (a := 19) (rest := []) (As := [.int v1, .int v4]) (L0 := [some (.ref 19), some (.int v1), some (.int v4)]) okX7_triple ovX7_triple mlX7_105 clX7 so19 rfl rfl (Nat.le_of_ble_eq_true rfl) dX7_busyBut_21 rfl (Nat.le_of_ble_eq_true rfl) (jX7_triple (X := X) (d + 4) s v1 v4 hy2) ?_
      refine J_if_lt (pc := 24) 43 dX7_busyBut_24 (by decide) (fun c8 => ?_) (fun c8 => ?_)
      · replace hh := (if_pos c8).symm.trans hh
        refine J_iincL (pc := 43) (v := v4 + (1 : Int32)) (fun x3 => [some (.ref 19), some (.int v1), some (.int v2), some (.int v3), some (.int x3)]) dX7_busyBut_43 rfl rfl (Nat.le_of_ble_eq_true rfl) (congrArg _ ci_1) (fun _ => rfl) hh (fun x3 hh => ?_)
        refine J_goto (pc := 46) 5 dX7_busyBut_46 (by decide) ?_
        obtain rfl := Option.some.inj hh
        exact hk
      · replace hh := (if_neg c8).symm.trans hh
        refine J_iload_n (pc := 27) dX7_busyBut_27 rfl ?_
        refine J_aload_n (pc := 28) dX7_busyBut_28 rfl ?_
        refine J_iload (pc := 29) dX7_busyBut_29 rfl ?_
        refine J_aload_n (pc := 31) dX7_busyBut_31 rfl ?_
        refine J_iload_n (pc := 32) dX7_busyBut_32 rfl ?_
        refine J_iload (pc := 33) dX7_busyBut_33 rfl ?_
        obtain ⟨y4, hy4, hh⟩ := bd_some hh
        refine J_callVi (pc := 35) (M' := MX7_triple) (a := 19) (rest := [.int v4, .ref 19, .int v3]) (As := [.int v1, .int v4]) (L0 := [some (.ref 19), some (.int v1), some (.int v4)]) okX7_triple ovX7_triple mlX7_105 clX7 so19 rfl rfl (Nat.le_of_ble_eq_true rfl) dX7_busyBut_35 rfl (Nat.le_of_ble_eq_true rfl) (jX7_triple (X := X) (d + 4) s v1 v4 hy4) ?_
        obtain ⟨y5, hy5, hh⟩ := bd_some hh
        refine J_callVi (pc := 38) (M' := MX7_timeOf_) (a := 19) (rest := [.int v3]) (As := [.int v4, .int y4]) (L0 := [some (.ref 19), some (.int v4), some (.int y4)]) okX7_timeOf_ ovX7_timeOf_ mlX7_108 clX7 so19 rfl rfl (Nat.le_of_ble_eq_true rfl) dX7_busyBut_38 rfl (Nat.le_of_ble_eq_true rfl) (jX7_timeOf_ (X := X) d s v4 y4 hy5) ?_
        refine J_ior (pc := 41) dX7_busyBut_41 ?_
        refine J_istoreL_n (pc := 42) (fun x6 => [some (.ref 19), some (.int v1), some (.int v2), some (.int x6), some (.int v4)]) dX7_busyBut_42 rfl (Nat.le_of_ble_eq_true rfl) (fun _ => rfl) hh (fun x6 hh => ?_)
        refine J_iincL (pc := 43) (v := v4 + (1 : Int32)) (fun x7 => [some (.ref 19), some (.int v1), some (.int v2), some (.int x6), some (.int x7)]) dX7_busyBut_43 rfl rfl (Nat.le_of_ble_eq_true rfl) (congrArg _ ci_1) (fun _ => rfl) hh (fun x7 hh => ?_)
        refine J_goto (pc := 46) 5 dX7_busyBut_46 (by decide) ?_
        obtain rfl := Option.some.inj hh
        exact hk
def fX7_busyBut (s : Mem) (p0 : Int32) (p1 : Int32) : Option Int32 :=
  (lp (fun a => bX7_busyBut_5 s p0 p1 a.1 a.2) 600 ((0 : Int32), (0 : Int32))).bind (fun y11 => some y11)
set_option maxRecDepth 4000 in
theorem jjX7_busyBut {X : Scr} (d : Nat) (s : Mem) (p0 : Int32) (p1 : Int32) {r : Int32} {w : Option Value} {s' : Mem} (hh : fX7_busyBut s p0 p1 = some r) (hk : w = some (.int r) ∧ s = s') : J X MX7_busyBut (d + 5) 0 [some (.ref 19), some (.int p0), some (.int p1), none, none] [] s w s' := by
  unfold fX7_busyBut at hh
  refine J_iconst (pc := 0) dX7_busyBut_0 ci_0 ?_
  refine J_istore_n (pc := 1) (L' := [some (.ref 19), some (.int p0), some (.int p1), some (.int (0 : Int32)), none]) dX7_busyBut_1 rfl (Nat.le_of_ble_eq_true rfl) rfl ?_
  refine J_iconst (pc := 2) dX7_busyBut_2 ci_0 ?_
  refine J_istore (pc := 3) (L' := [some (.ref 19), some (.int p0), some (.int p1), some (.int (0 : Int32)), some (.int (0 : Int32))]) dX7_busyBut_3 rfl (Nat.le_of_ble_eq_true rfl) rfl ?_
  obtain ⟨y11, hy11, hh⟩ := bd_some hh
  refine J_lp (a := ((0 : Int32), (0 : Int32))) (fun a : (Int32 × Int32) => J X MX7_busyBut (d + 5) 5 [some (.ref 19), some (.int p0), some (.int p1), some (.int a.1), some (.int a.2)] [] s w s') (fun t : Int32 => J X MX7_busyBut (d + 5) 49 [none, none, none, some (.int t), none] [] s w s') (fun a q h1 h2 => jbX7_busyBut_5 d s p0 p1 a.1 a.2 h1 h2) hy11 ?_
  refine J_iload_n (pc := 49) dX7_busyBut_49 rfl ?_
  obtain rfl := Option.some.inj hh
  obtain ⟨rfl, rfl⟩ := hk
  exact J_ret (w := some (.int y11)) ⟨dX7_busyBut_50, _, rfl, rfl⟩
theorem jX7_busyBut {X : Scr} (d : Nat) (s : Mem) (p0 : Int32) (p1 : Int32) {r : Int32} (hh : fX7_busyBut s p0 p1 = some r) : J X MX7_busyBut (d + 5) 0 [some (.ref 19), some (.int p0), some (.int p1), none, none] [] s (some (.int r)) s := jjX7_busyBut d s p0 p1 hh ⟨rfl, rfl⟩
theorem dX7_takenBut_0 : decode cX7_takenBut 0 = .ok (.iconst 0, 1) := by decide +kernel
theorem dX7_takenBut_1 : decode cX7_takenBut 1 = .ok (.istore 5, 2) := by decide +kernel
theorem dX7_takenBut_3 : decode cX7_takenBut 3 = .ok (.iconst 0, 1) := by decide +kernel
theorem dX7_takenBut_4 : decode cX7_takenBut 4 = .ok (.istore 6, 2) := by decide +kernel
theorem dX7_takenBut_6 : decode cX7_takenBut 6 = .ok (.iload 6, 2) := by decide +kernel
theorem dX7_takenBut_8 : decode cX7_takenBut 8 = .ok (.aload_n 0, 1) := by decide +kernel
theorem dX7_takenBut_9 : decode cX7_takenBut 9 = .ok (.getfield 9, 3) := by decide +kernel
theorem dX7_takenBut_12 : decode cX7_takenBut 12 = .ok (.bipush 96, 2) := by decide +kernel
theorem dX7_takenBut_14 : decode cX7_takenBut 14 = .ok (.iaload, 1) := by decide +kernel
theorem dX7_takenBut_15 : decode cX7_takenBut 15 = .ok (.if_icmp .ge 61, 3) := by decide +kernel
theorem dX7_takenBut_18 : decode cX7_takenBut 18 = .ok (.aload_n 0, 1) := by decide +kernel
theorem dX7_takenBut_19 : decode cX7_takenBut 19 = .ok (.iload 6, 2) := by decide +kernel
theorem dX7_takenBut_21 : decode cX7_takenBut 21 = .ok (.iload_n 1, 1) := by decide +kernel
theorem dX7_takenBut_22 : decode cX7_takenBut 22 = .ok (.invokevirtual 105, 3) := by decide +kernel
theorem dX7_takenBut_25 : decode cX7_takenBut 25 = .ok (.istore 7, 2) := by decide +kernel
theorem dX7_takenBut_27 : decode cX7_takenBut 27 = .ok (.iload 5, 2) := by decide +kernel
theorem dX7_takenBut_29 : decode cX7_takenBut 29 = .ok (.iload 6, 2) := by decide +kernel
theorem dX7_takenBut_31 : decode cX7_takenBut 31 = .ok (.iload 4, 2) := by decide +kernel
theorem dX7_takenBut_33 : decode cX7_takenBut 33 = .ok (.if_icmp .eq 33, 3) := by decide +kernel
theorem dX7_takenBut_36 : decode cX7_takenBut 36 = .ok (.iload 7, 2) := by decide +kernel
theorem dX7_takenBut_38 : decode cX7_takenBut 38 = .ok (.ifCond .lt 28, 3) := by decide +kernel
theorem dX7_takenBut_41 : decode cX7_takenBut 41 = .ok (.iload 7, 2) := by decide +kernel
theorem dX7_takenBut_43 : decode cX7_takenBut 43 = .ok (.iload_n 2, 1) := by decide +kernel
theorem dX7_takenBut_44 : decode cX7_takenBut 44 = .ok (.invokestatic 81, 3) := by decide +kernel
theorem dX7_takenBut_47 : decode cX7_takenBut 47 = .ok (.iload_n 3, 1) := by decide +kernel
theorem dX7_takenBut_48 : decode cX7_takenBut 48 = .ok (.if_icmp .ne 18, 3) := by decide +kernel
theorem dX7_takenBut_51 : decode cX7_takenBut 51 = .ok (.aload_n 0, 1) := by decide +kernel
theorem dX7_takenBut_52 : decode cX7_takenBut 52 = .ok (.iload_n 1, 1) := by decide +kernel
theorem dX7_takenBut_53 : decode cX7_takenBut 53 = .ok (.iload 7, 2) := by decide +kernel
theorem dX7_takenBut_55 : decode cX7_takenBut 55 = .ok (.iload_n 2, 1) := by decide +kernel
theorem dX7_takenBut_56 : decode cX7_takenBut 56 = .ok (.invokevirtual 89, 3) := by decide +kernel
theorem dX7_takenBut_59 : decode cX7_takenBut 59 = .ok (.ifCond .eq 7, 3) := by decide +kernel
theorem dX7_takenBut_62 : decode cX7_takenBut 62 = .ok (.iconst 1, 1) := by decide +kernel
theorem dX7_takenBut_63 : decode cX7_takenBut 63 = .ok (.goto 4, 3) := by decide +kernel
theorem dX7_takenBut_66 : decode cX7_takenBut 66 = .ok (.iconst 0, 1) := by decide +kernel
theorem dX7_takenBut_67 : decode cX7_takenBut 67 = .ok (.iadd, 1) := by decide +kernel
theorem dX7_takenBut_68 : decode cX7_takenBut 68 = .ok (.istore 5, 2) := by decide +kernel
theorem dX7_takenBut_70 : decode cX7_takenBut 70 = .ok (.iinc 6 1, 3) := by decide +kernel
theorem dX7_takenBut_73 : decode cX7_takenBut 73 = .ok (.goto (-67), 3) := by decide +kernel
theorem dX7_takenBut_76 : decode cX7_takenBut 76 = .ok (.iload 5, 2) := by decide +kernel
theorem dX7_takenBut_78 : decode cX7_takenBut 78 = .ok (.ireturn, 1) := by decide +kernel
def gX7_takenBut_66 (s : Mem) (v1 : Int32) (v2 : Int32) (v3 : Int32) (v4 : Int32) (v6 : Int32) (k0 : Int32) : Option (Int32 ⊕ (Int32 × Int32)) :=
  lt (k0 + (0 : Int32)) (fun x3 => lt (v6 + (1 : Int32)) (fun x4 => some (Sum.inr (x3, x4))))
set_option maxRecDepth 4000 in
theorem jgX7_takenBut_66 {X : Scr} (d : Nat) (s : Mem) (v1 : Int32) (v2 : Int32) (v3 : Int32) (v4 : Int32) (v6 : Int32) (k0 : Int32) {r : (Int32 ⊕ (Int32 × Int32))} {w : Option Value} {s' : Mem} (hh : gX7_takenBut_66 s v1 v2 v3 v4 v6 k0 = some r) (hk : Sum.elim (fun t : Int32 => J X MX7_takenBut (d + 3) 76 [none, none, none, none, none, some (.int t), none, none] [] s w s') (fun a : (Int32 × Int32) => J X MX7_takenBut (d + 3) 6 [some (.ref 19), some (.int v1), some (.int v2), some (.int v3), some (.int v4), some (.int a.1), some (.int a.2), none] [] s w s') r) : J X MX7_takenBut (d + 3) 66 [some (.ref 19), some (.int v1), some (.int v2), some (.int v3), some (.int v4), none, some (.int v6), none] [.int k0] s w s' := by
  unfold gX7_takenBut_66 at hh
  refine J_iconst (pc := 66) dX7_takenBut_66 ci_0 ?_
  refine J_iadd (pc := 67) dX7_takenBut_67 ?_
  refine J_istoreL (pc := 68) (fun x3 => [some (.ref 19), some (.int v1), some (.int v2), some (.int v3), some (.int v4), some (.int x3), some (.int v6), none]) dX7_takenBut_68 rfl (Nat.le_of_ble_eq_true rfl) (fun _ => rfl) hh (fun x3 hh => ?_)
  refine J_iincL (pc := 70) (v := v6 + (1 : Int32)) (fun x4 => [some (.ref 19), some (.int v1), some (.int v2), some (.int v3), some (.int v4), some (.int x3), some (.int x4), none]) dX7_takenBut_70 rfl rfl (Nat.le_of_ble_eq_true rfl) (congrArg _ ci_1) (fun _ => rfl) hh (fun x4 hh => ?_)
  refine J_goto (pc := 73) 6 dX7_takenBut_73 (by decide) ?_
  obtain rfl := Option.some.inj hh
  exact hk
def bX7_takenBut_6 (s : Mem) (v1 : Int32) (v2 : Int32) (v3 : Int32) (v4 : Int32) (v5 : Int32) (v6 : Int32) : Option (Int32 ⊕ (Int32 × Int32)) :=
  gd (96 : Int32) 139 (if (s.1 20 (96 : Int32).toNatClampNeg) ≤ v6 then some (Sum.inl v5) else (fX7_triple s v6 v1).bind (fun y2 => if v6 = v4 then gX7_takenBut_66 s v1 v2 v3 v4 v6 v5 else if y2 < (0 : Int32) then gX7_takenBut_66 s v1 v2 v3 v4 v6 v5 else (fX7_part y2 v2).bind (fun y5 => if y5 = v3 then (fX7_counts s v1 y2 v2).bind (fun y6 => if y6 = (0 : Int32) then gX7_takenBut_66 s v1 v2 v3 v4 v6 v5 else lt (v5 + (1 : Int32)) (fun x7 => lt (v6 + (1 : Int32)) (fun x8 => some (Sum.inr (x7, x8))))) else gX7_takenBut_66 s v1 v2 v3 v4 v6 v5)))
set_option maxRecDepth 4000 in
theorem jbX7_takenBut_6 {X : Scr} (d : Nat) (s : Mem) (v1 : Int32) (v2 : Int32) (v3 : Int32) (v4 : Int32) (v5 : Int32) (v6 : Int32) {r : (Int32 ⊕ (Int32 × Int32))} {w : Option Value} {s' : Mem} (hh : bX7_takenBut_6 s v1 v2 v3 v4 v5 v6 = some r) (hk : Sum.elim (fun t : Int32 => J X MX7_takenBut (d + 3) 76 [none, none, none, none, none, some (.int t), none, none] [] s w s') (fun a : (Int32 × Int32) => J X MX7_takenBut (d + 3) 6 [some (.ref 19), some (.int v1), some (.int v2), some (.int v3), some (.int v4), some (.int a.1), some (.int a.2), none] [] s w s') r) : J X MX7_takenBut (d + 3) 6 [some (.ref 19), some (.int v1), some (.int v2), some (.int v3), some (.int v4), some (.int v5), some (.int v6), none] [] s w s' := by
  unfold bX7_takenBut_6 at hh
  refine J_iload (pc := 6) dX7_takenBut_6 rfl ?_
  refine J_aload_n (pc := 8) dX7_takenBut_8 rfl ?_
  refine J_getR (pc := 9) (k := 0) flX7_9 so19 fk19_0 dX7_takenBut_9 ?_
  refine J_bipush (pc := 12) dX7_takenBut_12 cb_96 ?_
  obtain ⟨h1, hh⟩ := gd_some hh
  refine J_iald (pc := 14) dX7_takenBut_14 sa20 h1 ?_
  refine J_icmp_ge (pc := 15) 76 dX7_takenBut_15 (by decide) (fun c13 => ?_) (fun c13 => ?_)
  · replace hh := (if_pos c13).symm.trans hh
    refine J_drop 0 (L' := [none, some (.int v1), some (.int v2), some (.int v3), some (.int v4), some (.int v5), some (.int v6), none]) rfl ?_
    refine J_drop 1 (L' := [none, none, some (.int v2), some (.int v3), some (.int v4), some (.int v5), some (.int v6), none]) rfl ?_
    refine J_drop 2 (L' := [none, none, none, some (.int v3), some (.int v4), some (.int v5), some (.int v6), none]) rfl ?_
    refine J_drop 3 (L' := [none, none, none, none, some (.int v4), some (.int v5), some (.int v6), none]) rfl ?_
    refine J_drop 4 (L' := [none, none, none, none, none, some (.int v5), some (.int v6), none]) rfl ?_
    refine J_drop 6 (L' := [none, none, none, none, none, some (.int v5), none, none]) rfl ?_
    obtain rfl := Option.some.inj hh
    exact hk
  · replace hh := (if_neg c13).symm.trans hh
    refine J_aload_n (pc := 18) dX7_takenBut_18 rfl ?_
    refine J_iload (pc := 19) dX7_takenBut_19 rfl ?_
    refine J_iload_n (pc := 21) dX7_takenBut_21 rfl ?_
    obtain ⟨y2, hy2, hh⟩ := bd_some hh
    refine J_callVi (pc := 22) (M' := MX7_triple) (a := 19) (rest := []) (As := [.int v6, .int v1]) (L0 := [some (.ref 19), some (.int v6), some (.int v1)]) okX7_triple ovX7_triple mlX7_105 clX7 so19 rfl rfl (Nat.le_of_ble_eq_true rfl) dX7_takenBut_22 rfl (Nat.le_of_ble_eq_true rfl) (jX7_triple (X := X) (d + 2) s v6 v1 hy2) ?_
    refine J_istore (pc := 25) (L' := [some (.ref 19), some (.int v1), some (.int v2), some (.int v3), some (.int v4), some (.int v5), some (.int v6), some (.int y2)]) dX7_takenBut_25 rfl (Nat.le_of_ble_eq_true rfl) rfl ?_
    refine J_iload (pc := 27) dX7_takenBut_27 rfl ?_
    refine J_iload (pc := 29) dX7_takenBut_29 rfl ?_
    refine J_iload (pc := 31) dX7_takenBut_31 rfl ?_
    refine J_icmp_eq (pc := 33) 66 dX7_takenBut_33 (by decide) (fun c12 => ?_) (fun c12 => ?_)
    · replace hh := (if_pos c12).symm.trans hh
      refine J_drop 5 (L' := [some (.ref 19), some (.int v1), some (.int v2), some (.int v3), some (.int v4), none, some (.int v6), some (.int y2)]) rfl ?_
      refine J_drop 7 (L' := [some (.ref 19), some (.int v1), some (.int v2), some (.int v3), some (.int v4), none, some (.int v6), none]) rfl ?_
      exact jgX7_takenBut_66 d s v1 v2 v3 v4 v6 v5 hh hk
    · replace hh := (if_neg c12).symm.trans hh
      refine J_iload (pc := 36) dX7_takenBut_36 rfl ?_
      refine J_if_lt (pc := 38) 66 dX7_takenBut_38 (by decide) (fun c11 => ?_) (fun c11 => ?_)
      · replace hh := (if_pos c11).symm.trans hh
        refine J_drop 5 (L' := [some (.ref 19), some (.int v1), some (.int v2), some (.int v3), some (.int v4), none, some (.int v6), some (.int y2)]) rfl ?_
        refine J_drop 7 (L' := [some (.ref 19), some (.int v1), some (.int v2), some (.int v3), some (.int v4), none, some (.int v6), none]) rfl ?_
        exact jgX7_takenBut_66 d s v1 v2 v3 v4 v6 v5 hh hk
      · replace hh := (if_neg c11).symm.trans hh
        refine J_iload (pc := 41) dX7_takenBut_41 rfl ?_
        refine J_iload_n (pc := 43) dX7_takenBut_43 rfl ?_
        obtain ⟨y5, hy5, hh⟩ := bd_some hh
        refine J_callSi (pc := 44) (M' := MX7_part) (rest := [.int v5]) (As := [.int y2, .int v2]) (L0 := [some (.int y2), some (.int v2)]) okX7_part osX7_part mlX7_81 rfl rfl (Nat.le_of_ble_eq_true rfl) dX7_takenBut_44 rfl (Nat.le_of_ble_eq_true rfl) (jX7_part (X := X) (d + 2) s y2 v2 hy5) ?_
        refine J_iload_n (pc := 47) dX7_takenBut_47 rfl ?_
        refine J_icmp_ne (pc := 48) 66 dX7_takenBut_48 (by decide) (fun c10 => ?_) (fun c10 => ?_)
        · replace hh := (if_neg c10).symm.trans hh
          refine J_drop 5 (L' := [some (.ref 19), some (.int v1), some (.int v2), some (.int v3), some (.int v4), none, some (.int v6), some (.int y2)]) rfl ?_
          refine J_drop 7 (L' := [some (.ref 19), some (.int v1), some (.int v2), some (.int v3), some (.int v4), none, some (.int v6), none]) rfl ?_
          exact jgX7_takenBut_66 d s v1 v2 v3 v4 v6 v5 hh hk
        · replace hh := (if_pos c10).symm.trans hh
          refine J_aload_n (pc := 51) dX7_takenBut_51 rfl ?_
          refine J_iload_n (pc := 52) dX7_takenBut_52 rfl ?_
          refine J_iload (pc := 53) dX7_takenBut_53 rfl ?_
          refine J_iload_n (pc := 55) dX7_takenBut_55 rfl ?_
          obtain ⟨y6, hy6, hh⟩ := bd_some hh
          refine J_callVi (pc := 56) (M' := MX7_counts) (a := 19) (rest := [.int v5]) (As := [.int v1, .int y2, .int v2]) (L0 := [some (.ref 19), some (.int v1), some (.int y2), some (.int v2)]) okX7_counts ovX7_counts mlX7_89 clX7 so19 rfl rfl (Nat.le_of_ble_eq_true rfl) dX7_takenBut_56 rfl (Nat.le_of_ble_eq_true rfl) (jX7_counts (X := X) d s v1 y2 v2 hy6) ?_
          refine J_if_eq (pc := 59) 66 dX7_takenBut_59 (by decide) (fun c9 => ?_) (fun c9 => ?_)
          · replace hh := (if_pos c9).symm.trans hh
            refine J_drop 5 (L' := [some (.ref 19), some (.int v1), some (.int v2), some (.int v3), some (.int v4), none, some (.int v6), some (.int y2)]) rfl ?_
            refine J_drop 7 (L' := [some (.ref 19), some (.int v1), some (.int v2), some (.int v3), some (.int v4), none, some (.int v6), none]) rfl ?_
            exact jgX7_takenBut_66 d s v1 v2 v3 v4 v6 v5 hh hk
          · replace hh := (if_neg c9).symm.trans hh
            refine J_iconst (pc := 62) dX7_takenBut_62 ci_1 ?_
            refine J_goto (pc := 63) 67 dX7_takenBut_63 (by decide) ?_
            refine J_iadd (pc := 67) dX7_takenBut_67 ?_
            refine J_istoreL (pc := 68) (fun x7 => [some (.ref 19), some (.int v1), some (.int v2), some (.int v3), some (.int v4), some (.int x7), some (.int v6), some (.int y2)]) dX7_takenBut_68 rfl (Nat.le_of_ble_eq_true rfl) (fun _ => rfl) hh (fun x7 hh => ?_)
            refine J_iincL (pc := 70) (v := v6 + (1 : Int32)) (fun x8 => [some (.ref 19), some (.int v1), some (.int v2), some (.int v3), some (.int v4), some (.int x7), some (.int x8), some (.int y2)]) dX7_takenBut_70 rfl rfl (Nat.le_of_ble_eq_true rfl) (congrArg _ ci_1) (fun _ => rfl) hh (fun x8 hh => ?_)
            refine J_goto (pc := 73) 6 dX7_takenBut_73 (by decide) ?_
            refine J_drop 7 (L' := [some (.ref 19), some (.int v1), some (.int v2), some (.int v3), some (.int v4), some (.int x7), some (.int x8), none]) rfl ?_
            obtain rfl := Option.some.inj hh
            exact hk
def fX7_takenBut (s : Mem) (p0 : Int32) (p1 : Int32) (p2 : Int32) (p3 : Int32) : Option Int32 :=
  (lp (fun a => bX7_takenBut_6 s p0 p1 p2 p3 a.1 a.2) 600 ((0 : Int32), (0 : Int32))).bind (fun y14 => some y14)
set_option maxRecDepth 4000 in
theorem jjX7_takenBut {X : Scr} (d : Nat) (s : Mem) (p0 : Int32) (p1 : Int32) (p2 : Int32) (p3 : Int32) {r : Int32} {w : Option Value} {s' : Mem} (hh : fX7_takenBut s p0 p1 p2 p3 = some r) (hk : w = some (.int r) ∧ s = s') : J X MX7_takenBut (d + 3) 0 [some (.ref 19), some (.int p0), some (.int p1), some (.int p2), some (.int p3), none, none, none] [] s w s' := by
  unfold fX7_takenBut at hh
  refine J_iconst (pc := 0) dX7_takenBut_0 ci_0 ?_
  refine J_istore (pc := 1) (L' := [some (.ref 19), some (.int p0), some (.int p1), some (.int p2), some (.int p3), some (.int (0 : Int32)), none, none]) dX7_takenBut_1 rfl (Nat.le_of_ble_eq_true rfl) rfl ?_
  refine J_iconst (pc := 3) dX7_takenBut_3 ci_0 ?_
  refine J_istore (pc := 4) (L' := [some (.ref 19), some (.int p0), some (.int p1), some (.int p2), some (.int p3), some (.int (0 : Int32)), some (.int (0 : Int32)), none]) dX7_takenBut_4 rfl (Nat.le_of_ble_eq_true rfl) rfl ?_
  obtain ⟨y14, hy14, hh⟩ := bd_some hh
  refine J_lp (a := ((0 : Int32), (0 : Int32))) (fun a : (Int32 × Int32) => J X MX7_takenBut (d + 3) 6 [some (.ref 19), some (.int p0), some (.int p1), some (.int p2), some (.int p3), some (.int a.1), some (.int a.2), none] [] s w s') (fun t : Int32 => J X MX7_takenBut (d + 3) 76 [none, none, none, none, none, some (.int t), none, none] [] s w s') (fun a q h1 h2 => jbX7_takenBut_6 d s p0 p1 p2 p3 a.1 a.2 h1 h2) hy14 ?_
  refine J_iload (pc := 76) dX7_takenBut_76 rfl ?_
  obtain rfl := Option.some.inj hh
  obtain ⟨rfl, rfl⟩ := hk
  exact J_ret (w := some (.int y14)) ⟨dX7_takenBut_78, _, rfl, rfl⟩
theorem jX7_takenBut {X : Scr} (d : Nat) (s : Mem) (p0 : Int32) (p1 : Int32) (p2 : Int32) (p3 : Int32) {r : Int32} (hh : fX7_takenBut s p0 p1 p2 p3 = some r) : J X MX7_takenBut (d + 3) 0 [some (.ref 19), some (.int p0), some (.int p1), some (.int p2), some (.int p3), none, none, none] [] s (some (.int r)) s := jjX7_takenBut d s p0 p1 p2 p3 hh ⟨rfl, rfl⟩
theorem dX7_leftBut_0 : decode cX7_leftBut 0 = .ok (.aload_n 0, 1) := by decide +kernel
theorem dX7_leftBut_1 : decode cX7_leftBut 1 = .ok (.getfield 9, 3) := by decide +kernel
theorem dX7_leftBut_4 : decode cX7_leftBut 4 = .ok (.iload_n 1, 1) := by decide +kernel
theorem dX7_leftBut_5 : decode cX7_leftBut 5 = .ok (.iload_n 2, 1) := by decide +kernel
theorem dX7_leftBut_6 : decode cX7_leftBut 6 = .ok (.iload_n 3, 1) := by decide +kernel
theorem dX7_leftBut_7 : decode cX7_leftBut 7 = .ok (.invokestatic 73, 3) := by decide +kernel
theorem dX7_leftBut_10 : decode cX7_leftBut 10 = .ok (.iconst 2, 1) := by decide +kernel
theorem dX7_leftBut_11 : decode cX7_leftBut 11 = .ok (.iadd, 1) := by decide +kernel
theorem dX7_leftBut_12 : decode cX7_leftBut 12 = .ok (.iaload, 1) := by decide +kernel
theorem dX7_leftBut_13 : decode cX7_leftBut 13 = .ok (.aload_n 0, 1) := by decide +kernel
theorem dX7_leftBut_14 : decode cX7_leftBut 14 = .ok (.iload_n 1, 1) := by decide +kernel
theorem dX7_leftBut_15 : decode cX7_leftBut 15 = .ok (.iload_n 2, 1) := by decide +kernel
theorem dX7_leftBut_16 : decode cX7_leftBut 16 = .ok (.iload_n 3, 1) := by decide +kernel
theorem dX7_leftBut_17 : decode cX7_leftBut 17 = .ok (.iload 4, 2) := by decide +kernel
theorem dX7_leftBut_19 : decode cX7_leftBut 19 = .ok (.invokevirtual 110, 3) := by decide +kernel
theorem dX7_leftBut_22 : decode cX7_leftBut 22 = .ok (.isub, 1) := by decide +kernel
theorem dX7_leftBut_23 : decode cX7_leftBut 23 = .ok (.ireturn, 1) := by decide +kernel
def fX7_leftBut (s : Mem) (p0 : Int32) (p1 : Int32) (p2 : Int32) (p3 : Int32) : Option Int32 :=
  (fX7_at p0 p1 p2).bind (fun y1 => gd (y1 + (2 : Int32)) 139 ((fX7_takenBut s p0 p1 p2 p3).bind (fun y3 => some (((s.1 20 (y1 + (2 : Int32)).toNatClampNeg) - y3)))))
set_option maxRecDepth 4000 in
theorem jjX7_leftBut {X : Scr} (d : Nat) (s : Mem) (p0 : Int32) (p1 : Int32) (p2 : Int32) (p3 : Int32) {r : Int32} {w : Option Value} {s' : Mem} (hh : fX7_leftBut s p0 p1 p2 p3 = some r) (hk : w = some (.int r) ∧ s = s') : J X MX7_leftBut (d + 4) 0 [some (.ref 19), some (.int p0), some (.int p1), some (.int p2), some (.int p3)] [] s w s' := by
  unfold fX7_leftBut at hh
  refine J_aload_n (pc := 0) dX7_leftBut_0 rfl ?_
  refine J_getR (pc := 1) (k := 0) flX7_9 so19 fk19_0 dX7_leftBut_1 ?_
  refine J_iload_n (pc := 4) dX7_leftBut_4 rfl ?_
  refine J_iload_n (pc := 5) dX7_leftBut_5 rfl ?_
  refine J_iload_n (pc := 6) dX7_leftBut_6 rfl ?_
  obtain ⟨y1, hy1, hh⟩ := bd_some hh
  refine J_callSi (pc := 7) (M' := MX7_at) (rest := [.ref 20]) (As := [.int p0, .int p1, .int p2]) (L0 := [some (.int p0), some (.int p1), some (.int p2)]) okX7_at osX7_at mlX7_73 rfl rfl (Nat.le_of_ble_eq_true rfl) dX7_leftBut_7 rfl (Nat.le_of_ble_eq_true rfl) (jX7_at (X := X) (d + 3) s p0 p1 p2 hy1) ?_
  refine J_iconst (pc := 10) dX7_leftBut_10 ci_2 ?_
  refine J_iadd (pc := 11) dX7_leftBut_11 ?_
  obtain ⟨h2, hh⟩ := gd_some hh
  refine J_iald (pc := 12) dX7_leftBut_12 sa20 h2 ?_
  refine J_aload_n (pc := 13) dX7_leftBut_13 rfl ?_
  refine J_iload_n (pc := 14) dX7_leftBut_14 rfl ?_
  refine J_iload_n (pc := 15) dX7_leftBut_15 rfl ?_
  refine J_iload_n (pc := 16) dX7_leftBut_16 rfl ?_
  refine J_iload (pc := 17) dX7_leftBut_17 rfl ?_
  obtain ⟨y3, hy3, hh⟩ := bd_some hh
  refine J_callVi (pc := 19) (M' := MX7_takenBut) (a := 19) (rest := [.int (s.1 20 (y1 + (2 : Int32)).toNatClampNeg)]) (As := [.int p0, .int p1, .int p2, .int p3]) (L0 := [some (.ref 19), some (.int p0), some (.int p1), some (.int p2), some (.int p3), none, none, none]) okX7_takenBut ovX7_takenBut mlX7_110 clX7 so19 rfl rfl (Nat.le_of_ble_eq_true rfl) dX7_leftBut_19 rfl (Nat.le_of_ble_eq_true rfl) (jX7_takenBut (X := X) d s p0 p1 p2 p3 hy3) ?_
  refine J_isub (pc := 22) dX7_leftBut_22 ?_
  obtain rfl := Option.some.inj hh
  obtain ⟨rfl, rfl⟩ := hk
  exact J_ret (w := some (.int ((s.1 20 (y1 + (2 : Int32)).toNatClampNeg) - y3))) ⟨dX7_leftBut_23, _, rfl, rfl⟩
theorem jX7_leftBut {X : Scr} (d : Nat) (s : Mem) (p0 : Int32) (p1 : Int32) (p2 : Int32) (p3 : Int32) {r : Int32} (hh : fX7_leftBut s p0 p1 p2 p3 = some r) : J X MX7_leftBut (d + 4) 0 [some (.ref 19), some (.int p0), some (.int p1), some (.int p2), some (.int p3)] [] s (some (.int r)) s := jjX7_leftBut d s p0 p1 p2 p3 hh ⟨rfl, rfl⟩
theorem dX7_costOf_0 : decode cX7_costOf 0 = .ok (.iconst 0, 1) := by decide +kernel
theorem dX7_costOf_1 : decode cX7_costOf 1 = .ok (.istore_n 2, 1) := by decide +kernel
theorem dX7_costOf_2 : decode cX7_costOf 2 = .ok (.iconst 0, 1) := by decide +kernel
theorem dX7_costOf_3 : decode cX7_costOf 3 = .ok (.istore_n 3, 1) := by decide +kernel
theorem dX7_costOf_4 : decode cX7_costOf 4 = .ok (.iload_n 3, 1) := by decide +kernel
theorem dX7_costOf_5 : decode cX7_costOf 5 = .ok (.iconst 5, 1) := by decide +kernel
theorem dX7_costOf_6 : decode cX7_costOf 6 = .ok (.if_icmp .ge 28, 3) := by decide +kernel
theorem dX7_costOf_9 : decode cX7_costOf 9 = .ok (.iload_n 2, 1) := by decide +kernel
theorem dX7_costOf_10 : decode cX7_costOf 10 = .ok (.iload_n 1, 1) := by decide +kernel
theorem dX7_costOf_11 : decode cX7_costOf 11 = .ok (.iconst 4, 1) := by decide +kernel
theorem dX7_costOf_12 : decode cX7_costOf 12 = .ok (.iload_n 3, 1) := by decide +kernel
theorem dX7_costOf_13 : decode cX7_costOf 13 = .ok (.imul, 1) := by decide +kernel
theorem dX7_costOf_14 : decode cX7_costOf 14 = .ok (.ishr, 1) := by decide +kernel
theorem dX7_costOf_15 : decode cX7_costOf 15 = .ok (.bipush 15, 2) := by decide +kernel
theorem dX7_costOf_17 : decode cX7_costOf 17 = .ok (.iand, 1) := by decide +kernel
theorem dX7_costOf_18 : decode cX7_costOf 18 = .ok (.ifCond .eq 7, 3) := by decide +kernel
theorem dX7_costOf_21 : decode cX7_costOf 21 = .ok (.iconst 1, 1) := by decide +kernel
theorem dX7_costOf_22 : decode cX7_costOf 22 = .ok (.goto 4, 3) := by decide +kernel
theorem dX7_costOf_25 : decode cX7_costOf 25 = .ok (.iconst 0, 1) := by decide +kernel
theorem dX7_costOf_26 : decode cX7_costOf 26 = .ok (.iadd, 1) := by decide +kernel
theorem dX7_costOf_27 : decode cX7_costOf 27 = .ok (.istore_n 2, 1) := by decide +kernel
theorem dX7_costOf_28 : decode cX7_costOf 28 = .ok (.iinc 3 1, 3) := by decide +kernel
theorem dX7_costOf_31 : decode cX7_costOf 31 = .ok (.goto (-27), 3) := by decide +kernel
theorem dX7_costOf_34 : decode cX7_costOf 34 = .ok (.iconst 0, 1) := by decide +kernel
theorem dX7_costOf_35 : decode cX7_costOf 35 = .ok (.istore_n 3, 1) := by decide +kernel
theorem dX7_costOf_36 : decode cX7_costOf 36 = .ok (.iconst 0, 1) := by decide +kernel
theorem dX7_costOf_37 : decode cX7_costOf 37 = .ok (.istore 4, 2) := by decide +kernel
theorem dX7_costOf_39 : decode cX7_costOf 39 = .ok (.iconst 0, 1) := by decide +kernel
theorem dX7_costOf_40 : decode cX7_costOf 40 = .ok (.istore 5, 2) := by decide +kernel
theorem dX7_costOf_42 : decode cX7_costOf 42 = .ok (.iload 5, 2) := by decide +kernel
theorem dX7_costOf_44 : decode cX7_costOf 44 = .ok (.iconst 5, 1) := by decide +kernel
theorem dX7_costOf_45 : decode cX7_costOf 45 = .ok (.if_icmp .ge 35, 3) := by decide +kernel
theorem dX7_costOf_48 : decode cX7_costOf 48 = .ok (.iload_n 3, 1) := by decide +kernel
theorem dX7_costOf_49 : decode cX7_costOf 49 = .ok (.iload_n 1, 1) := by decide +kernel
theorem dX7_costOf_50 : decode cX7_costOf 50 = .ok (.iconst 4, 1) := by decide +kernel
theorem dX7_costOf_51 : decode cX7_costOf 51 = .ok (.iload 5, 2) := by decide +kernel
theorem dX7_costOf_53 : decode cX7_costOf 53 = .ok (.imul, 1) := by decide +kernel
theorem dX7_costOf_54 : decode cX7_costOf 54 = .ok (.iconst 3, 1) := by decide +kernel
theorem dX7_costOf_55 : decode cX7_costOf 55 = .ok (.iadd, 1) := by decide +kernel
theorem dX7_costOf_56 : decode cX7_costOf 56 = .ok (.ishr, 1) := by decide +kernel
theorem dX7_costOf_57 : decode cX7_costOf 57 = .ok (.iconst 1, 1) := by decide +kernel
theorem dX7_costOf_58 : decode cX7_costOf 58 = .ok (.iand, 1) := by decide +kernel
theorem dX7_costOf_59 : decode cX7_costOf 59 = .ok (.iadd, 1) := by decide +kernel
theorem dX7_costOf_60 : decode cX7_costOf 60 = .ok (.istore_n 3, 1) := by decide +kernel
theorem dX7_costOf_61 : decode cX7_costOf 61 = .ok (.iload 4, 2) := by decide +kernel
theorem dX7_costOf_63 : decode cX7_costOf 63 = .ok (.iload_n 1, 1) := by decide +kernel
theorem dX7_costOf_64 : decode cX7_costOf 64 = .ok (.iconst 4, 1) := by decide +kernel
theorem dX7_costOf_65 : decode cX7_costOf 65 = .ok (.iload 5, 2) := by decide +kernel
theorem dX7_costOf_67 : decode cX7_costOf 67 = .ok (.imul, 1) := by decide +kernel
theorem dX7_costOf_68 : decode cX7_costOf 68 = .ok (.ishr, 1) := by decide +kernel
theorem dX7_costOf_69 : decode cX7_costOf 69 = .ok (.iconst 1, 1) := by decide +kernel
theorem dX7_costOf_70 : decode cX7_costOf 70 = .ok (.iand, 1) := by decide +kernel
theorem dX7_costOf_71 : decode cX7_costOf 71 = .ok (.iadd, 1) := by decide +kernel
theorem dX7_costOf_72 : decode cX7_costOf 72 = .ok (.istore 4, 2) := by decide +kernel
theorem dX7_costOf_74 : decode cX7_costOf 74 = .ok (.iinc 5 1, 3) := by decide +kernel
theorem dX7_costOf_77 : decode cX7_costOf 77 = .ok (.goto (-35), 3) := by decide +kernel
theorem dX7_costOf_80 : decode cX7_costOf 80 = .ok (.iload_n 0, 1) := by decide +kernel
theorem dX7_costOf_81 : decode cX7_costOf 81 = .ok (.tableswitch 69 0 4 #[35, 37, 41, 46, 61], 35) := by decide +kernel
theorem dX7_costOf_116 : decode cX7_costOf 116 = .ok (.iload_n 2, 1) := by decide +kernel
theorem dX7_costOf_117 : decode cX7_costOf 117 = .ok (.ireturn, 1) := by decide +kernel
theorem dX7_costOf_118 : decode cX7_costOf 118 = .ok (.iload_n 2, 1) := by decide +kernel
theorem dX7_costOf_119 : decode cX7_costOf 119 = .ok (.iload_n 3, 1) := by decide +kernel
theorem dX7_costOf_120 : decode cX7_costOf 120 = .ok (.iadd, 1) := by decide +kernel
theorem dX7_costOf_121 : decode cX7_costOf 121 = .ok (.ireturn, 1) := by decide +kernel
theorem dX7_costOf_122 : decode cX7_costOf 122 = .ok (.iload_n 2, 1) := by decide +kernel
theorem dX7_costOf_123 : decode cX7_costOf 123 = .ok (.iload 4, 2) := by decide +kernel
theorem dX7_costOf_125 : decode cX7_costOf 125 = .ok (.iadd, 1) := by decide +kernel
theorem dX7_costOf_126 : decode cX7_costOf 126 = .ok (.ireturn, 1) := by decide +kernel
theorem dX7_costOf_127 : decode cX7_costOf 127 = .ok (.iload_n 2, 1) := by decide +kernel
theorem dX7_costOf_128 : decode cX7_costOf 128 = .ok (.iload_n 3, 1) := by decide +kernel
theorem dX7_costOf_129 : decode cX7_costOf 129 = .ok (.iadd, 1) := by decide +kernel
theorem dX7_costOf_130 : decode cX7_costOf 130 = .ok (.iconst 2, 1) := by decide +kernel
theorem dX7_costOf_131 : decode cX7_costOf 131 = .ok (.iload_n 1, 1) := by decide +kernel
theorem dX7_costOf_132 : decode cX7_costOf 132 = .ok (.sipush 3840, 3) := by decide +kernel
theorem dX7_costOf_135 : decode cX7_costOf 135 = .ok (.iand, 1) := by decide +kernel
theorem dX7_costOf_136 : decode cX7_costOf 136 = .ok (.invokestatic 114, 3) := by decide +kernel
theorem dX7_costOf_139 : decode cX7_costOf 139 = .ok (.imul, 1) := by decide +kernel
theorem dX7_costOf_140 : decode cX7_costOf 140 = .ok (.iadd, 1) := by decide +kernel
theorem dX7_costOf_141 : decode cX7_costOf 141 = .ok (.ireturn, 1) := by decide +kernel
theorem dX7_costOf_142 : decode cX7_costOf 142 = .ok (.bipush 20, 2) := by decide +kernel
theorem dX7_costOf_144 : decode cX7_costOf 144 = .ok (.iload_n 2, 1) := by decide +kernel
theorem dX7_costOf_145 : decode cX7_costOf 145 = .ok (.isub, 1) := by decide +kernel
theorem dX7_costOf_146 : decode cX7_costOf 146 = .ok (.iload 4, 2) := by decide +kernel
theorem dX7_costOf_148 : decode cX7_costOf 148 = .ok (.isub, 1) := by decide +kernel
theorem dX7_costOf_149 : decode cX7_costOf 149 = .ok (.ireturn, 1) := by decide +kernel
theorem dX7_costOf_150 : decode cX7_costOf 150 = .ok (.iconst 0, 1) := by decide +kernel
theorem dX7_costOf_151 : decode cX7_costOf 151 = .ok (.ireturn, 1) := by decide +kernel
def bX7_costOf_4 (v0 : Int32) (v1 : Int32) (v2 : Int32) (v3 : Int32) : Option (Int32 ⊕ (Int32 × Int32)) :=
  if (5 : Int32) ≤ v3 then some (Sum.inl v2) else if ((v1 >>> (((4 : Int32) * v3) &&& 31)) &&& (15 : Int32)) = (0 : Int32) then lt (v2 + (0 : Int32)) (fun x1 => lt (v3 + (1 : Int32)) (fun x2 => some (Sum.inr (x1, x2)))) else lt (v2 + (1 : Int32)) (fun x3 => lt (v3 + (1 : Int32)) (fun x4 => some (Sum.inr (x3, x4))))
set_option maxRecDepth 4000 in
theorem jbX7_costOf_4 {X : Scr} (d : Nat) {s : Mem} (v0 : Int32) (v1 : Int32) (v2 : Int32) (v3 : Int32) {r : (Int32 ⊕ (Int32 × Int32))} {w : Option Value} {s' : Mem} (hh : bX7_costOf_4 v0 v1 v2 v3 = some r) (hk : Sum.elim (fun t : Int32 => J X MX7_costOf (d + 1) 34 [some (.int v0), some (.int v1), some (.int t), none, none, none] [] s w s') (fun a : (Int32 × Int32) => J X MX7_costOf (d + 1) 4 [some (.int v0), some (.int v1), some (.int a.1), some (.int a.2), none, none] [] s w s') r) : J X MX7_costOf (d + 1) 4 [some (.int v0), some (.int v1), some (.int v2), some (.int v3), none, none] [] s w s' := by
  unfold bX7_costOf_4 at hh
  refine J_iload_n (pc := 4) dX7_costOf_4 rfl ?_
  refine J_iconst (pc := 5) dX7_costOf_5 ci_5 ?_
  refine J_icmp_ge (pc := 6) 34 dX7_costOf_6 (by decide) (fun c6 => ?_) (fun c6 => ?_)
  · replace hh := (if_pos c6).symm.trans hh
    refine J_drop 3 (L' := [some (.int v0), some (.int v1), some (.int v2), none, none, none]) rfl ?_
    obtain rfl := Option.some.inj hh
    exact hk
  · replace hh := (if_neg c6).symm.trans hh
    refine J_iload_n (pc := 9) dX7_costOf_9 rfl ?_
    refine J_iload_n (pc := 10) dX7_costOf_10 rfl ?_
    refine J_iconst (pc := 11) dX7_costOf_11 ci_4 ?_
    refine J_iload_n (pc := 12) dX7_costOf_12 rfl ?_
    refine J_imul (pc := 13) dX7_costOf_13 ?_
    refine J_ishr (pc := 14) dX7_costOf_14 ?_
    refine J_bipush (pc := 15) dX7_costOf_15 cb_15 ?_
    refine J_iand (pc := 17) dX7_costOf_17 ?_
    refine J_if_eq (pc := 18) 25 dX7_costOf_18 (by decide) (fun c5 => ?_) (fun c5 => ?_)
    · replace hh := (if_pos c5).symm.trans hh
      refine J_iconst (pc := 25) dX7_costOf_25 ci_0 ?_
      refine J_iadd (pc := 26) dX7_costOf_26 ?_
      refine J_istoreL_n (pc := 27) (fun x1 => [some (.int v0), some (.int v1), some (.int x1), some (.int v3), none, none]) dX7_costOf_27 rfl (Nat.le_of_ble_eq_true rfl) (fun _ => rfl) hh (fun x1 hh => ?_)
      refine J_iincL (pc := 28) (v := v3 + (1 : Int32)) (fun x2 => [some (.int v0), some (.int v1), some (.int x1), some (.int x2), none, none]) dX7_costOf_28 rfl rfl (Nat.le_of_ble_eq_true rfl) (congrArg _ ci_1) (fun _ => rfl) hh (fun x2 hh => ?_)
      refine J_goto (pc := 31) 4 dX7_costOf_31 (by decide) ?_
      obtain rfl := Option.some.inj hh
      exact hk
    · replace hh := (if_neg c5).symm.trans hh
      refine J_iconst (pc := 21) dX7_costOf_21 ci_1 ?_
      refine J_goto (pc := 22) 26 dX7_costOf_22 (by decide) ?_
      refine J_iadd (pc := 26) dX7_costOf_26 ?_
      refine J_istoreL_n (pc := 27) (fun x3 => [some (.int v0), some (.int v1), some (.int x3), some (.int v3), none, none]) dX7_costOf_27 rfl (Nat.le_of_ble_eq_true rfl) (fun _ => rfl) hh (fun x3 hh => ?_)
      refine J_iincL (pc := 28) (v := v3 + (1 : Int32)) (fun x4 => [some (.int v0), some (.int v1), some (.int x3), some (.int x4), none, none]) dX7_costOf_28 rfl rfl (Nat.le_of_ble_eq_true rfl) (congrArg _ ci_1) (fun _ => rfl) hh (fun x4 hh => ?_)
      refine J_goto (pc := 31) 4 dX7_costOf_31 (by decide) ?_
      obtain rfl := Option.some.inj hh
      exact hk
def bX7_costOf_42 (v0 : Int32) (v1 : Int32) (v2 : Int32) (v3 : Int32) (v4 : Int32) (v5 : Int32) : Option ((Int32 × Int32) ⊕ (Int32 × Int32 × Int32)) :=
  if (5 : Int32) ≤ v5 then some (Sum.inl (v3, v4)) else lt (v3 + ((v1 >>> ((((4 : Int32) * v5) + (3 : Int32)) &&& 31)) &&& (1 : Int32))) (fun x8 => lt (v4 + ((v1 >>> (((4 : Int32) * v5) &&& 31)) &&& (1 : Int32))) (fun x9 => lt (v5 + (1 : Int32)) (fun x10 => some (Sum.inr (x8, x9, x10)))))
set_option maxRecDepth 4000 in
theorem jbX7_costOf_42 {X : Scr} (d : Nat) {s : Mem} (v0 : Int32) (v1 : Int32) (v2 : Int32) (v3 : Int32) (v4 : Int32) (v5 : Int32) {r : ((Int32 × Int32) ⊕ (Int32 × Int32 × Int32))} {w : Option Value} {s' : Mem} (hh : bX7_costOf_42 v0 v1 v2 v3 v4 v5 = some r) (hk : Sum.elim (fun t : (Int32 × Int32) => J X MX7_costOf (d + 1) 80 [some (.int v0), some (.int v1), some (.int v2), some (.int t.1), some (.int t.2), none] [] s w s') (fun a : (Int32 × Int32 × Int32) => J X MX7_costOf (d + 1) 42 [some (.int v0), some (.int v1), some (.int v2), some (.int a.1), some (.int a.2.1), some (.int a.2.2)] [] s w s') r) : J X MX7_costOf (d + 1) 42 [some (.int v0), some (.int v1), some (.int v2), some (.int v3), some (.int v4), some (.int v5)] [] s w s' := by
  unfold bX7_costOf_42 at hh
  refine J_iload (pc := 42) dX7_costOf_42 rfl ?_
  refine J_iconst (pc := 44) dX7_costOf_44 ci_5 ?_
  refine J_icmp_ge (pc := 45) 80 dX7_costOf_45 (by decide) (fun c11 => ?_) (fun c11 => ?_)
  · replace hh := (if_pos c11).symm.trans hh
    refine J_drop 5 (L' := [some (.int v0), some (.int v1), some (.int v2), some (.int v3), some (.int v4), none]) rfl ?_
    obtain rfl := Option.some.inj hh
    exact hk
  · replace hh := (if_neg c11).symm.trans hh
    refine J_iload_n (pc := 48) dX7_costOf_48 rfl ?_
    refine J_iload_n (pc := 49) dX7_costOf_49 rfl ?_
    refine J_iconst (pc := 50) dX7_costOf_50 ci_4 ?_
    refine J_iload (pc := 51) dX7_costOf_51 rfl ?_
    refine J_imul (pc := 53) dX7_costOf_53 ?_
    refine J_iconst (pc := 54) dX7_costOf_54 ci_3 ?_
    refine J_iadd (pc := 55) dX7_costOf_55 ?_
    refine J_ishr (pc := 56) dX7_costOf_56 ?_
    refine J_iconst (pc := 57) dX7_costOf_57 ci_1 ?_
    refine J_iand (pc := 58) dX7_costOf_58 ?_
    refine J_iadd (pc := 59) dX7_costOf_59 ?_
    refine J_istoreL_n (pc := 60) (fun x8 => [some (.int v0), some (.int v1), some (.int v2), some (.int x8), some (.int v4), some (.int v5)]) dX7_costOf_60 rfl (Nat.le_of_ble_eq_true rfl) (fun _ => rfl) hh (fun x8 hh => ?_)
    refine J_iload (pc := 61) dX7_costOf_61 rfl ?_
    refine J_iload_n (pc := 63) dX7_costOf_63 rfl ?_
    refine J_iconst (pc := 64) dX7_costOf_64 ci_4 ?_
    refine J_iload (pc := 65) dX7_costOf_65 rfl ?_
    refine J_imul (pc := 67) dX7_costOf_67 ?_
    refine J_ishr (pc := 68) dX7_costOf_68 ?_
    refine J_iconst (pc := 69) dX7_costOf_69 ci_1 ?_
    refine J_iand (pc := 70) dX7_costOf_70 ?_
    refine J_iadd (pc := 71) dX7_costOf_71 ?_
    refine J_istoreL (pc := 72) (fun x9 => [some (.int v0), some (.int v1), some (.int v2), some (.int x8), some (.int x9), some (.int v5)]) dX7_costOf_72 rfl (Nat.le_of_ble_eq_true rfl) (fun _ => rfl) hh (fun x9 hh => ?_)
    refine J_iincL (pc := 74) (v := v5 + (1 : Int32)) (fun x10 => [some (.int v0), some (.int v1), some (.int v2), some (.int x8), some (.int x9), some (.int x10)]) dX7_costOf_74 rfl rfl (Nat.le_of_ble_eq_true rfl) (congrArg _ ci_1) (fun _ => rfl) hh (fun x10 hh => ?_)
    refine J_goto (pc := 77) 42 dX7_costOf_77 (by decide) ?_
    obtain rfl := Option.some.inj hh
    exact hk
def fX7_costOf (p0 : Int32) (p1 : Int32) : Option Int32 :=
  (lp (fun a => bX7_costOf_4 p0 p1 a.1 a.2) 600 ((0 : Int32), (0 : Int32))).bind (fun y7 => (lp (fun a => bX7_costOf_42 p0 p1 y7 a.1 a.2.1 a.2.2) 600 ((0 : Int32), (0 : Int32), (0 : Int32))).bind (fun y12 => if p0 = (0 : Int32) then some y7 else if p0 = (1 : Int32) then some ((y7 + y12.1)) else if p0 = (2 : Int32) then some ((y7 + y12.2)) else if p0 = (3 : Int32) then (fX7_bits (p1 &&& (3840 : Int32))).bind (fun y17 => some (((y7 + y12.1) + ((2 : Int32) * y17)))) else if p0 = (4 : Int32) then some ((((20 : Int32) - y7) - y12.2)) else some (0 : Int32)))
set_option maxRecDepth 4000 in
theorem jjX7_costOf {X : Scr} (d : Nat) {s : Mem} (p0 : Int32) (p1 : Int32) {r : Int32} {w : Option Value} {s' : Mem} (hh : fX7_costOf p0 p1 = some r) (hk : w = some (.int r) ∧ s = s') : J X MX7_costOf (d + 1) 0 [some (.int p0), some (.int p1), none, none, none, none] [] s w s' := by
  unfold fX7_costOf at hh
  refine J_iconst (pc := 0) dX7_costOf_0 ci_0 ?_
  refine J_istore_n (pc := 1) (L' := [some (.int p0), some (.int p1), some (.int (0 : Int32)), none, none, none]) dX7_costOf_1 rfl (Nat.le_of_ble_eq_true rfl) rfl ?_
  refine J_iconst (pc := 2) dX7_costOf_2 ci_0 ?_
  refine J_istore_n (pc := 3) (L' := [some (.int p0), some (.int p1), some (.int (0 : Int32)), some (.int (0 : Int32)), none, none]) dX7_costOf_3 rfl (Nat.le_of_ble_eq_true rfl) rfl ?_
  obtain ⟨y7, hy7, hh⟩ := bd_some hh
  refine J_lp (a := ((0 : Int32), (0 : Int32))) (fun a : (Int32 × Int32) => J X MX7_costOf (d + 1) 4 [some (.int p0), some (.int p1), some (.int a.1), some (.int a.2), none, none] [] s w s') (fun t : Int32 => J X MX7_costOf (d + 1) 34 [some (.int p0), some (.int p1), some (.int t), none, none, none] [] s w s') (fun a q h1 h2 => jbX7_costOf_4 d p0 p1 a.1 a.2 h1 h2) hy7 ?_
  refine J_iconst (pc := 34) dX7_costOf_34 ci_0 ?_
  refine J_istore_n (pc := 35) (L' := [some (.int p0), some (.int p1), some (.int y7), some (.int (0 : Int32)), none, none]) dX7_costOf_35 rfl (Nat.le_of_ble_eq_true rfl) rfl ?_
  refine J_iconst (pc := 36) dX7_costOf_36 ci_0 ?_
  refine J_istore (pc := 37) (L' := [some (.int p0), some (.int p1), some (.int y7), some (.int (0 : Int32)), some (.int (0 : Int32)), none]) dX7_costOf_37 rfl (Nat.le_of_ble_eq_true rfl) rfl ?_
  refine J_iconst (pc := 39) dX7_costOf_39 ci_0 ?_
  refine J_istore (pc := 40) (L' := [some (.int p0), some (.int p1), some (.int y7), some (.int (0 : Int32)), some (.int (0 : Int32)), some (.int (0 : Int32))]) dX7_costOf_40 rfl (Nat.le_of_ble_eq_true rfl) rfl ?_
  obtain ⟨y12, hy12, hh⟩ := bd_some hh
  refine J_lp (a := ((0 : Int32), (0 : Int32), (0 : Int32))) (fun a : (Int32 × Int32 × Int32) => J X MX7_costOf (d + 1) 42 [some (.int p0), some (.int p1), some (.int y7), some (.int a.1), some (.int a.2.1), some (.int a.2.2)] [] s w s') (fun t : (Int32 × Int32) => J X MX7_costOf (d + 1) 80 [some (.int p0), some (.int p1), some (.int y7), some (.int t.1), some (.int t.2), none] [] s w s') (fun a q h1 h2 => jbX7_costOf_42 d p0 p1 y7 a.1 a.2.1 a.2.2 h1 h2) hy12 ?_
  refine J_iload_n (pc := 80) dX7_costOf_80 rfl ?_
  by_cases c13 : p0 = (0 : Int32)
  · replace hh := (if_pos c13).symm.trans hh
    refine J_swIn (pc := 81) 116 dX7_costOf_81 (by rw [c13]; decide) (by rw [c13]; decide) (by rw [c13]; rfl) (by decide) ?_
    refine J_iload_n (pc := 116) dX7_costOf_116 rfl ?_
    obtain rfl := Option.some.inj hh
    obtain ⟨rfl, rfl⟩ := hk
    exact J_ret (w := some (.int y7)) ⟨dX7_costOf_117, _, rfl, rfl⟩
  replace hh := (if_neg c13).symm.trans hh
  by_cases c14 : p0 = (1 : Int32)
  · replace hh := (if_pos c14).symm.trans hh
    refine J_swIn (pc := 81) 118 dX7_costOf_81 (by rw [c14]; decide) (by rw [c14]; decide) (by rw [c14]; rfl) (by decide) ?_
    refine J_iload_n (pc := 118) dX7_costOf_118 rfl ?_
    refine J_iload_n (pc := 119) dX7_costOf_119 rfl ?_
    refine J_iadd (pc := 120) dX7_costOf_120 ?_
    obtain rfl := Option.some.inj hh
    obtain ⟨rfl, rfl⟩ := hk
    exact J_ret (w := some (.int (y7 + y12.1))) ⟨dX7_costOf_121, _, rfl, rfl⟩
  replace hh := (if_neg c14).symm.trans hh
  by_cases c15 : p0 = (2 : Int32)
  · replace hh := (if_pos c15).symm.trans hh
    refine J_swIn (pc := 81) 122 dX7_costOf_81 (by rw [c15]; decide) (by rw [c15]; decide) (by rw [c15]; rfl) (by decide) ?_
    refine J_iload_n (pc := 122) dX7_costOf_122 rfl ?_
    refine J_iload (pc := 123) dX7_costOf_123 rfl ?_
    refine J_iadd (pc := 125) dX7_costOf_125 ?_
    obtain rfl := Option.some.inj hh
    obtain ⟨rfl, rfl⟩ := hk
    exact J_ret (w := some (.int (y7 + y12.2))) ⟨dX7_costOf_126, _, rfl, rfl⟩
  replace hh := (if_neg c15).symm.trans hh
  by_cases c16 : p0 = (3 : Int32)
  · replace hh := (if_pos c16).symm.trans hh
    refine J_swIn (pc := 81) 127 dX7_costOf_81 (by rw [c16]; decide) (by rw [c16]; decide) (by rw [c16]; rfl) (by decide) ?_
    refine J_iload_n (pc := 127) dX7_costOf_127 rfl ?_
    refine J_iload_n (pc := 128) dX7_costOf_128 rfl ?_
    refine J_iadd (pc := 129) dX7_costOf_129 ?_
    refine J_iconst (pc := 130) dX7_costOf_130 ci_2 ?_
    refine J_iload_n (pc := 131) dX7_costOf_131 rfl ?_
    refine J_sipush (pc := 132) dX7_costOf_132 cs_3840 ?_
    refine J_iand (pc := 135) dX7_costOf_135 ?_
    obtain ⟨y17, hy17, hh⟩ := bd_some hh
    refine J_callSi (pc := 136) (M' := MX7_bits) (rest := [.int (2 : Int32), .int (y7 + y12.1)]) (As := [.int (p1 &&& (3840 : Int32))]) (L0 := [some (.int (p1 &&& (3840 : Int32))), none, none]) okX7_bits osX7_bits mlX7_114 rfl rfl (Nat.le_of_ble_eq_true rfl) dX7_costOf_136 rfl (Nat.le_of_ble_eq_true rfl) (jX7_bits (X := X) d s (p1 &&& (3840 : Int32)) hy17) ?_
    refine J_imul (pc := 139) dX7_costOf_139 ?_
    refine J_iadd (pc := 140) dX7_costOf_140 ?_
    obtain rfl := Option.some.inj hh
    obtain ⟨rfl, rfl⟩ := hk
    exact J_ret (w := some (.int ((y7 + y12.1) + ((2 : Int32) * y17)))) ⟨dX7_costOf_141, _, rfl, rfl⟩
  replace hh := (if_neg c16).symm.trans hh
  by_cases c18 : p0 = (4 : Int32)
  · replace hh := (if_pos c18).symm.trans hh
    refine J_swIn (pc := 81) 142 dX7_costOf_81 (by rw [c18]; decide) (by rw [c18]; decide) (by rw [c18]; rfl) (by decide) ?_
    refine J_bipush (pc := 142) dX7_costOf_142 cb_20 ?_
    refine J_iload_n (pc := 144) dX7_costOf_144 rfl ?_
    refine J_isub (pc := 145) dX7_costOf_145 ?_
    refine J_iload (pc := 146) dX7_costOf_146 rfl ?_
    refine J_isub (pc := 148) dX7_costOf_148 ?_
    obtain rfl := Option.some.inj hh
    obtain ⟨rfl, rfl⟩ := hk
    exact J_ret (w := some (.int (((20 : Int32) - y7) - y12.2))) ⟨dX7_costOf_149, _, rfl, rfl⟩
  replace hh := (if_neg c18).symm.trans hh
  refine J_swOut (pc := 81) 150 dX7_costOf_81 (by have := lv_neT c13 (a := 0) (by decide); have := lv_neT c14 (a := 1) (by decide); have := lv_neT c15 (a := 2) (by decide); have := lv_neT c16 (a := 3) (by decide); have := lv_neT c18 (a := 4) (by decide); omega) (by decide) ?_
  refine J_iconst (pc := 150) dX7_costOf_150 ci_0 ?_
  obtain rfl := Option.some.inj hh
  obtain ⟨rfl, rfl⟩ := hk
  exact J_ret (w := some (.int (0 : Int32))) ⟨dX7_costOf_151, _, rfl, rfl⟩
theorem jX7_costOf {X : Scr} (d : Nat) (s : Mem) (p0 : Int32) (p1 : Int32) {r : Int32} (hh : fX7_costOf p0 p1 = some r) : J X MX7_costOf (d + 1) 0 [some (.int p0), some (.int p1), none, none, none, none] [] s (some (.int r)) s := jjX7_costOf d p0 p1 hh ⟨rfl, rfl⟩
theorem dX7_costOf__0 : decode cX7_costOf_ 0 = .ok (.aload_n 0, 1) := by decide +kernel
theorem dX7_costOf__1 : decode cX7_costOf_ 1 = .ok (.iload_n 1, 1) := by decide +kernel
theorem dX7_costOf__2 : decode cX7_costOf_ 2 = .ok (.invokevirtual 118, 3) := by decide +kernel
theorem dX7_costOf__5 : decode cX7_costOf_ 5 = .ok (.aload_n 0, 1) := by decide +kernel
theorem dX7_costOf__6 : decode cX7_costOf_ 6 = .ok (.iload_n 1, 1) := by decide +kernel
theorem dX7_costOf__7 : decode cX7_costOf_ 7 = .ok (.iconst (-1), 1) := by decide +kernel
theorem dX7_costOf__8 : decode cX7_costOf_ 8 = .ok (.invokevirtual 121, 3) := by decide +kernel
theorem dX7_costOf__11 : decode cX7_costOf_ 11 = .ok (.invokestatic 124, 3) := by decide +kernel
theorem dX7_costOf__14 : decode cX7_costOf_ 14 = .ok (.ireturn, 1) := by decide +kernel
def fX7_costOf_ (s : Mem) (p0 : Int32) : Option Int32 :=
  (fX7_kindOf s p0).bind (fun y1 => (fX7_busyBut s p0 (-1 : Int32)).bind (fun y2 => (fX7_costOf y1 y2).bind (fun y3 => some y3)))
set_option maxRecDepth 4000 in
theorem jjX7_costOf_ {X : Scr} (d : Nat) (s : Mem) (p0 : Int32) {r : Int32} {w : Option Value} {s' : Mem} (hh : fX7_costOf_ s p0 = some r) (hk : w = some (.int r) ∧ s = s') : J X MX7_costOf_ (d + 6) 0 [some (.ref 19), some (.int p0)] [] s w s' := by
  unfold fX7_costOf_ at hh
  refine J_aload_n (pc := 0) dX7_costOf__0 rfl ?_
  refine J_iload_n (pc := 1) dX7_costOf__1 rfl ?_
  obtain ⟨y1, hy1, hh⟩ := bd_some hh
  refine J_callVi (pc := 2) (M' := MX7_kindOf) (a := 19) (rest := []) (As := [.int p0]) (L0 := [some (.ref 19), some (.int p0)]) okX7_kindOf ovX7_kindOf mlX7_118 clX7 so19 rfl rfl (Nat.le_of_ble_eq_true rfl) dX7_costOf__2 rfl (Nat.le_of_ble_eq_true rfl) (jX7_kindOf (X := X) (d + 5) s p0 hy1) ?_
  refine J_aload_n (pc := 5) dX7_costOf__5 rfl ?_
  refine J_iload_n (pc := 6) dX7_costOf__6 rfl ?_
  refine J_iconst (pc := 7) dX7_costOf__7 ci_m1 ?_
  obtain ⟨y2, hy2, hh⟩ := bd_some hh
  refine J_callVi (pc := 8) (M' := MX7_busyBut) (a := 19) (rest := [.int y1]) (As := [.int p0, .int (-1 : Int32)]) (L0 := [some (.ref 19), some (.int p0), some (.int (-1 : Int32)), none, none]) okX7_busyBut ovX7_busyBut mlX7_121 clX7 so19 rfl rfl (Nat.le_of_ble_eq_true rfl) dX7_costOf__8 rfl (Nat.le_of_ble_eq_true rfl) (jX7_busyBut (X := X) d s p0 (-1 : Int32) hy2) ?_
  obtain ⟨y3, hy3, hh⟩ := bd_some hh
  refine J_callSi (pc := 11) (M' := MX7_costOf) (rest := []) (As := [.int y1, .int y2]) (L0 := [some (.int y1), some (.int y2), none, none, none, none]) okX7_costOf osX7_costOf mlX7_124 rfl rfl (Nat.le_of_ble_eq_true rfl) dX7_costOf__11 rfl (Nat.le_of_ble_eq_true rfl) (jX7_costOf (X := X) (d + 4) s y1 y2 hy3) ?_
  obtain rfl := Option.some.inj hh
  obtain ⟨rfl, rfl⟩ := hk
  exact J_ret (w := some (.int y3)) ⟨dX7_costOf__14, _, rfl, rfl⟩
theorem jX7_costOf_ {X : Scr} (d : Nat) (s : Mem) (p0 : Int32) {r : Int32} (hh : fX7_costOf_ s p0 = some r) : J X MX7_costOf_ (d + 6) 0 [some (.ref 19), some (.int p0)] [] s (some (.int r)) s := jjX7_costOf_ d s p0 hh ⟨rfl, rfl⟩
theorem dX7_hasRoom_0 : decode cX7_hasRoom 0 = .ok (.iconst 0, 1) := by decide +kernel
theorem dX7_hasRoom_1 : decode cX7_hasRoom 1 = .ok (.istore 4, 2) := by decide +kernel
theorem dX7_hasRoom_3 : decode cX7_hasRoom 3 = .ok (.iload 4, 2) := by decide +kernel
theorem dX7_hasRoom_5 : decode cX7_hasRoom 5 = .ok (.iconst 3, 1) := by decide +kernel
theorem dX7_hasRoom_6 : decode cX7_hasRoom 6 = .ok (.if_icmp .ge 40, 3) := by decide +kernel
theorem dX7_hasRoom_9 : decode cX7_hasRoom 9 = .ok (.aload_n 0, 1) := by decide +kernel
theorem dX7_hasRoom_10 : decode cX7_hasRoom 10 = .ok (.iload_n 1, 1) := by decide +kernel
theorem dX7_hasRoom_11 : decode cX7_hasRoom 11 = .ok (.iload_n 2, 1) := by decide +kernel
theorem dX7_hasRoom_12 : decode cX7_hasRoom 12 = .ok (.iload 4, 2) := by decide +kernel
theorem dX7_hasRoom_14 : decode cX7_hasRoom 14 = .ok (.invokevirtual 89, 3) := by decide +kernel
theorem dX7_hasRoom_17 : decode cX7_hasRoom 17 = .ok (.ifCond .eq 23, 3) := by decide +kernel
theorem dX7_hasRoom_20 : decode cX7_hasRoom 20 = .ok (.aload_n 0, 1) := by decide +kernel
theorem dX7_hasRoom_21 : decode cX7_hasRoom 21 = .ok (.iload_n 1, 1) := by decide +kernel
theorem dX7_hasRoom_22 : decode cX7_hasRoom 22 = .ok (.iload 4, 2) := by decide +kernel
theorem dX7_hasRoom_24 : decode cX7_hasRoom 24 = .ok (.iload_n 2, 1) := by decide +kernel
theorem dX7_hasRoom_25 : decode cX7_hasRoom 25 = .ok (.iload 4, 2) := by decide +kernel
theorem dX7_hasRoom_27 : decode cX7_hasRoom 27 = .ok (.invokestatic 81, 3) := by decide +kernel
theorem dX7_hasRoom_30 : decode cX7_hasRoom 30 = .ok (.iload_n 3, 1) := by decide +kernel
theorem dX7_hasRoom_31 : decode cX7_hasRoom 31 = .ok (.invokevirtual 127, 3) := by decide +kernel
theorem dX7_hasRoom_34 : decode cX7_hasRoom 34 = .ok (.iconst 1, 1) := by decide +kernel
theorem dX7_hasRoom_35 : decode cX7_hasRoom 35 = .ok (.if_icmp .ge 5, 3) := by decide +kernel
theorem dX7_hasRoom_38 : decode cX7_hasRoom 38 = .ok (.iconst 0, 1) := by decide +kernel
theorem dX7_hasRoom_39 : decode cX7_hasRoom 39 = .ok (.ireturn, 1) := by decide +kernel
theorem dX7_hasRoom_40 : decode cX7_hasRoom 40 = .ok (.iinc 4 1, 3) := by decide +kernel
theorem dX7_hasRoom_43 : decode cX7_hasRoom 43 = .ok (.goto (-40), 3) := by decide +kernel
theorem dX7_hasRoom_46 : decode cX7_hasRoom 46 = .ok (.iconst 1, 1) := by decide +kernel
theorem dX7_hasRoom_47 : decode cX7_hasRoom 47 = .ok (.ireturn, 1) := by decide +kernel
def bX7_hasRoom_3 (s : Mem) (v1 : Int32) (v2 : Int32) (v3 : Int32) (v4 : Int32) : Option ((Int32 ⊕ Unit) ⊕ Int32) :=
  if (3 : Int32) ≤ v4 then some (Sum.inl (Sum.inr ())) else (fX7_counts s v1 v2 v4).bind (fun y1 => if y1 = (0 : Int32) then lt (v4 + (1 : Int32)) (fun x2 => some (Sum.inr x2)) else (fX7_part v2 v4).bind (fun y3 => (fX7_leftBut s v1 v4 y3 v3).bind (fun y4 => if (1 : Int32) ≤ y4 then lt (v4 + (1 : Int32)) (fun x5 => some (Sum.inr x5)) else some (Sum.inl (Sum.inl (0 : Int32))))))
set_option maxRecDepth 4000 in
theorem jbX7_hasRoom_3 {X : Scr} (d : Nat) (s : Mem) (v1 : Int32) (v2 : Int32) (v3 : Int32) (v4 : Int32) {r : ((Int32 ⊕ Unit) ⊕ Int32)} {w : Option Value} {s' : Mem} (hh : bX7_hasRoom_3 s v1 v2 v3 v4 = some r) (hk : Sum.elim (Sum.elim (fun q : Int32 => w = some (.int q) ∧ s = s') (fun t : Unit => J X MX7_hasRoom (d + 5) 46 [none, none, none, none, none] [] s w s')) (fun a : Int32 => J X MX7_hasRoom (d + 5) 3 [some (.ref 19), some (.int v1), some (.int v2), some (.int v3), some (.int a)] [] s w s') r) : J X MX7_hasRoom (d + 5) 3 [some (.ref 19), some (.int v1), some (.int v2), some (.int v3), some (.int v4)] [] s w s' := by
  unfold bX7_hasRoom_3 at hh
  refine J_iload (pc := 3) dX7_hasRoom_3 rfl ?_
  refine J_iconst (pc := 5) dX7_hasRoom_5 ci_3 ?_
  refine J_icmp_ge (pc := 6) 46 dX7_hasRoom_6 (by decide) (fun c8 => ?_) (fun c8 => ?_)
  · replace hh := (if_pos c8).symm.trans hh
    refine J_drop 0 (L' := [none, some (.int v1), some (.int v2), some (.int v3), some (.int v4)]) rfl ?_
    refine J_drop 1 (L' := [none, none, some (.int v2), some (.int v3), some (.int v4)]) rfl ?_
    refine J_drop 2 (L' := [none, none, none, some (.int v3), some (.int v4)]) rfl ?_
    refine J_drop 3 (L' := [none, none, none, none, some (.int v4)]) rfl ?_
    refine J_drop 4 (L' := [none, none, none, none, none]) rfl ?_
    obtain rfl := Option.some.inj hh
    exact hk
  · replace hh := (if_neg c8).symm.trans hh
    refine J_aload_n (pc := 9) dX7_hasRoom_9 rfl ?_
    refine J_iload_n (pc := 10) dX7_hasRoom_10 rfl ?_
    refine J_iload_n (pc := 11) dX7_hasRoom_11 rfl ?_
    refine J_iload (pc := 12) dX7_hasRoom_12 rfl ?_
    obtain ⟨y1, hy1, hh⟩ := bd_some hh
    refine J_callVi (pc := 14) (M' := MX7_counts) (a := 19) (rest := []) (As := [.int v1, .int v2, .int v4]) (L0 := [some (.ref 19), some (.int v1), some (.int v2), some (.int v4)]) okX7_counts ovX7_counts mlX7_89 clX7 so19 rfl rfl (Nat.le_of_ble_eq_true rfl) dX7_hasRoom_14 rfl (Nat.le_of_ble_eq_true rfl) (jX7_counts (X := X) (d + 2) s v1 v2 v4 hy1) ?_
    refine J_if_eq (pc := 17) 40 dX7_hasRoom_17 (by decide) (fun c7 => ?_) (fun c7 => ?_)
    · replace hh := (if_pos c7).symm.trans hh
      refine J_iincL (pc := 40) (v := v4 + (1 : Int32)) (fun x2 => [some (.ref 19), some (.int v1), some (.int v2), some (.int v3), some (.int x2)]) dX7_hasRoom_40 rfl rfl (Nat.le_of_ble_eq_true rfl) (congrArg _ ci_1) (fun _ => rfl) hh (fun x2 hh => ?_)
      refine J_goto (pc := 43) 3 dX7_hasRoom_43 (by decide) ?_
      obtain rfl := Option.some.inj hh
      exact hk
    · replace hh := (if_neg c7).symm.trans hh
      refine J_aload_n (pc := 20) dX7_hasRoom_20 rfl ?_
      refine J_iload_n (pc := 21) dX7_hasRoom_21 rfl ?_
      refine J_iload (pc := 22) dX7_hasRoom_22 rfl ?_
      refine J_iload_n (pc := 24) dX7_hasRoom_24 rfl ?_
      refine J_iload (pc := 25) dX7_hasRoom_25 rfl ?_
      obtain ⟨y3, hy3, hh⟩ := bd_some hh
      refine J_callSi (pc := 27) (M' := MX7_part) (rest := [.int v4, .int v1, .ref 19]) (As := [.int v2, .int v4]) (L0 := [some (.int v2), some (.int v4)]) okX7_part osX7_part mlX7_81 rfl rfl (Nat.le_of_ble_eq_true rfl) dX7_hasRoom_27 rfl (Nat.le_of_ble_eq_true rfl) (jX7_part (X := X) (d + 4) s v2 v4 hy3) ?_
      refine J_iload_n (pc := 30) dX7_hasRoom_30 rfl ?_
      obtain ⟨y4, hy4, hh⟩ := bd_some hh
      refine J_callVi (pc := 31) (M' := MX7_leftBut) (a := 19) (rest := []) (As := [.int v1, .int v4, .int y3, .int v3]) (L0 := [some (.ref 19), some (.int v1), some (.int v4), some (.int y3), some (.int v3)]) okX7_leftBut ovX7_leftBut mlX7_127 clX7 so19 rfl rfl (Nat.le_of_ble_eq_true rfl) dX7_hasRoom_31 rfl (Nat.le_of_ble_eq_true rfl) (jX7_leftBut (X := X) d s v1 v4 y3 v3 hy4) ?_
      refine J_iconst (pc := 34) dX7_hasRoom_34 ci_1 ?_
      refine J_icmp_ge (pc := 35) 40 dX7_hasRoom_35 (by decide) (fun c6 => ?_) (fun c6 => ?_)
      · replace hh := (if_pos c6).symm.trans hh
        refine J_iincL (pc := 40) (v := v4 + (1 : Int32)) (fun x5 => [some (.ref 19), some (.int v1), some (.int v2), some (.int v3), some (.int x5)]) dX7_hasRoom_40 rfl rfl (Nat.le_of_ble_eq_true rfl) (congrArg _ ci_1) (fun _ => rfl) hh (fun x5 hh => ?_)
        refine J_goto (pc := 43) 3 dX7_hasRoom_43 (by decide) ?_
        obtain rfl := Option.some.inj hh
        exact hk
      · replace hh := (if_neg c6).symm.trans hh
        refine J_iconst (pc := 38) dX7_hasRoom_38 ci_0 ?_
        obtain rfl := Option.some.inj hh
        obtain ⟨rfl, rfl⟩ := hk
        exact J_ret (w := some (.int (0 : Int32))) ⟨dX7_hasRoom_39, _, rfl, rfl⟩
def fX7_hasRoom (s : Mem) (p0 : Int32) (p1 : Int32) (p2 : Int32) : Option Int32 :=
  (lp (fun a => bX7_hasRoom_3 s p0 p1 p2 a) 600 (0 : Int32)).bind (fun y9 => Sum.elim (fun q11 => some q11) (fun t10 => some (1 : Int32)) y9)
set_option maxRecDepth 4000 in
theorem jjX7_hasRoom {X : Scr} (d : Nat) (s : Mem) (p0 : Int32) (p1 : Int32) (p2 : Int32) {r : Int32} {w : Option Value} {s' : Mem} (hh : fX7_hasRoom s p0 p1 p2 = some r) (hk : w = some (.int r) ∧ s = s') : J X MX7_hasRoom (d + 5) 0 [some (.ref 19), some (.int p0), some (.int p1), some (.int p2), none] [] s w s' := by
  unfold fX7_hasRoom at hh
  refine J_iconst (pc := 0) dX7_hasRoom_0 ci_0 ?_
  refine J_istore (pc := 1) (L' := [some (.ref 19), some (.int p0), some (.int p1), some (.int p2), some (.int (0 : Int32))]) dX7_hasRoom_1 rfl (Nat.le_of_ble_eq_true rfl) rfl ?_
  obtain ⟨y9, hy9, hh⟩ := bd_some hh
  refine J_lp (a := (0 : Int32)) (fun a : Int32 => J X MX7_hasRoom (d + 5) 3 [some (.ref 19), some (.int p0), some (.int p1), some (.int p2), some (.int a)] [] s w s') (Sum.elim (fun q : Int32 => w = some (.int q) ∧ s = s') (fun t : Unit => J X MX7_hasRoom (d + 5) 46 [none, none, none, none, none] [] s w s')) (fun a q h1 h2 => jbX7_hasRoom_3 d s p0 p1 p2 a h1 h2) hy9 ?_
  cases y9 with
  | inl q11 =>
    obtain rfl := Option.some.inj hh
    exact hk
  | inr t10 =>
    skip
    replace hh : (some (1 : Int32)) = some r := hh
    refine J_iconst (pc := 46) dX7_hasRoom_46 ci_1 ?_
    obtain rfl := Option.some.inj hh
    obtain ⟨rfl, rfl⟩ := hk
    exact J_ret (w := some (.int (1 : Int32))) ⟨dX7_hasRoom_47, _, rfl, rfl⟩
theorem jX7_hasRoom {X : Scr} (d : Nat) (s : Mem) (p0 : Int32) (p1 : Int32) (p2 : Int32) {r : Int32} (hh : fX7_hasRoom s p0 p1 p2 = some r) : J X MX7_hasRoom (d + 5) 0 [some (.ref 19), some (.int p0), some (.int p1), some (.int p2), none] [] s (some (.int r)) s := jjX7_hasRoom d s p0 p1 p2 hh ⟨rfl, rfl⟩
theorem dX7_clashes_0 : decode cX7_clashes 0 = .ok (.aload_n 0, 1) := by decide +kernel
theorem dX7_clashes_1 : decode cX7_clashes 1 = .ok (.iload_n 2, 1) := by decide +kernel
theorem dX7_clashes_2 : decode cX7_clashes 2 = .ok (.iload_n 3, 1) := by decide +kernel
theorem dX7_clashes_3 : decode cX7_clashes 3 = .ok (.invokevirtual 108, 3) := by decide +kernel
theorem dX7_clashes_6 : decode cX7_clashes 6 = .ok (.aload_n 0, 1) := by decide +kernel
theorem dX7_clashes_7 : decode cX7_clashes 7 = .ok (.iload_n 1, 1) := by decide +kernel
theorem dX7_clashes_8 : decode cX7_clashes 8 = .ok (.invokevirtual 130, 3) := by decide +kernel
theorem dX7_clashes_11 : decode cX7_clashes 11 = .ok (.aload_n 0, 1) := by decide +kernel
theorem dX7_clashes_12 : decode cX7_clashes 12 = .ok (.iload_n 1, 1) := by decide +kernel
theorem dX7_clashes_13 : decode cX7_clashes 13 = .ok (.iload_n 2, 1) := by decide +kernel
theorem dX7_clashes_14 : decode cX7_clashes 14 = .ok (.invokevirtual 121, 3) := by decide +kernel
theorem dX7_clashes_17 : decode cX7_clashes 17 = .ok (.ior, 1) := by decide +kernel
theorem dX7_clashes_18 : decode cX7_clashes 18 = .ok (.iand, 1) := by decide +kernel
theorem dX7_clashes_19 : decode cX7_clashes 19 = .ok (.ifCond .eq 7, 3) := by decide +kernel
theorem dX7_clashes_22 : decode cX7_clashes 22 = .ok (.iconst 1, 1) := by decide +kernel
theorem dX7_clashes_23 : decode cX7_clashes 23 = .ok (.goto 4, 3) := by decide +kernel
theorem dX7_clashes_26 : decode cX7_clashes 26 = .ok (.iconst 0, 1) := by decide +kernel
theorem dX7_clashes_27 : decode cX7_clashes 27 = .ok (.ireturn, 1) := by decide +kernel
def fX7_clashes (s : Mem) (p0 : Int32) (p1 : Int32) (p2 : Int32) : Option Int32 :=
  (fX7_timeOf_ s p1 p2).bind (fun y1 => (fX7_away s p0).bind (fun y2 => (fX7_busyBut s p0 p1).bind (fun y3 => if (y1 &&& (y2 ||| y3)) = (0 : Int32) then some (0 : Int32) else some (1 : Int32))))
set_option maxRecDepth 4000 in
theorem jjX7_clashes {X : Scr} (d : Nat) (s : Mem) (p0 : Int32) (p1 : Int32) (p2 : Int32) {r : Int32} {w : Option Value} {s' : Mem} (hh : fX7_clashes s p0 p1 p2 = some r) (hk : w = some (.int r) ∧ s = s') : J X MX7_clashes (d + 6) 0 [some (.ref 19), some (.int p0), some (.int p1), some (.int p2)] [] s w s' := by
  unfold fX7_clashes at hh
  refine J_aload_n (pc := 0) dX7_clashes_0 rfl ?_
  refine J_iload_n (pc := 1) dX7_clashes_1 rfl ?_
  refine J_iload_n (pc := 2) dX7_clashes_2 rfl ?_
  obtain ⟨y1, hy1, hh⟩ := bd_some hh
  refine J_callVi (pc := 3) (M' := MX7_timeOf_) (a := 19) (rest := []) (As := [.int p1, .int p2]) (L0 := [some (.ref 19), some (.int p1), some (.int p2)]) okX7_timeOf_ ovX7_timeOf_ mlX7_108 clX7 so19 rfl rfl (Nat.le_of_ble_eq_true rfl) dX7_clashes_3 rfl (Nat.le_of_ble_eq_true rfl) (jX7_timeOf_ (X := X) (d + 1) s p1 p2 hy1) ?_
  refine J_aload_n (pc := 6) dX7_clashes_6 rfl ?_
  refine J_iload_n (pc := 7) dX7_clashes_7 rfl ?_
  obtain ⟨y2, hy2, hh⟩ := bd_some hh
  refine J_callVi (pc := 8) (M' := MX7_away) (a := 19) (rest := [.int y1]) (As := [.int p0]) (L0 := [some (.ref 19), some (.int p0)]) okX7_away ovX7_away mlX7_130 clX7 so19 rfl rfl (Nat.le_of_ble_eq_true rfl) dX7_clashes_8 rfl (Nat.le_of_ble_eq_true rfl) (jX7_away (X := X) (d + 5) s p0 hy2) ?_
  refine J_aload_n (pc := 11) dX7_clashes_11 rfl ?_
  refine J_iload_n (pc := 12) dX7_clashes_12 rfl ?_
  refine J_iload_n (pc := 13) dX7_clashes_13 rfl ?_
  obtain ⟨y3, hy3, hh⟩ := bd_some hh
  refine J_callVi (pc := 14) (M' := MX7_busyBut) (a := 19) (rest := [.int y2, .int y1]) (As := [.int p0, .int p1]) (L0 := [some (.ref 19), some (.int p0), some (.int p1), none, none]) okX7_busyBut ovX7_busyBut mlX7_121 clX7 so19 rfl rfl (Nat.le_of_ble_eq_true rfl) dX7_clashes_14 rfl (Nat.le_of_ble_eq_true rfl) (jX7_busyBut (X := X) d s p0 p1 hy3) ?_
  refine J_ior (pc := 17) dX7_clashes_17 ?_
  refine J_iand (pc := 18) dX7_clashes_18 ?_
  refine J_if_eq (pc := 19) 26 dX7_clashes_19 (by decide) (fun c4 => ?_) (fun c4 => ?_)
  · replace hh := (if_pos c4).symm.trans hh
    refine J_iconst (pc := 26) dX7_clashes_26 ci_0 ?_
    obtain rfl := Option.some.inj hh
    obtain ⟨rfl, rfl⟩ := hk
    exact J_ret (w := some (.int (0 : Int32))) ⟨dX7_clashes_27, _, rfl, rfl⟩
  · replace hh := (if_neg c4).symm.trans hh
    refine J_iconst (pc := 22) dX7_clashes_22 ci_1 ?_
    refine J_goto (pc := 23) 27 dX7_clashes_23 (by decide) ?_
    obtain rfl := Option.some.inj hh
    obtain ⟨rfl, rfl⟩ := hk
    exact J_ret (w := some (.int (1 : Int32))) ⟨dX7_clashes_27, _, rfl, rfl⟩
theorem jX7_clashes {X : Scr} (d : Nat) (s : Mem) (p0 : Int32) (p1 : Int32) (p2 : Int32) {r : Int32} (hh : fX7_clashes s p0 p1 p2 = some r) : J X MX7_clashes (d + 6) 0 [some (.ref 19), some (.int p0), some (.int p1), some (.int p2)] [] s (some (.int r)) s := jjX7_clashes d s p0 p1 p2 hh ⟨rfl, rfl⟩
theorem dX7_isFit_0 : decode cX7_isFit 0 = .ok (.aload_n 0, 1) := by decide +kernel
theorem dX7_isFit_1 : decode cX7_isFit 1 = .ok (.iload_n 2, 1) := by decide +kernel
theorem dX7_isFit_2 : decode cX7_isFit 2 = .ok (.iload_n 3, 1) := by decide +kernel
theorem dX7_isFit_3 : decode cX7_isFit 3 = .ok (.invokevirtual 98, 3) := by decide +kernel
theorem dX7_isFit_6 : decode cX7_isFit 6 = .ok (.ifCond .eq 27, 3) := by decide +kernel
theorem dX7_isFit_9 : decode cX7_isFit 9 = .ok (.aload_n 0, 1) := by decide +kernel
theorem dX7_isFit_10 : decode cX7_isFit 10 = .ok (.iload_n 1, 1) := by decide +kernel
theorem dX7_isFit_11 : decode cX7_isFit 11 = .ok (.iload_n 2, 1) := by decide +kernel
theorem dX7_isFit_12 : decode cX7_isFit 12 = .ok (.iload_n 3, 1) := by decide +kernel
theorem dX7_isFit_13 : decode cX7_isFit 13 = .ok (.invokevirtual 133, 3) := by decide +kernel
theorem dX7_isFit_16 : decode cX7_isFit 16 = .ok (.ifCond .ne 17, 3) := by decide +kernel
theorem dX7_isFit_19 : decode cX7_isFit 19 = .ok (.aload_n 0, 1) := by decide +kernel
theorem dX7_isFit_20 : decode cX7_isFit 20 = .ok (.iload_n 2, 1) := by decide +kernel
theorem dX7_isFit_21 : decode cX7_isFit 21 = .ok (.iload_n 3, 1) := by decide +kernel
theorem dX7_isFit_22 : decode cX7_isFit 22 = .ok (.iload_n 1, 1) := by decide +kernel
theorem dX7_isFit_23 : decode cX7_isFit 23 = .ok (.invokevirtual 136, 3) := by decide +kernel
theorem dX7_isFit_26 : decode cX7_isFit 26 = .ok (.ifCond .eq 7, 3) := by decide +kernel
theorem dX7_isFit_29 : decode cX7_isFit 29 = .ok (.iconst 1, 1) := by decide +kernel
theorem dX7_isFit_30 : decode cX7_isFit 30 = .ok (.goto 4, 3) := by decide +kernel
theorem dX7_isFit_33 : decode cX7_isFit 33 = .ok (.iconst 0, 1) := by decide +kernel
theorem dX7_isFit_34 : decode cX7_isFit 34 = .ok (.ireturn, 1) := by decide +kernel
def fX7_isFit (s : Mem) (p0 : Int32) (p1 : Int32) (p2 : Int32) : Option Int32 :=
  (fX7_isLawful s p1 p2).bind (fun y1 => if y1 = (0 : Int32) then some (0 : Int32) else (fX7_clashes s p0 p1 p2).bind (fun y2 => if y2 = (0 : Int32) then (fX7_hasRoom s p1 p2 p0).bind (fun y3 => if y3 = (0 : Int32) then some (0 : Int32) else some (1 : Int32)) else some (0 : Int32)))
set_option maxRecDepth 4000 in
theorem jjX7_isFit {X : Scr} (d : Nat) (s : Mem) (p0 : Int32) (p1 : Int32) (p2 : Int32) {r : Int32} {w : Option Value} {s' : Mem} (hh : fX7_isFit s p0 p1 p2 = some r) (hk : w = some (.int r) ∧ s = s') : J X MX7_isFit (d + 7) 0 [some (.ref 19), some (.int p0), some (.int p1), some (.int p2)] [] s w s' := by
  unfold fX7_isFit at hh
  refine J_aload_n (pc := 0) dX7_isFit_0 rfl ?_
  refine J_iload_n (pc := 1) dX7_isFit_1 rfl ?_
  refine J_iload_n (pc := 2) dX7_isFit_2 rfl ?_
  obtain ⟨y1, hy1, hh⟩ := bd_some hh
  refine J_callVi (pc := 3) (M' := MX7_isLawful) (a := 19) (rest := []) (As := [.int p1, .int p2]) (L0 := [some (.ref 19), some (.int p1), some (.int p2), none, none, none]) okX7_isLawful ovX7_isLawful mlX7_98 clX7 so19 rfl rfl (Nat.le_of_ble_eq_true rfl) dX7_isFit_3 rfl (Nat.le_of_ble_eq_true rfl) (jX7_isLawful (X := X) (d + 2) s p1 p2 hy1) ?_
  refine J_if_eq (pc := 6) 33 dX7_isFit_6 (by decide) (fun c6 => ?_) (fun c6 => ?_)
  · replace hh := (if_pos c6).symm.trans hh
    refine J_iconst (pc := 33) dX7_isFit_33 ci_0 ?_
    obtain rfl := Option.some.inj hh
    obtain ⟨rfl, rfl⟩ := hk
    exact J_ret (w := some (.int (0 : Int32))) ⟨dX7_isFit_34, _, rfl, rfl⟩
  · replace hh := (if_neg c6).symm.trans hh
    refine J_aload_n (pc := 9) dX7_isFit_9 rfl ?_
    refine J_iload_n (pc := 10) dX7_isFit_10 rfl ?_
    refine J_iload_n (pc := 11) dX7_isFit_11 rfl ?_
    refine J_iload_n (pc := 12) dX7_isFit_12 rfl ?_
    obtain ⟨y2, hy2, hh⟩ := bd_some hh
    refine J_callVi (pc := 13) (M' := MX7_clashes) (a := 19) (rest := []) (As := [.int p0, .int p1, .int p2]) (L0 := [some (.ref 19), some (.int p0), some (.int p1), some (.int p2)]) okX7_clashes ovX7_clashes mlX7_133 clX7 so19 rfl rfl (Nat.le_of_ble_eq_true rfl) dX7_isFit_13 rfl (Nat.le_of_ble_eq_true rfl) (jX7_clashes (X := X) d s p0 p1 p2 hy2) ?_
    refine J_if_ne (pc := 16) 33 dX7_isFit_16 (by decide) (fun c5 => ?_) (fun c5 => ?_)
    · replace hh := (if_neg c5).symm.trans hh
      refine J_iconst (pc := 33) dX7_isFit_33 ci_0 ?_
      obtain rfl := Option.some.inj hh
      obtain ⟨rfl, rfl⟩ := hk
      exact J_ret (w := some (.int (0 : Int32))) ⟨dX7_isFit_34, _, rfl, rfl⟩
    · replace hh := (if_pos c5).symm.trans hh
      refine J_aload_n (pc := 19) dX7_isFit_19 rfl ?_
      refine J_iload_n (pc := 20) dX7_isFit_20 rfl ?_
      refine J_iload_n (pc := 21) dX7_isFit_21 rfl ?_
      refine J_iload_n (pc := 22) dX7_isFit_22 rfl ?_
      obtain ⟨y3, hy3, hh⟩ := bd_some hh
      refine J_callVi (pc := 23) (M' := MX7_hasRoom) (a := 19) (rest := []) (As := [.int p1, .int p2, .int p0]) (L0 := [some (.ref 19), some (.int p1), some (.int p2), some (.int p0), none]) okX7_hasRoom ovX7_hasRoom mlX7_136 clX7 so19 rfl rfl (Nat.le_of_ble_eq_true rfl) dX7_isFit_23 rfl (Nat.le_of_ble_eq_true rfl) (jX7_hasRoom (X := X) (d + 1) s p1 p2 p0 hy3) ?_
      refine J_if_eq (pc := 26) 33 dX7_isFit_26 (by decide) (fun c4 => ?_) (fun c4 => ?_)
      · replace hh := (if_pos c4).symm.trans hh
        refine J_iconst (pc := 33) dX7_isFit_33 ci_0 ?_
        obtain rfl := Option.some.inj hh
        obtain ⟨rfl, rfl⟩ := hk
        exact J_ret (w := some (.int (0 : Int32))) ⟨dX7_isFit_34, _, rfl, rfl⟩
      · replace hh := (if_neg c4).symm.trans hh
        refine J_iconst (pc := 29) dX7_isFit_29 ci_1 ?_
        refine J_goto (pc := 30) 34 dX7_isFit_30 (by decide) ?_
        obtain rfl := Option.some.inj hh
        obtain ⟨rfl, rfl⟩ := hk
        exact J_ret (w := some (.int (1 : Int32))) ⟨dX7_isFit_34, _, rfl, rfl⟩
theorem jX7_isFit {X : Scr} (d : Nat) (s : Mem) (p0 : Int32) (p1 : Int32) (p2 : Int32) {r : Int32} (hh : fX7_isFit s p0 p1 p2 = some r) : J X MX7_isFit (d + 7) 0 [some (.ref 19), some (.int p0), some (.int p1), some (.int p2)] [] s (some (.int r)) s := jjX7_isFit d s p0 p1 p2 hh ⟨rfl, rfl⟩
theorem dX7_isSection_0 : decode cX7_isSection 0 = .ok (.iload_n 0, 1) := by decide +kernel
theorem dX7_isSection_1 : decode cX7_isSection 1 = .ok (.invokestatic 139, 3) := by decide +kernel
theorem dX7_isSection_4 : decode cX7_isSection 4 = .ok (.ifCond .eq 29, 3) := by decide +kernel
theorem dX7_isSection_7 : decode cX7_isSection 7 = .ok (.iload_n 1, 1) := by decide +kernel
theorem dX7_isSection_8 : decode cX7_isSection 8 = .ok (.i2l, 1) := by decide +kernel
theorem dX7_isSection_9 : decode cX7_isSection 9 = .ok (.lconst 0, 1) := by decide +kernel
theorem dX7_isSection_10 : decode cX7_isSection 10 = .ok (.ldc2_w 143, 3) := by decide +kernel
theorem dX7_isSection_13 : decode cX7_isSection 13 = .ok (.invokestatic 63, 3) := by decide +kernel
theorem dX7_isSection_16 : decode cX7_isSection 16 = .ok (.ifCond .eq 17, 3) := by decide +kernel
theorem dX7_isSection_19 : decode cX7_isSection 19 = .ok (.iload_n 2, 1) := by decide +kernel
theorem dX7_isSection_20 : decode cX7_isSection 20 = .ok (.i2l, 1) := by decide +kernel
theorem dX7_isSection_21 : decode cX7_isSection 21 = .ok (.lconst 0, 1) := by decide +kernel
theorem dX7_isSection_22 : decode cX7_isSection 22 = .ok (.lconst 1, 1) := by decide +kernel
theorem dX7_isSection_23 : decode cX7_isSection 23 = .ok (.invokestatic 63, 3) := by decide +kernel
theorem dX7_isSection_26 : decode cX7_isSection 26 = .ok (.ifCond .eq 7, 3) := by decide +kernel
theorem dX7_isSection_29 : decode cX7_isSection 29 = .ok (.iconst 1, 1) := by decide +kernel
theorem dX7_isSection_30 : decode cX7_isSection 30 = .ok (.goto 4, 3) := by decide +kernel
theorem dX7_isSection_33 : decode cX7_isSection 33 = .ok (.iconst 0, 1) := by decide +kernel
theorem dX7_isSection_34 : decode cX7_isSection 34 = .ok (.ireturn, 1) := by decide +kernel
def fX7_isSection (p0 : Int32) (p1 : Int32) (p2 : Int32) : Option Int32 :=
  (fX7_isCourse p0).bind (fun y1 => if y1 = (0 : Int32) then some (0 : Int32) else (fX7_in (p1.toInt64) (0 : Int64) (2 : Int64)).bind (fun y2 => if y2 = (0 : Int32) then some (0 : Int32) else (fX7_in (p2.toInt64) (0 : Int64) (1 : Int64)).bind (fun y3 => if y3 = (0 : Int32) then some (0 : Int32) else some (1 : Int32))))
set_option maxRecDepth 4000 in
theorem jjX7_isSection {X : Scr} (d : Nat) {s : Mem} (p0 : Int32) (p1 : Int32) (p2 : Int32) {r : Int32} {w : Option Value} {s' : Mem} (hh : fX7_isSection p0 p1 p2 = some r) (hk : w = some (.int r) ∧ s = s') : J X MX7_isSection (d + 2) 0 [some (.int p0), some (.int p1), some (.int p2)] [] s w s' := by
  unfold fX7_isSection at hh
  refine J_iload_n (pc := 0) dX7_isSection_0 rfl ?_
  obtain ⟨y1, hy1, hh⟩ := bd_some hh
  refine J_callSi (pc := 1) (M' := MX7_isCourse) (rest := []) (As := [.int p0]) (L0 := [some (.int p0)]) okX7_isCourse osX7_isCourse mlX7_139 rfl rfl (Nat.le_of_ble_eq_true rfl) dX7_isSection_1 rfl (Nat.le_of_ble_eq_true rfl) (jX7_isCourse (X := X) d s p0 hy1) ?_
  refine J_if_eq (pc := 4) 33 dX7_isSection_4 (by decide) (fun c6 => ?_) (fun c6 => ?_)
  · replace hh := (if_pos c6).symm.trans hh
    refine J_iconst (pc := 33) dX7_isSection_33 ci_0 ?_
    obtain rfl := Option.some.inj hh
    obtain ⟨rfl, rfl⟩ := hk
    exact J_ret (w := some (.int (0 : Int32))) ⟨dX7_isSection_34, _, rfl, rfl⟩
  · replace hh := (if_neg c6).symm.trans hh
    refine J_iload_n (pc := 7) dX7_isSection_7 rfl ?_
    refine J_i2l (pc := 8) dX7_isSection_8 ?_
    refine J_lconst (pc := 9) (v := 0) dX7_isSection_9 rfl ?_
    refine J_ldc2 (pc := 10) klX7_143 dX7_isSection_10 ?_
    obtain ⟨y2, hy2, hh⟩ := bd_some hh
    refine J_callSi (pc := 13) (M' := MX7_in) (rest := []) (As := [.long (p1.toInt64), .long (0 : Int64), .long (2 : Int64)]) (L0 := [some (.long (p1.toInt64)), none, some (.long (0 : Int64)), none, some (.long (2 : Int64)), none]) okX7_in osX7_in mlX7_63 rfl rfl (Nat.le_of_ble_eq_true rfl) dX7_isSection_13 rfl (Nat.le_of_ble_eq_true rfl) (jX7_in (X := X) (d + 1) s (p1.toInt64) (0 : Int64) (2 : Int64) hy2) ?_
    refine J_if_eq (pc := 16) 33 dX7_isSection_16 (by decide) (fun c5 => ?_) (fun c5 => ?_)
    · replace hh := (if_pos c5).symm.trans hh
      refine J_iconst (pc := 33) dX7_isSection_33 ci_0 ?_
      obtain rfl := Option.some.inj hh
      obtain ⟨rfl, rfl⟩ := hk
      exact J_ret (w := some (.int (0 : Int32))) ⟨dX7_isSection_34, _, rfl, rfl⟩
    · replace hh := (if_neg c5).symm.trans hh
      refine J_iload_n (pc := 19) dX7_isSection_19 rfl ?_
      refine J_i2l (pc := 20) dX7_isSection_20 ?_
      refine J_lconst (pc := 21) (v := 0) dX7_isSection_21 rfl ?_
      refine J_lconst (pc := 22) (v := 1) dX7_isSection_22 rfl ?_
      obtain ⟨y3, hy3, hh⟩ := bd_some hh
      refine J_callSi (pc := 23) (M' := MX7_in) (rest := []) (As := [.long (p2.toInt64), .long (0 : Int64), .long (1 : Int64)]) (L0 := [some (.long (p2.toInt64)), none, some (.long (0 : Int64)), none, some (.long (1 : Int64)), none]) okX7_in osX7_in mlX7_63 rfl rfl (Nat.le_of_ble_eq_true rfl) dX7_isSection_23 rfl (Nat.le_of_ble_eq_true rfl) (jX7_in (X := X) (d + 1) s (p2.toInt64) (0 : Int64) (1 : Int64) hy3) ?_
      refine J_if_eq (pc := 26) 33 dX7_isSection_26 (by decide) (fun c4 => ?_) (fun c4 => ?_)
      · replace hh := (if_pos c4).symm.trans hh
        refine J_iconst (pc := 33) dX7_isSection_33 ci_0 ?_
        obtain rfl := Option.some.inj hh
        obtain ⟨rfl, rfl⟩ := hk
        exact J_ret (w := some (.int (0 : Int32))) ⟨dX7_isSection_34, _, rfl, rfl⟩
      · replace hh := (if_neg c4).symm.trans hh
        refine J_iconst (pc := 29) dX7_isSection_29 ci_1 ?_
        refine J_goto (pc := 30) 34 dX7_isSection_30 (by decide) ?_
        obtain rfl := Option.some.inj hh
        obtain ⟨rfl, rfl⟩ := hk
        exact J_ret (w := some (.int (1 : Int32))) ⟨dX7_isSection_34, _, rfl, rfl⟩
theorem jX7_isSection {X : Scr} (d : Nat) (s : Mem) (p0 : Int32) (p1 : Int32) (p2 : Int32) {r : Int32} (hh : fX7_isSection p0 p1 p2 = some r) : J X MX7_isSection (d + 2) 0 [some (.int p0), some (.int p1), some (.int p2)] [] s (some (.int r)) s := jjX7_isSection d p0 p1 p2 hh ⟨rfl, rfl⟩
theorem dX7_isSound_0 : decode cX7_isSound 0 = .ok (.iconst 0, 1) := by decide +kernel
theorem dX7_isSound_1 : decode cX7_isSound 1 = .ok (.istore_n 2, 1) := by decide +kernel
theorem dX7_isSound_2 : decode cX7_isSound 2 = .ok (.iload_n 2, 1) := by decide +kernel
theorem dX7_isSound_3 : decode cX7_isSound 3 = .ok (.aload_n 0, 1) := by decide +kernel
theorem dX7_isSound_4 : decode cX7_isSound 4 = .ok (.getfield 9, 3) := by decide +kernel
theorem dX7_isSound_7 : decode cX7_isSound 7 = .ok (.bipush 96, 2) := by decide +kernel
theorem dX7_isSound_9 : decode cX7_isSound 9 = .ok (.iaload, 1) := by decide +kernel
theorem dX7_isSound_10 : decode cX7_isSound 10 = .ok (.if_icmp .ge 41, 3) := by decide +kernel
theorem dX7_isSound_13 : decode cX7_isSound 13 = .ok (.aload_n 0, 1) := by decide +kernel
theorem dX7_isSound_14 : decode cX7_isSound 14 = .ok (.iload_n 2, 1) := by decide +kernel
theorem dX7_isSound_15 : decode cX7_isSound 15 = .ok (.iload_n 1, 1) := by decide +kernel
theorem dX7_isSound_16 : decode cX7_isSound 16 = .ok (.invokevirtual 105, 3) := by decide +kernel
theorem dX7_isSound_19 : decode cX7_isSound 19 = .ok (.istore_n 3, 1) := by decide +kernel
theorem dX7_isSound_20 : decode cX7_isSound 20 = .ok (.iload_n 3, 1) := by decide +kernel
theorem dX7_isSound_21 : decode cX7_isSound 21 = .ok (.ifCond .lt 24, 3) := by decide +kernel
theorem dX7_isSound_24 : decode cX7_isSound 24 = .ok (.aload_n 0, 1) := by decide +kernel
theorem dX7_isSound_25 : decode cX7_isSound 25 = .ok (.iload_n 1, 1) := by decide +kernel
theorem dX7_isSound_26 : decode cX7_isSound 26 = .ok (.iload_n 3, 1) := by decide +kernel
theorem dX7_isSound_27 : decode cX7_isSound 27 = .ok (.invokevirtual 98, 3) := by decide +kernel
theorem dX7_isSound_30 : decode cX7_isSound 30 = .ok (.ifCond .eq 13, 3) := by decide +kernel
theorem dX7_isSound_33 : decode cX7_isSound 33 = .ok (.aload_n 0, 1) := by decide +kernel
theorem dX7_isSound_34 : decode cX7_isSound 34 = .ok (.iload_n 2, 1) := by decide +kernel
theorem dX7_isSound_35 : decode cX7_isSound 35 = .ok (.iload_n 1, 1) := by decide +kernel
theorem dX7_isSound_36 : decode cX7_isSound 36 = .ok (.iload_n 3, 1) := by decide +kernel
theorem dX7_isSound_37 : decode cX7_isSound 37 = .ok (.invokevirtual 133, 3) := by decide +kernel
theorem dX7_isSound_40 : decode cX7_isSound 40 = .ok (.ifCond .eq 5, 3) := by decide +kernel
theorem dX7_isSound_43 : decode cX7_isSound 43 = .ok (.iconst 0, 1) := by decide +kernel
theorem dX7_isSound_44 : decode cX7_isSound 44 = .ok (.ireturn, 1) := by decide +kernel
theorem dX7_isSound_45 : decode cX7_isSound 45 = .ok (.iinc 2 1, 3) := by decide +kernel
theorem dX7_isSound_48 : decode cX7_isSound 48 = .ok (.goto (-46), 3) := by decide +kernel
theorem dX7_isSound_51 : decode cX7_isSound 51 = .ok (.iconst 0, 1) := by decide +kernel
theorem dX7_isSound_52 : decode cX7_isSound 52 = .ok (.istore_n 2, 1) := by decide +kernel
theorem dX7_isSound_53 : decode cX7_isSound 53 = .ok (.iload_n 2, 1) := by decide +kernel
theorem dX7_isSound_54 : decode cX7_isSound 54 = .ok (.iconst 3, 1) := by decide +kernel
theorem dX7_isSound_55 : decode cX7_isSound 55 = .ok (.if_icmp .ge 45, 3) := by decide +kernel
theorem dX7_isSound_58 : decode cX7_isSound 58 = .ok (.iconst 0, 1) := by decide +kernel
theorem dX7_isSound_59 : decode cX7_isSound 59 = .ok (.istore_n 3, 1) := by decide +kernel
theorem dX7_isSound_60 : decode cX7_isSound 60 = .ok (.iload_n 3, 1) := by decide +kernel
theorem dX7_isSound_61 : decode cX7_isSound 61 = .ok (.iconst 2, 1) := by decide +kernel
theorem dX7_isSound_62 : decode cX7_isSound 62 = .ok (.if_icmp .ge 32, 3) := by decide +kernel
theorem dX7_isSound_65 : decode cX7_isSound 65 = .ok (.aload_n 0, 1) := by decide +kernel
theorem dX7_isSound_66 : decode cX7_isSound 66 = .ok (.iload_n 1, 1) := by decide +kernel
theorem dX7_isSound_67 : decode cX7_isSound 67 = .ok (.iload_n 2, 1) := by decide +kernel
theorem dX7_isSound_68 : decode cX7_isSound 68 = .ok (.iload_n 3, 1) := by decide +kernel
theorem dX7_isSound_69 : decode cX7_isSound 69 = .ok (.invokevirtual 77, 3) := by decide +kernel
theorem dX7_isSound_72 : decode cX7_isSound 72 = .ok (.ifCond .eq 16, 3) := by decide +kernel
theorem dX7_isSound_75 : decode cX7_isSound 75 = .ok (.aload_n 0, 1) := by decide +kernel
theorem dX7_isSound_76 : decode cX7_isSound 76 = .ok (.iload_n 1, 1) := by decide +kernel
theorem dX7_isSound_77 : decode cX7_isSound 77 = .ok (.iload_n 2, 1) := by decide +kernel
theorem dX7_isSound_78 : decode cX7_isSound 78 = .ok (.iload_n 3, 1) := by decide +kernel
theorem dX7_isSound_79 : decode cX7_isSound 79 = .ok (.iconst (-1), 1) := by decide +kernel
theorem dX7_isSound_80 : decode cX7_isSound 80 = .ok (.invokevirtual 127, 3) := by decide +kernel
theorem dX7_isSound_83 : decode cX7_isSound 83 = .ok (.ifCond .ge 5, 3) := by decide +kernel
theorem dX7_isSound_86 : decode cX7_isSound 86 = .ok (.iconst 0, 1) := by decide +kernel
theorem dX7_isSound_87 : decode cX7_isSound 87 = .ok (.ireturn, 1) := by decide +kernel
theorem dX7_isSound_88 : decode cX7_isSound 88 = .ok (.iinc 3 1, 3) := by decide +kernel
theorem dX7_isSound_91 : decode cX7_isSound 91 = .ok (.goto (-31), 3) := by decide +kernel
theorem dX7_isSound_94 : decode cX7_isSound 94 = .ok (.iinc 2 1, 3) := by decide +kernel
theorem dX7_isSound_97 : decode cX7_isSound 97 = .ok (.goto (-44), 3) := by decide +kernel
theorem dX7_isSound_100 : decode cX7_isSound 100 = .ok (.iconst 1, 1) := by decide +kernel
theorem dX7_isSound_101 : decode cX7_isSound 101 = .ok (.ireturn, 1) := by decide +kernel
def bX7_isSound_2 (s : Mem) (v1 : Int32) (v2 : Int32) : Option ((Int32 ⊕ Unit) ⊕ Int32) :=
  gd (96 : Int32) 139 (if (s.1 20 (96 : Int32).toNatClampNeg) ≤ v2 then some (Sum.inl (Sum.inr ())) else (fX7_triple s v2 v1).bind (fun y2 => if y2 < (0 : Int32) then lt (v2 + (1 : Int32)) (fun x3 => some (Sum.inr x3)) else (fX7_isLawful s v1 y2).bind (fun y4 => if y4 = (0 : Int32) then some (Sum.inl (Sum.inl (0 : Int32))) else (fX7_clashes s v2 v1 y2).bind (fun y5 => if y5 = (0 : Int32) then lt (v2 + (1 : Int32)) (fun x6 => some (Sum.inr x6)) else some (Sum.inl (Sum.inl (0 : Int32)))))))
set_option maxRecDepth 4000 in
theorem jbX7_isSound_2 {X : Scr} (d : Nat) (s : Mem) (v1 : Int32) (v2 : Int32) {r : ((Int32 ⊕ Unit) ⊕ Int32)} {w : Option Value} {s' : Mem} (hh : bX7_isSound_2 s v1 v2 = some r) (hk : Sum.elim (Sum.elim (fun q : Int32 => w = some (.int q) ∧ s = s') (fun t : Unit => J X MX7_isSound (d + 7) 51 [some (.ref 19), some (.int v1), none, none] [] s w s')) (fun a : Int32 => J X MX7_isSound (d + 7) 2 [some (.ref 19), some (.int v1), some (.int a), none] [] s w s') r) : J X MX7_isSound (d + 7) 2 [some (.ref 19), some (.int v1), some (.int v2), none] [] s w s' := by
  unfold bX7_isSound_2 at hh
  refine J_iload_n (pc := 2) dX7_isSound_2 rfl ?_
  refine J_aload_n (pc := 3) dX7_isSound_3 rfl ?_
  refine J_getR (pc := 4) (k := 0) flX7_9 so19 fk19_0 dX7_isSound_4 ?_
  refine J_bipush (pc := 7) dX7_isSound_7 cb_96 ?_
  obtain ⟨h1, hh⟩ := gd_some hh
  refine J_iald (pc := 9) dX7_isSound_9 sa20 h1 ?_
  refine J_icmp_ge (pc := 10) 51 dX7_isSound_10 (by decide) (fun c10 => ?_) (fun c10 => ?_)
  · replace hh := (if_pos c10).symm.trans hh
    refine J_drop 2 (L' := [some (.ref 19), some (.int v1), none, none]) rfl ?_
    obtain rfl := Option.some.inj hh
    exact hk
  · replace hh := (if_neg c10).symm.trans hh
    refine J_aload_n (pc := 13) dX7_isSound_13 rfl ?_
    refine J_iload_n (pc := 14) dX7_isSound_14 rfl ?_
    refine J_iload_n (pc := 15) dX7_isSound_15 rfl ?_
    obtain ⟨y2, hy2, hh⟩ := bd_some hh
    refine J_callVi (pc := 16) (M' := MX7_triple) (a := 19) (rest := []) (As := [.int v2, .int v1]) (L0 := [some (.ref 19), some (.int v2), some (.int v1)]) okX7_triple ovX7_triple mlX7_105 clX7 so19 rfl rfl (Nat.le_of_ble_eq_true rfl) dX7_isSound_16 rfl (Nat.le_of_ble_eq_true rfl) (jX7_triple (X := X) (d + 6) s v2 v1 hy2) ?_
    refine J_istore_n (pc := 19) (L' := [some (.ref 19), some (.int v1), some (.int v2), some (.int y2)]) dX7_isSound_19 rfl (Nat.le_of_ble_eq_true rfl) rfl ?_
    refine J_iload_n (pc := 20) dX7_isSound_20 rfl ?_
    refine J_if_lt (pc := 21) 45 dX7_isSound_21 (by decide) (fun c9 => ?_) (fun c9 => ?_)
    · replace hh := (if_pos c9).symm.trans hh
      refine J_iincL (pc := 45) (v := v2 + (1 : Int32)) (fun x3 => [some (.ref 19), some (.int v1), some (.int x3), some (.int y2)]) dX7_isSound_45 rfl rfl (Nat.le_of_ble_eq_true rfl) (congrArg _ ci_1) (fun _ => rfl) hh (fun x3 hh => ?_)
      refine J_goto (pc := 48) 2 dX7_isSound_48 (by decide) ?_
      refine J_drop 3 (L' := [some (.ref 19), some (.int v1), some (.int x3), none]) rfl ?_
      obtain rfl := Option.some.inj hh
      exact hk
    · replace hh := (if_neg c9).symm.trans hh
      refine J_aload_n (pc := 24) dX7_isSound_24 rfl ?_
      refine J_iload_n (pc := 25) dX7_isSound_25 rfl ?_
      refine J_iload_n (pc := 26) dX7_isSound_26 rfl ?_
      obtain ⟨y4, hy4, hh⟩ := bd_some hh
      refine J_callVi (pc := 27) (M' := MX7_isLawful) (a := 19) (rest := []) (As := [.int v1, .int y2]) (L0 := [some (.ref 19), some (.int v1), some (.int y2), none, none, none]) okX7_isLawful ovX7_isLawful mlX7_98 clX7 so19 rfl rfl (Nat.le_of_ble_eq_true rfl) dX7_isSound_27 rfl (Nat.le_of_ble_eq_true rfl) (jX7_isLawful (X := X) (d + 2) s v1 y2 hy4) ?_
      refine J_if_eq (pc := 30) 43 dX7_isSound_30 (by decide) (fun c8 => ?_) (fun c8 => ?_)
      · replace hh := (if_pos c8).symm.trans hh
        refine J_iconst (pc := 43) dX7_isSound_43 ci_0 ?_
        obtain rfl := Option.some.inj hh
        obtain ⟨rfl, rfl⟩ := hk
        exact J_ret (w := some (.int (0 : Int32))) ⟨dX7_isSound_44, _, rfl, rfl⟩
      · replace hh := (if_neg c8).symm.trans hh
        refine J_aload_n (pc := 33) dX7_isSound_33 rfl ?_
        refine J_iload_n (pc := 34) dX7_isSound_34 rfl ?_
        refine J_iload_n (pc := 35) dX7_isSound_35 rfl ?_
        refine J_iload_n (pc := 36) dX7_isSound_36 rfl ?_
        obtain ⟨y5, hy5, hh⟩ := bd_some hh
        refine J_callVi (pc := 37) (M' := MX7_clashes) (a := 19) (rest := []) (As := [.int v2, .int v1, .int y2]) (L0 := [some (.ref 19), some (.int v2), some (.int v1), some (.int y2)]) okX7_clashes ovX7_clashes mlX7_133 clX7 so19 rfl rfl (Nat.le_of_ble_eq_true rfl) dX7_isSound_37 rfl (Nat.le_of_ble_eq_true rfl) (jX7_clashes (X := X) d s v2 v1 y2 hy5) ?_
        refine J_if_eq (pc := 40) 45 dX7_isSound_40 (by decide) (fun c7 => ?_) (fun c7 => ?_)
        · replace hh := (if_pos c7).symm.trans hh
          refine J_iincL (pc := 45) (v := v2 + (1 : Int32)) (fun x6 => [some (.ref 19), some (.int v1), some (.int x6), some (.int y2)]) dX7_isSound_45 rfl rfl (Nat.le_of_ble_eq_true rfl) (congrArg _ ci_1) (fun _ => rfl) hh (fun x6 hh => ?_)
          refine J_goto (pc := 48) 2 dX7_isSound_48 (by decide) ?_
          refine J_drop 3 (L' := [some (.ref 19), some (.int v1), some (.int x6), none]) rfl ?_
          obtain rfl := Option.some.inj hh
          exact hk
        · replace hh := (if_neg c7).symm.trans hh
          refine J_iconst (pc := 43) dX7_isSound_43 ci_0 ?_
          obtain rfl := Option.some.inj hh
          obtain ⟨rfl, rfl⟩ := hk
          exact J_ret (w := some (.int (0 : Int32))) ⟨dX7_isSound_44, _, rfl, rfl⟩
def bX7_isSound_60 (s : Mem) (v1 : Int32) (v2 : Int32) (v3 : Int32) : Option ((Int32 ⊕ Unit) ⊕ Int32) :=
  if (2 : Int32) ≤ v3 then some (Sum.inl (Sum.inr ())) else (fX7_isOpen s v1 v2 v3).bind (fun y14 => if y14 = (0 : Int32) then lt (v3 + (1 : Int32)) (fun x15 => some (Sum.inr x15)) else (fX7_leftBut s v1 v2 v3 (-1 : Int32)).bind (fun y16 => if (0 : Int32) ≤ y16 then lt (v3 + (1 : Int32)) (fun x17 => some (Sum.inr x17)) else some (Sum.inl (Sum.inl (0 : Int32)))))
set_option maxRecDepth 4000 in
theorem jbX7_isSound_60 {X : Scr} (d : Nat) (s : Mem) (v1 : Int32) (v2 : Int32) (v3 : Int32) {r : ((Int32 ⊕ Unit) ⊕ Int32)} {w : Option Value} {s' : Mem} (hh : bX7_isSound_60 s v1 v2 v3 = some r) (hk : Sum.elim (Sum.elim (fun q : Int32 => w = some (.int q) ∧ s = s') (fun t : Unit => J X MX7_isSound (d + 7) 94 [some (.ref 19), some (.int v1), some (.int v2), none] [] s w s')) (fun a : Int32 => J X MX7_isSound (d + 7) 60 [some (.ref 19), some (.int v1), some (.int v2), some (.int a)] [] s w s') r) : J X MX7_isSound (d + 7) 60 [some (.ref 19), some (.int v1), some (.int v2), some (.int v3)] [] s w s' := by
  unfold bX7_isSound_60 at hh
  refine J_iload_n (pc := 60) dX7_isSound_60 rfl ?_
  refine J_iconst (pc := 61) dX7_isSound_61 ci_2 ?_
  refine J_icmp_ge (pc := 62) 94 dX7_isSound_62 (by decide) (fun c20 => ?_) (fun c20 => ?_)
  · replace hh := (if_pos c20).symm.trans hh
    refine J_drop 3 (L' := [some (.ref 19), some (.int v1), some (.int v2), none]) rfl ?_
    obtain rfl := Option.some.inj hh
    exact hk
  · replace hh := (if_neg c20).symm.trans hh
    refine J_aload_n (pc := 65) dX7_isSound_65 rfl ?_
    refine J_iload_n (pc := 66) dX7_isSound_66 rfl ?_
    refine J_iload_n (pc := 67) dX7_isSound_67 rfl ?_
    refine J_iload_n (pc := 68) dX7_isSound_68 rfl ?_
    obtain ⟨y14, hy14, hh⟩ := bd_some hh
    refine J_callVi (pc := 69) (M' := MX7_isOpen) (a := 19) (rest := []) (As := [.int v1, .int v2, .int v3]) (L0 := [some (.ref 19), some (.int v1), some (.int v2), some (.int v3)]) okX7_isOpen ovX7_isOpen mlX7_77 clX7 so19 rfl rfl (Nat.le_of_ble_eq_true rfl) dX7_isSound_69 rfl (Nat.le_of_ble_eq_true rfl) (jX7_isOpen (X := X) (d + 5) s v1 v2 v3 hy14) ?_
    refine J_if_eq (pc := 72) 88 dX7_isSound_72 (by decide) (fun c19 => ?_) (fun c19 => ?_)
    · replace hh := (if_pos c19).symm.trans hh
      refine J_iincL (pc := 88) (v := v3 + (1 : Int32)) (fun x15 => [some (.ref 19), some (.int v1), some (.int v2), some (.int x15)]) dX7_isSound_88 rfl rfl (Nat.le_of_ble_eq_true rfl) (congrArg _ ci_1) (fun _ => rfl) hh (fun x15 hh => ?_)
      refine J_goto (pc := 91) 60 dX7_isSound_91 (by decide) ?_
      obtain rfl := Option.some.inj hh
      exact hk
    · replace hh := (if_neg c19).symm.trans hh
      refine J_aload_n (pc := 75) dX7_isSound_75 rfl ?_
      refine J_iload_n (pc := 76) dX7_isSound_76 rfl ?_
      refine J_iload_n (pc := 77) dX7_isSound_77 rfl ?_
      refine J_iload_n (pc := 78) dX7_isSound_78 rfl ?_
      refine J_iconst (pc := 79) dX7_isSound_79 ci_m1 ?_
      obtain ⟨y16, hy16, hh⟩ := bd_some hh
      refine J_callVi (pc := 80) (M' := MX7_leftBut) (a := 19) (rest := []) (As := [.int v1, .int v2, .int v3, .int (-1 : Int32)]) (L0 := [some (.ref 19), some (.int v1), some (.int v2), some (.int v3), some (.int (-1 : Int32))]) okX7_leftBut ovX7_leftBut mlX7_127 clX7 so19 rfl rfl (Nat.le_of_ble_eq_true rfl) dX7_isSound_80 rfl (Nat.le_of_ble_eq_true rfl) (jX7_leftBut (X := X) (d + 2) s v1 v2 v3 (-1 : Int32) hy16) ?_
      refine J_if_ge (pc := 83) 88 dX7_isSound_83 (by decide) (fun c18 => ?_) (fun c18 => ?_)
      · replace hh := (if_pos c18).symm.trans hh
        refine J_iincL (pc := 88) (v := v3 + (1 : Int32)) (fun x17 => [some (.ref 19), some (.int v1), some (.int v2), some (.int x17)]) dX7_isSound_88 rfl rfl (Nat.le_of_ble_eq_true rfl) (congrArg _ ci_1) (fun _ => rfl) hh (fun x17 hh => ?_)
        refine J_goto (pc := 91) 60 dX7_isSound_91 (by decide) ?_
        obtain rfl := Option.some.inj hh
        exact hk
      · replace hh := (if_neg c18).symm.trans hh
        refine J_iconst (pc := 86) dX7_isSound_86 ci_0 ?_
        obtain rfl := Option.some.inj hh
        obtain ⟨rfl, rfl⟩ := hk
        exact J_ret (w := some (.int (0 : Int32))) ⟨dX7_isSound_87, _, rfl, rfl⟩
def bX7_isSound_53 (s : Mem) (v1 : Int32) (v2 : Int32) : Option ((Int32 ⊕ Unit) ⊕ Int32) :=
  if (3 : Int32) ≤ v2 then some (Sum.inl (Sum.inr ())) else (lp (fun a => bX7_isSound_60 s v1 v2 a) 600 (0 : Int32)).bind (fun y21 => Sum.elim (fun q23 => some (Sum.inl (Sum.inl q23))) (fun t22 => lt (v2 + (1 : Int32)) (fun x24 => some (Sum.inr x24))) y21)
set_option maxRecDepth 4000 in
theorem jbX7_isSound_53 {X : Scr} (d : Nat) (s : Mem) (v1 : Int32) (v2 : Int32) {r : ((Int32 ⊕ Unit) ⊕ Int32)} {w : Option Value} {s' : Mem} (hh : bX7_isSound_53 s v1 v2 = some r) (hk : Sum.elim (Sum.elim (fun q : Int32 => w = some (.int q) ∧ s = s') (fun t : Unit => J X MX7_isSound (d + 7) 100 [none, none, none, none] [] s w s')) (fun a : Int32 => J X MX7_isSound (d + 7) 53 [some (.ref 19), some (.int v1), some (.int a), none] [] s w s') r) : J X MX7_isSound (d + 7) 53 [some (.ref 19), some (.int v1), some (.int v2), none] [] s w s' := by
  unfold bX7_isSound_53 at hh
  refine J_iload_n (pc := 53) dX7_isSound_53 rfl ?_
  refine J_iconst (pc := 54) dX7_isSound_54 ci_3 ?_
  refine J_icmp_ge (pc := 55) 100 dX7_isSound_55 (by decide) (fun c25 => ?_) (fun c25 => ?_)
  · replace hh := (if_pos c25).symm.trans hh
    refine J_drop 0 (L' := [none, some (.int v1), some (.int v2), none]) rfl ?_
    refine J_drop 1 (L' := [none, none, some (.int v2), none]) rfl ?_
    refine J_drop 2 (L' := [none, none, none, none]) rfl ?_
    obtain rfl := Option.some.inj hh
    exact hk
  · replace hh := (if_neg c25).symm.trans hh
    refine J_iconst (pc := 58) dX7_isSound_58 ci_0 ?_
    refine J_istore_n (pc := 59) (L' := [some (.ref 19), some (.int v1), some (.int v2), some (.int (0 : Int32))]) dX7_isSound_59 rfl (Nat.le_of_ble_eq_true rfl) rfl ?_
    obtain ⟨y21, hy21, hh⟩ := bd_some hh
    refine J_lp (a := (0 : Int32)) (fun a : Int32 => J X MX7_isSound (d + 7) 60 [some (.ref 19), some (.int v1), some (.int v2), some (.int a)] [] s w s') (Sum.elim (fun q : Int32 => w = some (.int q) ∧ s = s') (fun t : Unit => J X MX7_isSound (d + 7) 94 [some (.ref 19), some (.int v1), some (.int v2), none] [] s w s')) (fun a q h1 h2 => jbX7_isSound_60 d s v1 v2 a h1 h2) hy21 ?_
    cases y21 with
    | inl q23 =>
      obtain rfl := Option.some.inj hh
      exact hk
    | inr t22 =>
      skip
      replace hh : (lt (v2 + (1 : Int32)) (fun x24 => some (Sum.inr x24))) = some r := hh
      refine J_iincL (pc := 94) (v := v2 + (1 : Int32)) (fun x24 => [some (.ref 19), some (.int v1), some (.int x24), none]) dX7_isSound_94 rfl rfl (Nat.le_of_ble_eq_true rfl) (congrArg _ ci_1) (fun _ => rfl) hh (fun x24 hh => ?_)
      refine J_goto (pc := 97) 53 dX7_isSound_97 (by decide) ?_
      obtain rfl := Option.some.inj hh
      exact hk
def fX7_isSound (s : Mem) (p0 : Int32) : Option Int32 :=
  (lp (fun a => bX7_isSound_2 s p0 a) 600 (0 : Int32)).bind (fun y11 => Sum.elim (fun q13 => some q13) (fun t12 => (lp (fun a => bX7_isSound_53 s p0 a) 600 (0 : Int32)).bind (fun y26 => Sum.elim (fun q28 => some q28) (fun t27 => some (1 : Int32)) y26)) y11)
set_option maxRecDepth 4000 in
theorem jjX7_isSound {X : Scr} (d : Nat) (s : Mem) (p0 : Int32) {r : Int32} {w : Option Value} {s' : Mem} (hh : fX7_isSound s p0 = some r) (hk : w = some (.int r) ∧ s = s') : J X MX7_isSound (d + 7) 0 [some (.ref 19), some (.int p0), none, none] [] s w s' := by
  unfold fX7_isSound at hh
  refine J_iconst (pc := 0) dX7_isSound_0 ci_0 ?_
  refine J_istore_n (pc := 1) (L' := [some (.ref 19), some (.int p0), some (.int (0 : Int32)), none]) dX7_isSound_1 rfl (Nat.le_of_ble_eq_true rfl) rfl ?_
  obtain ⟨y11, hy11, hh⟩ := bd_some hh
  refine J_lp (a := (0 : Int32)) (fun a : Int32 => J X MX7_isSound (d + 7) 2 [some (.ref 19), some (.int p0), some (.int a), none] [] s w s') (Sum.elim (fun q : Int32 => w = some (.int q) ∧ s = s') (fun t : Unit => J X MX7_isSound (d + 7) 51 [some (.ref 19), some (.int p0), none, none] [] s w s')) (fun a q h1 h2 => jbX7_isSound_2 d s p0 a h1 h2) hy11 ?_
  cases y11 with
  | inl q13 =>
    obtain rfl := Option.some.inj hh
    exact hk
  | inr t12 =>
    skip
    replace hh : ((lp (fun a => bX7_isSound_53 s p0 a) 600 (0 : Int32)).bind (fun y26 => Sum.elim (fun q28 => some q28) (fun t27 => some (1 : Int32)) y26)) = some r := hh
    refine J_iconst (pc := 51) dX7_isSound_51 ci_0 ?_
    refine J_istore_n (pc := 52) (L' := [some (.ref 19), some (.int p0), some (.int (0 : Int32)), none]) dX7_isSound_52 rfl (Nat.le_of_ble_eq_true rfl) rfl ?_
    obtain ⟨y26, hy26, hh⟩ := bd_some hh
    refine J_lp (a := (0 : Int32)) (fun a : Int32 => J X MX7_isSound (d + 7) 53 [some (.ref 19), some (.int p0), some (.int a), none] [] s w s') (Sum.elim (fun q : Int32 => w = some (.int q) ∧ s = s') (fun t : Unit => J X MX7_isSound (d + 7) 100 [none, none, none, none] [] s w s')) (fun a q h1 h2 => jbX7_isSound_53 d s p0 a h1 h2) hy26 ?_
    cases y26 with
    | inl q28 =>
      obtain rfl := Option.some.inj hh
      exact hk
    | inr t27 =>
      skip
      replace hh : (some (1 : Int32)) = some r := hh
      refine J_iconst (pc := 100) dX7_isSound_100 ci_1 ?_
      obtain rfl := Option.some.inj hh
      obtain ⟨rfl, rfl⟩ := hk
      exact J_ret (w := some (.int (1 : Int32))) ⟨dX7_isSound_101, _, rfl, rfl⟩
theorem jX7_isSound {X : Scr} (d : Nat) (s : Mem) (p0 : Int32) {r : Int32} (hh : fX7_isSound s p0 = some r) : J X MX7_isSound (d + 7) 0 [some (.ref 19), some (.int p0), none, none] [] s (some (.int r)) s := jjX7_isSound d s p0 hh ⟨rfl, rfl⟩
theorem dX7_opens_0 : decode cX7_opens 0 = .ok (.iload_n 1, 1) := by decide +kernel
theorem dX7_opens_1 : decode cX7_opens 1 = .ok (.iload_n 2, 1) := by decide +kernel
theorem dX7_opens_2 : decode cX7_opens 2 = .ok (.iload_n 3, 1) := by decide +kernel
theorem dX7_opens_3 : decode cX7_opens 3 = .ok (.invokestatic 73, 3) := by decide +kernel
theorem dX7_opens_6 : decode cX7_opens 6 = .ok (.istore 7, 2) := by decide +kernel
theorem dX7_opens_8 : decode cX7_opens 8 = .ok (.aload_n 0, 1) := by decide +kernel
theorem dX7_opens_9 : decode cX7_opens 9 = .ok (.getfield 9, 3) := by decide +kernel
theorem dX7_opens_12 : decode cX7_opens 12 = .ok (.iload 7, 2) := by decide +kernel
theorem dX7_opens_14 : decode cX7_opens 14 = .ok (.iconst 0, 1) := by decide +kernel
theorem dX7_opens_15 : decode cX7_opens 15 = .ok (.iadd, 1) := by decide +kernel
theorem dX7_opens_16 : decode cX7_opens 16 = .ok (.iaload, 1) := by decide +kernel
theorem dX7_opens_17 : decode cX7_opens 17 = .ok (.istore 8, 2) := by decide +kernel
theorem dX7_opens_19 : decode cX7_opens 19 = .ok (.aload_n 0, 1) := by decide +kernel
theorem dX7_opens_20 : decode cX7_opens 20 = .ok (.getfield 9, 3) := by decide +kernel
theorem dX7_opens_23 : decode cX7_opens 23 = .ok (.iload 7, 2) := by decide +kernel
theorem dX7_opens_25 : decode cX7_opens 25 = .ok (.iconst 1, 1) := by decide +kernel
theorem dX7_opens_26 : decode cX7_opens 26 = .ok (.iadd, 1) := by decide +kernel
theorem dX7_opens_27 : decode cX7_opens 27 = .ok (.iaload, 1) := by decide +kernel
theorem dX7_opens_28 : decode cX7_opens 28 = .ok (.istore 9, 2) := by decide +kernel
theorem dX7_opens_30 : decode cX7_opens 30 = .ok (.aload_n 0, 1) := by decide +kernel
theorem dX7_opens_31 : decode cX7_opens 31 = .ok (.getfield 9, 3) := by decide +kernel
theorem dX7_opens_34 : decode cX7_opens 34 = .ok (.iload 7, 2) := by decide +kernel
theorem dX7_opens_36 : decode cX7_opens 36 = .ok (.iconst 2, 1) := by decide +kernel
theorem dX7_opens_37 : decode cX7_opens 37 = .ok (.iadd, 1) := by decide +kernel
theorem dX7_opens_38 : decode cX7_opens 38 = .ok (.iaload, 1) := by decide +kernel
theorem dX7_opens_39 : decode cX7_opens 39 = .ok (.istore 10, 2) := by decide +kernel
theorem dX7_opens_41 : decode cX7_opens 41 = .ok (.aload_n 0, 1) := by decide +kernel
theorem dX7_opens_42 : decode cX7_opens 42 = .ok (.getfield 9, 3) := by decide +kernel
theorem dX7_opens_45 : decode cX7_opens 45 = .ok (.iload 7, 2) := by decide +kernel
theorem dX7_opens_47 : decode cX7_opens 47 = .ok (.iconst 3, 1) := by decide +kernel
theorem dX7_opens_48 : decode cX7_opens 48 = .ok (.iadd, 1) := by decide +kernel
theorem dX7_opens_49 : decode cX7_opens 49 = .ok (.iaload, 1) := by decide +kernel
theorem dX7_opens_50 : decode cX7_opens 50 = .ok (.istore 11, 2) := by decide +kernel
theorem dX7_opens_52 : decode cX7_opens 52 = .ok (.aload_n 0, 1) := by decide +kernel
theorem dX7_opens_53 : decode cX7_opens 53 = .ok (.getfield 9, 3) := by decide +kernel
theorem dX7_opens_56 : decode cX7_opens 56 = .ok (.iload 7, 2) := by decide +kernel
theorem dX7_opens_58 : decode cX7_opens 58 = .ok (.iconst 0, 1) := by decide +kernel
theorem dX7_opens_59 : decode cX7_opens 59 = .ok (.iadd, 1) := by decide +kernel
theorem dX7_opens_60 : decode cX7_opens 60 = .ok (.iconst 1, 1) := by decide +kernel
theorem dX7_opens_61 : decode cX7_opens 61 = .ok (.iastore, 1) := by decide +kernel
theorem dX7_opens_62 : decode cX7_opens 62 = .ok (.aload_n 0, 1) := by decide +kernel
theorem dX7_opens_63 : decode cX7_opens 63 = .ok (.getfield 9, 3) := by decide +kernel
theorem dX7_opens_66 : decode cX7_opens 66 = .ok (.iload 7, 2) := by decide +kernel
theorem dX7_opens_68 : decode cX7_opens 68 = .ok (.iconst 1, 1) := by decide +kernel
theorem dX7_opens_69 : decode cX7_opens 69 = .ok (.iadd, 1) := by decide +kernel
theorem dX7_opens_70 : decode cX7_opens 70 = .ok (.iload 4, 2) := by decide +kernel
theorem dX7_opens_72 : decode cX7_opens 72 = .ok (.iastore, 1) := by decide +kernel
theorem dX7_opens_73 : decode cX7_opens 73 = .ok (.aload_n 0, 1) := by decide +kernel
theorem dX7_opens_74 : decode cX7_opens 74 = .ok (.getfield 9, 3) := by decide +kernel
theorem dX7_opens_77 : decode cX7_opens 77 = .ok (.iload 7, 2) := by decide +kernel
theorem dX7_opens_79 : decode cX7_opens 79 = .ok (.iconst 2, 1) := by decide +kernel
theorem dX7_opens_80 : decode cX7_opens 80 = .ok (.iadd, 1) := by decide +kernel
theorem dX7_opens_81 : decode cX7_opens 81 = .ok (.iload 5, 2) := by decide +kernel
theorem dX7_opens_83 : decode cX7_opens 83 = .ok (.iastore, 1) := by decide +kernel
theorem dX7_opens_84 : decode cX7_opens 84 = .ok (.aload_n 0, 1) := by decide +kernel
theorem dX7_opens_85 : decode cX7_opens 85 = .ok (.getfield 9, 3) := by decide +kernel
theorem dX7_opens_88 : decode cX7_opens 88 = .ok (.iload 7, 2) := by decide +kernel
theorem dX7_opens_90 : decode cX7_opens 90 = .ok (.iconst 3, 1) := by decide +kernel
theorem dX7_opens_91 : decode cX7_opens 91 = .ok (.iadd, 1) := by decide +kernel
theorem dX7_opens_92 : decode cX7_opens 92 = .ok (.iload 6, 2) := by decide +kernel
theorem dX7_opens_94 : decode cX7_opens 94 = .ok (.iastore, 1) := by decide +kernel
theorem dX7_opens_95 : decode cX7_opens 95 = .ok (.aload_n 0, 1) := by decide +kernel
theorem dX7_opens_96 : decode cX7_opens 96 = .ok (.iload_n 1, 1) := by decide +kernel
theorem dX7_opens_97 : decode cX7_opens 97 = .ok (.invokevirtual 145, 3) := by decide +kernel
theorem dX7_opens_100 : decode cX7_opens 100 = .ok (.ifCond .eq 5, 3) := by decide +kernel
theorem dX7_opens_103 : decode cX7_opens 103 = .ok (.iconst 1, 1) := by decide +kernel
theorem dX7_opens_104 : decode cX7_opens 104 = .ok (.ireturn, 1) := by decide +kernel
theorem dX7_opens_105 : decode cX7_opens 105 = .ok (.aload_n 0, 1) := by decide +kernel
theorem dX7_opens_106 : decode cX7_opens 106 = .ok (.getfield 9, 3) := by decide +kernel
theorem dX7_opens_109 : decode cX7_opens 109 = .ok (.iload 7, 2) := by decide +kernel
theorem dX7_opens_111 : decode cX7_opens 111 = .ok (.iconst 0, 1) := by decide +kernel
theorem dX7_opens_112 : decode cX7_opens 112 = .ok (.iadd, 1) := by decide +kernel
theorem dX7_opens_113 : decode cX7_opens 113 = .ok (.iload 8, 2) := by decide +kernel
theorem dX7_opens_115 : decode cX7_opens 115 = .ok (.iastore, 1) := by decide +kernel
theorem dX7_opens_116 : decode cX7_opens 116 = .ok (.aload_n 0, 1) := by decide +kernel
theorem dX7_opens_117 : decode cX7_opens 117 = .ok (.getfield 9, 3) := by decide +kernel
theorem dX7_opens_120 : decode cX7_opens 120 = .ok (.iload 7, 2) := by decide +kernel
theorem dX7_opens_122 : decode cX7_opens 122 = .ok (.iconst 1, 1) := by decide +kernel
theorem dX7_opens_123 : decode cX7_opens 123 = .ok (.iadd, 1) := by decide +kernel
theorem dX7_opens_124 : decode cX7_opens 124 = .ok (.iload 9, 2) := by decide +kernel
theorem dX7_opens_126 : decode cX7_opens 126 = .ok (.iastore, 1) := by decide +kernel
theorem dX7_opens_127 : decode cX7_opens 127 = .ok (.aload_n 0, 1) := by decide +kernel
theorem dX7_opens_128 : decode cX7_opens 128 = .ok (.getfield 9, 3) := by decide +kernel
theorem dX7_opens_131 : decode cX7_opens 131 = .ok (.iload 7, 2) := by decide +kernel
theorem dX7_opens_133 : decode cX7_opens 133 = .ok (.iconst 2, 1) := by decide +kernel
theorem dX7_opens_134 : decode cX7_opens 134 = .ok (.iadd, 1) := by decide +kernel
theorem dX7_opens_135 : decode cX7_opens 135 = .ok (.iload 10, 2) := by decide +kernel
theorem dX7_opens_137 : decode cX7_opens 137 = .ok (.iastore, 1) := by decide +kernel
theorem dX7_opens_138 : decode cX7_opens 138 = .ok (.aload_n 0, 1) := by decide +kernel
theorem dX7_opens_139 : decode cX7_opens 139 = .ok (.getfield 9, 3) := by decide +kernel
theorem dX7_opens_142 : decode cX7_opens 142 = .ok (.iload 7, 2) := by decide +kernel
theorem dX7_opens_144 : decode cX7_opens 144 = .ok (.iconst 3, 1) := by decide +kernel
theorem dX7_opens_145 : decode cX7_opens 145 = .ok (.iadd, 1) := by decide +kernel
theorem dX7_opens_146 : decode cX7_opens 146 = .ok (.iload 11, 2) := by decide +kernel
theorem dX7_opens_148 : decode cX7_opens 148 = .ok (.iastore, 1) := by decide +kernel
theorem dX7_opens_149 : decode cX7_opens 149 = .ok (.iconst 0, 1) := by decide +kernel
theorem dX7_opens_150 : decode cX7_opens 150 = .ok (.ireturn, 1) := by decide +kernel
def fX7_opens (s : Mem) (p0 : Int32) (p1 : Int32) (p2 : Int32) (p3 : Int32) (p4 : Int32) (p5 : Int32) : Option (Int32 × Mem) :=
  (fX7_at p0 p1 p2).bind (fun y1 => gd (y1 + (0 : Int32)) 139 (lt (s.1 20 (y1 + (0 : Int32)).toNatClampNeg) (fun x3 => gd (y1 + (1 : Int32)) 139 (lt (s.1 20 (y1 + (1 : Int32)).toNatClampNeg) (fun x5 => gd (y1 + (2 : Int32)) 139 (lt (s.1 20 (y1 + (2 : Int32)).toNatClampNeg) (fun x7 => gd (y1 + (3 : Int32)) 139 (lt (s.1 20 (y1 + (3 : Int32)).toNatClampNeg) (fun x9 => gd (y1 + (0 : Int32)) 139 (lt (up2 s 20 (y1 + (0 : Int32)).toNatClampNeg (1 : Int32)) (fun s11 => gd (y1 + (1 : Int32)) 139 (lt (up2 s11 20 (y1 + (1 : Int32)).toNatClampNeg p3) (fun s13 => gd (y1 + (2 : Int32)) 139 (lt (up2 s13 20 (y1 + (2 : Int32)).toNatClampNeg p4) (fun s15 => gd (y1 + (3 : Int32)) 139 (lt (up2 s15 20 (y1 + (3 : Int32)).toNatClampNeg p5) (fun s17 => (fX7_isSound s17 p0).bind (fun y18 => if y18 = (0 : Int32) then gd (y1 + (0 : Int32)) 139 (lt (up2 s17 20 (y1 + (0 : Int32)).toNatClampNeg x3) (fun s20 => gd (y1 + (1 : Int32)) 139 (lt (up2 s20 20 (y1 + (1 : Int32)).toNatClampNeg x5) (fun s22 => gd (y1 + (2 : Int32)) 139 (lt (up2 s22 20 (y1 + (2 : Int32)).toNatClampNeg x7) (fun s24 => gd (y1 + (3 : Int32)) 139 (lt (up2 s24 20 (y1 + (3 : Int32)).toNatClampNeg x9) (fun s26 => some (((0 : Int32), s26)))))))))) else some (((1 : Int32), s17))))))))))))))))))))
set_option maxRecDepth 4000 in
theorem jjX7_opens {X : Scr} (d : Nat) (s : Mem) (p0 : Int32) (p1 : Int32) (p2 : Int32) (p3 : Int32) (p4 : Int32) (p5 : Int32) {r : (Int32 × Mem)} {w : Option Value} {s' : Mem} (hh : fX7_opens s p0 p1 p2 p3 p4 p5 = some r) (hk : w = some (.int r.1) ∧ r.2 = s') : J X MX7_opens (d + 8) 0 [some (.ref 19), some (.int p0), some (.int p1), some (.int p2), some (.int p3), some (.int p4), some (.int p5), none, none, none, none, none] [] s w s' := by
  unfold fX7_opens at hh
  refine J_iload_n (pc := 0) dX7_opens_0 rfl ?_
  refine J_iload_n (pc := 1) dX7_opens_1 rfl ?_
  refine J_iload_n (pc := 2) dX7_opens_2 rfl ?_
  obtain ⟨y1, hy1, hh⟩ := bd_some hh
  refine J_callSi (pc := 3) (M' := MX7_at) (rest := []) (As := [.int p0, .int p1, .int p2]) (L0 := [some (.int p0), some (.int p1), some (.int p2)]) okX7_at osX7_at mlX7_73 rfl rfl (Nat.le_of_ble_eq_true rfl) dX7_opens_3 rfl (Nat.le_of_ble_eq_true rfl) (jX7_at (X := X) (d + 7) s p0 p1 p2 hy1) ?_
  refine J_istore (pc := 6) (L' := [some (.ref 19), some (.int p0), some (.int p1), some (.int p2), some (.int p3), some (.int p4), some (.int p5), some (.int y1), none, none, none, none]) dX7_opens_6 rfl (Nat.le_of_ble_eq_true rfl) rfl ?_
  refine J_aload_n (pc := 8) dX7_opens_8 rfl ?_
  refine J_getR (pc := 9) (k := 0) flX7_9 so19 fk19_0 dX7_opens_9 ?_
  refine J_iload (pc := 12) dX7_opens_12 rfl ?_
  refine J_iconst (pc := 14) dX7_opens_14 ci_0 ?_
  refine J_iadd (pc := 15) dX7_opens_15 ?_
  obtain ⟨h2, hh⟩ := gd_some hh
  refine J_iald (pc := 16) dX7_opens_16 sa20 h2 ?_
  refine J_istoreL (pc := 17) (fun x3 => [some (.ref 19), some (.int p0), some (.int p1), some (.int p2), some (.int p3), some (.int p4), some (.int p5), some (.int y1), some (.int x3), none, none, none]) dX7_opens_17 rfl (Nat.le_of_ble_eq_true rfl) (fun _ => rfl) hh (fun x3 hh => ?_)
  refine J_aload_n (pc := 19) dX7_opens_19 rfl ?_
  refine J_getR (pc := 20) (k := 0) flX7_9 so19 fk19_0 dX7_opens_20 ?_
  refine J_iload (pc := 23) dX7_opens_23 rfl ?_
  refine J_iconst (pc := 25) dX7_opens_25 ci_1 ?_
  refine J_iadd (pc := 26) dX7_opens_26 ?_
  obtain ⟨h4, hh⟩ := gd_some hh
  refine J_iald (pc := 27) dX7_opens_27 sa20 h4 ?_
  refine J_istoreL (pc := 28) (fun x5 => [some (.ref 19), some (.int p0), some (.int p1), some (.int p2), some (.int p3), some (.int p4), some (.int p5), some (.int y1), some (.int x3), some (.int x5), none, none]) dX7_opens_28 rfl (Nat.le_of_ble_eq_true rfl) (fun _ => rfl) hh (fun x5 hh => ?_)
  refine J_aload_n (pc := 30) dX7_opens_30 rfl ?_
  refine J_getR (pc := 31) (k := 0) flX7_9 so19 fk19_0 dX7_opens_31 ?_
  refine J_iload (pc := 34) dX7_opens_34 rfl ?_
  refine J_iconst (pc := 36) dX7_opens_36 ci_2 ?_
  refine J_iadd (pc := 37) dX7_opens_37 ?_
  obtain ⟨h6, hh⟩ := gd_some hh
  refine J_iald (pc := 38) dX7_opens_38 sa20 h6 ?_
  refine J_istoreL (pc := 39) (fun x7 => [some (.ref 19), some (.int p0), some (.int p1), some (.int p2), some (.int p3), some (.int p4), some (.int p5), some (.int y1), some (.int x3), some (.int x5), some (.int x7), none]) dX7_opens_39 rfl (Nat.le_of_ble_eq_true rfl) (fun _ => rfl) hh (fun x7 hh => ?_)
  refine J_aload_n (pc := 41) dX7_opens_41 rfl ?_
  refine J_getR (pc := 42) (k := 0) flX7_9 so19 fk19_0 dX7_opens_42 ?_
  refine J_iload (pc := 45) dX7_opens_45 rfl ?_
  refine J_iconst (pc := 47) dX7_opens_47 ci_3 ?_
  refine J_iadd (pc := 48) dX7_opens_48 ?_
  obtain ⟨h8, hh⟩ := gd_some hh
  refine J_iald (pc := 49) dX7_opens_49 sa20 h8 ?_
  refine J_istoreL (pc := 50) (fun x9 => [some (.ref 19), some (.int p0), some (.int p1), some (.int p2), some (.int p3), some (.int p4), some (.int p5), some (.int y1), some (.int x3), some (.int x5), some (.int x7), some (.int x9)]) dX7_opens_50 rfl (Nat.le_of_ble_eq_true rfl) (fun _ => rfl) hh (fun x9 hh => ?_)
  refine J_aload_n (pc := 52) dX7_opens_52 rfl ?_
  refine J_getR (pc := 53) (k := 0) flX7_9 so19 fk19_0 dX7_opens_53 ?_
  refine J_iload (pc := 56) dX7_opens_56 rfl ?_
  refine J_iconst (pc := 58) dX7_opens_58 ci_0 ?_
  refine J_iadd (pc := 59) dX7_opens_59 ?_
  refine J_iconst (pc := 60) dX7_opens_60 ci_1 ?_
  obtain ⟨h10, hh⟩ := gd_some hh
  refine J_iastL (pc := 61) dX7_opens_61 sa20 h10 hh (fun s11 hh => ?_)
  refine J_aload_n (pc := 62) dX7_opens_62 rfl ?_
  refine J_getR (pc := 63) (k := 0) flX7_9 so19 fk19_0 dX7_opens_63 ?_
  refine J_iload (pc := 66) dX7_opens_66 rfl ?_
  refine J_iconst (pc := 68) dX7_opens_68 ci_1 ?_
  refine J_iadd (pc := 69) dX7_opens_69 ?_
  refine J_iload (pc := 70) dX7_opens_70 rfl ?_
  obtain ⟨h12, hh⟩ := gd_some hh
  refine J_iastL (pc := 72) dX7_opens_72 sa20 h12 hh (fun s13 hh => ?_)
  refine J_aload_n (pc := 73) dX7_opens_73 rfl ?_
  refine J_getR (pc := 74) (k := 0) flX7_9 so19 fk19_0 dX7_opens_74 ?_
  refine J_iload (pc := 77) dX7_opens_77 rfl ?_
  refine J_iconst (pc := 79) dX7_opens_79 ci_2 ?_
  refine J_iadd (pc := 80) dX7_opens_80 ?_
  refine J_iload (pc := 81) dX7_opens_81 rfl ?_
  obtain ⟨h14, hh⟩ := gd_some hh
  refine J_iastL (pc := 83) dX7_opens_83 sa20 h14 hh (fun s15 hh => ?_)
  refine J_aload_n (pc := 84) dX7_opens_84 rfl ?_
  refine J_getR (pc := 85) (k := 0) flX7_9 so19 fk19_0 dX7_opens_85 ?_
  refine J_iload (pc := 88) dX7_opens_88 rfl ?_
  refine J_iconst (pc := 90) dX7_opens_90 ci_3 ?_
  refine J_iadd (pc := 91) dX7_opens_91 ?_
  refine J_iload (pc := 92) dX7_opens_92 rfl ?_
  obtain ⟨h16, hh⟩ := gd_some hh
  refine J_iastL (pc := 94) dX7_opens_94 sa20 h16 hh (fun s17 hh => ?_)
  refine J_aload_n (pc := 95) dX7_opens_95 rfl ?_
  refine J_iload_n (pc := 96) dX7_opens_96 rfl ?_
  obtain ⟨y18, hy18, hh⟩ := bd_some hh
  refine J_callVi (pc := 97) (M' := MX7_isSound) (a := 19) (rest := []) (As := [.int p0]) (L0 := [some (.ref 19), some (.int p0), none, none]) okX7_isSound ovX7_isSound mlX7_145 clX7 so19 rfl rfl (Nat.le_of_ble_eq_true rfl) dX7_opens_97 rfl (Nat.le_of_ble_eq_true rfl) (jX7_isSound (X := X) d s17 p0 hy18) ?_
  refine J_if_eq (pc := 100) 105 dX7_opens_100 (by decide) (fun c27 => ?_) (fun c27 => ?_)
  · replace hh := (if_pos c27).symm.trans hh
    refine J_aload_n (pc := 105) dX7_opens_105 rfl ?_
    refine J_getR (pc := 106) (k := 0) flX7_9 so19 fk19_0 dX7_opens_106 ?_
    refine J_iload (pc := 109) dX7_opens_109 rfl ?_
    refine J_iconst (pc := 111) dX7_opens_111 ci_0 ?_
    refine J_iadd (pc := 112) dX7_opens_112 ?_
    refine J_iload (pc := 113) dX7_opens_113 rfl ?_
    obtain ⟨h19, hh⟩ := gd_some hh
    refine J_iastL (pc := 115) dX7_opens_115 sa20 h19 hh (fun s20 hh => ?_)
    refine J_aload_n (pc := 116) dX7_opens_116 rfl ?_
    refine J_getR (pc := 117) (k := 0) flX7_9 so19 fk19_0 dX7_opens_117 ?_
    refine J_iload (pc := 120) dX7_opens_120 rfl ?_
    refine J_iconst (pc := 122) dX7_opens_122 ci_1 ?_
    refine J_iadd (pc := 123) dX7_opens_123 ?_
    refine J_iload (pc := 124) dX7_opens_124 rfl ?_
    obtain ⟨h21, hh⟩ := gd_some hh
    refine J_iastL (pc := 126) dX7_opens_126 sa20 h21 hh (fun s22 hh => ?_)
    refine J_aload_n (pc := 127) dX7_opens_127 rfl ?_
    refine J_getR (pc := 128) (k := 0) flX7_9 so19 fk19_0 dX7_opens_128 ?_
    refine J_iload (pc := 131) dX7_opens_131 rfl ?_
    refine J_iconst (pc := 133) dX7_opens_133 ci_2 ?_
    refine J_iadd (pc := 134) dX7_opens_134 ?_
    refine J_iload (pc := 135) dX7_opens_135 rfl ?_
    obtain ⟨h23, hh⟩ := gd_some hh
    refine J_iastL (pc := 137) dX7_opens_137 sa20 h23 hh (fun s24 hh => ?_)
    refine J_aload_n (pc := 138) dX7_opens_138 rfl ?_
    refine J_getR (pc := 139) (k := 0) flX7_9 so19 fk19_0 dX7_opens_139 ?_
    refine J_iload (pc := 142) dX7_opens_142 rfl ?_
    refine J_iconst (pc := 144) dX7_opens_144 ci_3 ?_
    refine J_iadd (pc := 145) dX7_opens_145 ?_
    refine J_iload (pc := 146) dX7_opens_146 rfl ?_
    obtain ⟨h25, hh⟩ := gd_some hh
    refine J_iastL (pc := 148) dX7_opens_148 sa20 h25 hh (fun s26 hh => ?_)
    refine J_iconst (pc := 149) dX7_opens_149 ci_0 ?_
    obtain rfl := Option.some.inj hh
    obtain ⟨rfl, rfl⟩ := hk
    exact J_ret (w := some (.int (0 : Int32))) ⟨dX7_opens_150, _, rfl, rfl⟩
  · replace hh := (if_neg c27).symm.trans hh
    refine J_iconst (pc := 103) dX7_opens_103 ci_1 ?_
    obtain rfl := Option.some.inj hh
    obtain ⟨rfl, rfl⟩ := hk
    exact J_ret (w := some (.int (1 : Int32))) ⟨dX7_opens_104, _, rfl, rfl⟩
theorem jX7_opens {X : Scr} (d : Nat) (s : Mem) (p0 : Int32) (p1 : Int32) (p2 : Int32) (p3 : Int32) (p4 : Int32) (p5 : Int32) {r : (Int32 × Mem)} (hh : fX7_opens s p0 p1 p2 p3 p4 p5 = some r) : J X MX7_opens (d + 8) 0 [some (.ref 19), some (.int p0), some (.int p1), some (.int p2), some (.int p3), some (.int p4), some (.int p5), none, none, none, none, none] [] s (some (.int r.1)) r.2 := jjX7_opens d s p0 p1 p2 p3 p4 p5 hh ⟨rfl, rfl⟩
theorem dX7_section_0 : decode cX7_section 0 = .ok (.iload_n 1, 1) := by decide +kernel
theorem dX7_section_1 : decode cX7_section 1 = .ok (.iload_n 2, 1) := by decide +kernel
theorem dX7_section_2 : decode cX7_section 2 = .ok (.iload_n 3, 1) := by decide +kernel
theorem dX7_section_3 : decode cX7_section 3 = .ok (.invokestatic 148, 3) := by decide +kernel
theorem dX7_section_6 : decode cX7_section 6 = .ok (.ifCond .eq 37, 3) := by decide +kernel
theorem dX7_section_9 : decode cX7_section 9 = .ok (.iload 4, 2) := by decide +kernel
theorem dX7_section_11 : decode cX7_section 11 = .ok (.invokestatic 151, 3) := by decide +kernel
theorem dX7_section_14 : decode cX7_section 14 = .ok (.ifCond .eq 29, 3) := by decide +kernel
theorem dX7_section_17 : decode cX7_section 17 = .ok (.iload 5, 2) := by decide +kernel
theorem dX7_section_19 : decode cX7_section 19 = .ok (.i2l, 1) := by decide +kernel
theorem dX7_section_20 : decode cX7_section 20 = .ok (.lconst 0, 1) := by decide +kernel
theorem dX7_section_21 : decode cX7_section 21 = .ok (.ldc2_w 154, 3) := by decide +kernel
theorem dX7_section_24 : decode cX7_section 24 = .ok (.invokestatic 63, 3) := by decide +kernel
theorem dX7_section_27 : decode cX7_section 27 = .ok (.ifCond .eq 16, 3) := by decide +kernel
theorem dX7_section_30 : decode cX7_section 30 = .ok (.iload 6, 2) := by decide +kernel
theorem dX7_section_32 : decode cX7_section 32 = .ok (.i2l, 1) := by decide +kernel
theorem dX7_section_33 : decode cX7_section 33 = .ok (.ldc2_w 156, 3) := by decide +kernel
theorem dX7_section_36 : decode cX7_section 36 = .ok (.lconst 1, 1) := by decide +kernel
theorem dX7_section_37 : decode cX7_section 37 = .ok (.invokestatic 63, 3) := by decide +kernel
theorem dX7_section_40 : decode cX7_section 40 = .ok (.ifCond .ne 9, 3) := by decide +kernel
theorem dX7_section_43 : decode cX7_section 43 = .ok (.aload_n 0, 1) := by decide +kernel
theorem dX7_section_44 : decode cX7_section 44 = .ok (.iconst 0, 1) := by decide +kernel
theorem dX7_section_45 : decode cX7_section 45 = .ok (.invokevirtual 158, 3) := by decide +kernel
theorem dX7_section_48 : decode cX7_section 48 = .ok (.ireturn, 1) := by decide +kernel
theorem dX7_section_49 : decode cX7_section 49 = .ok (.aload_n 0, 1) := by decide +kernel
theorem dX7_section_50 : decode cX7_section 50 = .ok (.invokevirtual 161, 3) := by decide +kernel
theorem dX7_section_53 : decode cX7_section 53 = .ok (.aload_n 0, 1) := by decide +kernel
theorem dX7_section_54 : decode cX7_section 54 = .ok (.iload_n 1, 1) := by decide +kernel
theorem dX7_section_55 : decode cX7_section 55 = .ok (.iload_n 2, 1) := by decide +kernel
theorem dX7_section_56 : decode cX7_section 56 = .ok (.iload_n 3, 1) := by decide +kernel
theorem dX7_section_57 : decode cX7_section 57 = .ok (.iload 4, 2) := by decide +kernel
theorem dX7_section_59 : decode cX7_section 59 = .ok (.iload 5, 2) := by decide +kernel
theorem dX7_section_61 : decode cX7_section 61 = .ok (.iload 6, 2) := by decide +kernel
theorem dX7_section_63 : decode cX7_section 63 = .ok (.invokevirtual 164, 3) := by decide +kernel
theorem dX7_section_66 : decode cX7_section 66 = .ok (.ifCond .ne 9, 3) := by decide +kernel
theorem dX7_section_69 : decode cX7_section 69 = .ok (.aload_n 0, 1) := by decide +kernel
theorem dX7_section_70 : decode cX7_section 70 = .ok (.iconst 4, 1) := by decide +kernel
theorem dX7_section_71 : decode cX7_section 71 = .ok (.invokevirtual 158, 3) := by decide +kernel
theorem dX7_section_74 : decode cX7_section 74 = .ok (.ireturn, 1) := by decide +kernel
theorem dX7_section_75 : decode cX7_section 75 = .ok (.aload_n 0, 1) := by decide +kernel
theorem dX7_section_76 : decode cX7_section 76 = .ok (.invokevirtual 168, 3) := by decide +kernel
theorem dX7_section_79 : decode cX7_section 79 = .ok (.aload_n 0, 1) := by decide +kernel
theorem dX7_section_80 : decode cX7_section 80 = .ok (.iload_n 1, 1) := by decide +kernel
theorem dX7_section_81 : decode cX7_section 81 = .ok (.invokevirtual 171, 3) := by decide +kernel
theorem dX7_section_84 : decode cX7_section 84 = .ok (.ireturn, 1) := by decide +kernel
def gX7_section_43 (s : Mem)  : Option (Int32 × Mem) :=
  (fX7_finds s (0 : Int32)).bind (fun y2 => some ((y2.1, y2.2)))
set_option maxRecDepth 4000 in
theorem jgX7_section_43 {X : Scr} (d : Nat) (s : Mem)  {r : (Int32 × Mem)} {w : Option Value} {s' : Mem} (hh : gX7_section_43 s = some r) (hk : w = some (.int r.1) ∧ r.2 = s') : J X MX7_section (d + 9) 43 [some (.ref 19), none, none, none, none, none, none] [] s w s' := by
  unfold gX7_section_43 at hh
  refine J_aload_n (pc := 43) dX7_section_43 rfl ?_
  refine J_iconst (pc := 44) dX7_section_44 ci_0 ?_
  obtain ⟨y2, hy2, hh⟩ := bd_some hh
  refine J_callVi (pc := 45) (M' := MX7_finds) (a := 19) (rest := []) (As := [.int (0 : Int32)]) (L0 := [some (.ref 19), some (.int (0 : Int32))]) okX7_finds ovX7_finds mlX7_158 clX7 so19 rfl rfl (Nat.le_of_ble_eq_true rfl) dX7_section_45 rfl (Nat.le_of_ble_eq_true rfl) (jX7_finds (X := X) (d + 8) s (0 : Int32) hy2) ?_
  obtain rfl := Option.some.inj hh
  obtain ⟨rfl, rfl⟩ := hk
  exact J_ret (w := some (.int y2.1)) ⟨dX7_section_48, _, rfl, rfl⟩
def fX7_section (s : Mem) (p0 : Int32) (p1 : Int32) (p2 : Int32) (p3 : Int32) (p4 : Int32) (p5 : Int32) : Option (Int32 × Mem) :=
  (fX7_isSection p0 p1 p2).bind (fun y1 => if y1 = (0 : Int32) then gX7_section_43 s else (fX7_areHours p3).bind (fun y3 => if y3 = (0 : Int32) then gX7_section_43 s else (fX7_in (p4.toInt64) (0 : Int64) (9 : Int64)).bind (fun y4 => if y4 = (0 : Int32) then gX7_section_43 s else (fX7_in (p5.toInt64) (-1 : Int64) (1 : Int64)).bind (fun y5 => if y5 = (0 : Int32) then gX7_section_43 s else (fX7_laysAside s).bind (fun y6 => (fX7_opens y6 p0 p1 p2 p3 p4 p5).bind (fun y7 => if y7.1 = (0 : Int32) then (fX7_finds y7.2 (4 : Int32)).bind (fun y10 => some ((y10.1, y10.2))) else (fX7_changes y7.2).bind (fun y8 => (fX7_lawful y8 p0).bind (fun y9 => some ((y9, y8))))))))))
set_option maxRecDepth 4000 in
theorem jjX7_section {X : Scr} (d : Nat) (s : Mem) (p0 : Int32) (p1 : Int32) (p2 : Int32) (p3 : Int32) (p4 : Int32) (p5 : Int32) {r : (Int32 × Mem)} {w : Option Value} {s' : Mem} (hh : fX7_section s p0 p1 p2 p3 p4 p5 = some r) (hk : w = some (.int r.1) ∧ r.2 = s') : J X MX7_section (d + 9) 0 [some (.ref 19), some (.int p0), some (.int p1), some (.int p2), some (.int p3), some (.int p4), some (.int p5)] [] s w s' := by
  unfold fX7_section at hh
  refine J_iload_n (pc := 0) dX7_section_0 rfl ?_
  refine J_iload_n (pc := 1) dX7_section_1 rfl ?_
  refine J_iload_n (pc := 2) dX7_section_2 rfl ?_
  obtain ⟨y1, hy1, hh⟩ := bd_some hh
  refine J_callSi (pc := 3) (M' := MX7_isSection) (rest := []) (As := [.int p0, .int p1, .int p2]) (L0 := [some (.int p0), some (.int p1), some (.int p2)]) okX7_isSection osX7_isSection mlX7_148 rfl rfl (Nat.le_of_ble_eq_true rfl) dX7_section_3 rfl (Nat.le_of_ble_eq_true rfl) (jX7_isSection (X := X) (d + 6) s p0 p1 p2 hy1) ?_
  refine J_if_eq (pc := 6) 43 dX7_section_6 (by decide) (fun c15 => ?_) (fun c15 => ?_)
  · replace hh := (if_pos c15).symm.trans hh
    refine J_drop 1 (L' := [some (.ref 19), none, some (.int p1), some (.int p2), some (.int p3), some (.int p4), some (.int p5)]) rfl ?_
    refine J_drop 2 (L' := [some (.ref 19), none, none, some (.int p2), some (.int p3), some (.int p4), some (.int p5)]) rfl ?_
    refine J_drop 3 (L' := [some (.ref 19), none, none, none, some (.int p3), some (.int p4), some (.int p5)]) rfl ?_
    refine J_drop 4 (L' := [some (.ref 19), none, none, none, none, some (.int p4), some (.int p5)]) rfl ?_
    refine J_drop 5 (L' := [some (.ref 19), none, none, none, none, none, some (.int p5)]) rfl ?_
    refine J_drop 6 (L' := [some (.ref 19), none, none, none, none, none, none]) rfl ?_
    exact jgX7_section_43 d s hh hk
  · replace hh := (if_neg c15).symm.trans hh
    refine J_iload (pc := 9) dX7_section_9 rfl ?_
    obtain ⟨y3, hy3, hh⟩ := bd_some hh
    refine J_callSi (pc := 11) (M' := MX7_areHours) (rest := []) (As := [.int p3]) (L0 := [some (.int p3)]) okX7_areHours osX7_areHours mlX7_151 rfl rfl (Nat.le_of_ble_eq_true rfl) dX7_section_11 rfl (Nat.le_of_ble_eq_true rfl) (jX7_areHours (X := X) (d + 7) s p3 hy3) ?_
    refine J_if_eq (pc := 14) 43 dX7_section_14 (by decide) (fun c14 => ?_) (fun c14 => ?_)
    · replace hh := (if_pos c14).symm.trans hh
      refine J_drop 1 (L' := [some (.ref 19), none, some (.int p1), some (.int p2), some (.int p3), some (.int p4), some (.int p5)]) rfl ?_
      refine J_drop 2 (L' := [some (.ref 19), none, none, some (.int p2), some (.int p3), some (.int p4), some (.int p5)]) rfl ?_
      refine J_drop 3 (L' := [some (.ref 19), none, none, none, some (.int p3), some (.int p4), some (.int p5)]) rfl ?_
      refine J_drop 4 (L' := [some (.ref 19), none, none, none, none, some (.int p4), some (.int p5)]) rfl ?_
      refine J_drop 5 (L' := [some (.ref 19), none, none, none, none, none, some (.int p5)]) rfl ?_
      refine J_drop 6 (L' := [some (.ref 19), none, none, none, none, none, none]) rfl ?_
      exact jgX7_section_43 d s hh hk
    · replace hh := (if_neg c14).symm.trans hh
      refine J_iload (pc := 17) dX7_section_17 rfl ?_
      refine J_i2l (pc := 19) dX7_section_19 ?_
      refine J_lconst (pc := 20) (v := 0) dX7_section_20 rfl ?_
      refine J_ldc2 (pc := 21) klX7_154 dX7_section_21 ?_
      obtain ⟨y4, hy4, hh⟩ := bd_some hh
      refine J_callSi (pc := 24) (M' := MX7_in) (rest := []) (As := [.long (p4.toInt64), .long (0 : Int64), .long (9 : Int64)]) (L0 := [some (.long (p4.toInt64)), none, some (.long (0 : Int64)), none, some (.long (9 : Int64)), none]) okX7_in osX7_in mlX7_63 rfl rfl (Nat.le_of_ble_eq_true rfl) dX7_section_24 rfl (Nat.le_of_ble_eq_true rfl) (jX7_in (X := X) (d + 8) s (p4.toInt64) (0 : Int64) (9 : Int64) hy4) ?_
      refine J_if_eq (pc := 27) 43 dX7_section_27 (by decide) (fun c13 => ?_) (fun c13 => ?_)
      · replace hh := (if_pos c13).symm.trans hh
        refine J_drop 1 (L' := [some (.ref 19), none, some (.int p1), some (.int p2), some (.int p3), some (.int p4), some (.int p5)]) rfl ?_
        refine J_drop 2 (L' := [some (.ref 19), none, none, some (.int p2), some (.int p3), some (.int p4), some (.int p5)]) rfl ?_
        refine J_drop 3 (L' := [some (.ref 19), none, none, none, some (.int p3), some (.int p4), some (.int p5)]) rfl ?_
        refine J_drop 4 (L' := [some (.ref 19), none, none, none, none, some (.int p4), some (.int p5)]) rfl ?_
        refine J_drop 5 (L' := [some (.ref 19), none, none, none, none, none, some (.int p5)]) rfl ?_
        refine J_drop 6 (L' := [some (.ref 19), none, none, none, none, none, none]) rfl ?_
        exact jgX7_section_43 d s hh hk
      · replace hh := (if_neg c13).symm.trans hh
        refine J_iload (pc := 30) dX7_section_30 rfl ?_
        refine J_i2l (pc := 32) dX7_section_32 ?_
        refine J_ldc2 (pc := 33) klX7_156 dX7_section_33 ?_
        refine J_lconst (pc := 36) (v := 1) dX7_section_36 rfl ?_
        obtain ⟨y5, hy5, hh⟩ := bd_some hh
        refine J_callSi (pc := 37) (M' := MX7_in) (rest := []) (As := [.long (p5.toInt64), .long (-1 : Int64), .long (1 : Int64)]) (L0 := [some (.long (p5.toInt64)), none, some (.long (-1 : Int64)), none, some (.long (1 : Int64)), none]) okX7_in osX7_in mlX7_63 rfl rfl (Nat.le_of_ble_eq_true rfl) dX7_section_37 rfl (Nat.le_of_ble_eq_true rfl) (jX7_in (X := X) (d + 8) s (p5.toInt64) (-1 : Int64) (1 : Int64) hy5) ?_
        refine J_if_ne (pc := 40) 49 dX7_section_40 (by decide) (fun c12 => ?_) (fun c12 => ?_)
        · replace hh := (if_neg c12).symm.trans hh
          refine J_aload_n (pc := 49) dX7_section_49 rfl ?_
          obtain ⟨y6, hy6, hh⟩ := bd_some hh
          refine J_callV0 (pc := 50) (M' := MX7_laysAside) (a := 19) (rest := []) (As := []) (L0 := [some (.ref 19), none]) okX7_laysAside ovX7_laysAside mlX7_161 clX7 so19 rfl rfl (Nat.le_of_ble_eq_true rfl) dX7_section_50 rfl (Nat.le_of_ble_eq_true rfl) (jX7_laysAside (X := X) (d + 8) s hy6) ?_
          refine J_aload_n (pc := 53) dX7_section_53 rfl ?_
          refine J_iload_n (pc := 54) dX7_section_54 rfl ?_
          refine J_iload_n (pc := 55) dX7_section_55 rfl ?_
          refine J_iload_n (pc := 56) dX7_section_56 rfl ?_
          refine J_iload (pc := 57) dX7_section_57 rfl ?_
          refine J_iload (pc := 59) dX7_section_59 rfl ?_
          refine J_iload (pc := 61) dX7_section_61 rfl ?_
          obtain ⟨y7, hy7, hh⟩ := bd_some hh
          refine J_callVi (pc := 63) (M' := MX7_opens) (a := 19) (rest := []) (As := [.int p0, .int p1, .int p2, .int p3, .int p4, .int p5]) (L0 := [some (.ref 19), some (.int p0), some (.int p1), some (.int p2), some (.int p3), some (.int p4), some (.int p5), none, none, none, none, none]) okX7_opens ovX7_opens mlX7_164 clX7 so19 rfl rfl (Nat.le_of_ble_eq_true rfl) dX7_section_63 rfl (Nat.le_of_ble_eq_true rfl) (jX7_opens (X := X) d y6 p0 p1 p2 p3 p4 p5 hy7) ?_
          refine J_if_ne (pc := 66) 75 dX7_section_66 (by decide) (fun c11 => ?_) (fun c11 => ?_)
          · replace hh := (if_neg c11).symm.trans hh
            refine J_aload_n (pc := 75) dX7_section_75 rfl ?_
            obtain ⟨y8, hy8, hh⟩ := bd_some hh
            refine J_callV0 (pc := 76) (M' := MX7_changes) (a := 19) (rest := []) (As := []) (L0 := [some (.ref 19), none, none]) okX7_changes ovX7_changes mlX7_168 clX7 so19 rfl rfl (Nat.le_of_ble_eq_true rfl) dX7_section_76 rfl (Nat.le_of_ble_eq_true rfl) (jX7_changes (X := X) (d + 8) y7.2 hy8) ?_
            refine J_aload_n (pc := 79) dX7_section_79 rfl ?_
            refine J_iload_n (pc := 80) dX7_section_80 rfl ?_
            obtain ⟨y9, hy9, hh⟩ := bd_some hh
            refine J_callVi (pc := 81) (M' := MX7_lawful) (a := 19) (rest := []) (As := [.int p0]) (L0 := [some (.ref 19), some (.int p0), none, none]) okX7_lawful ovX7_lawful mlX7_171 clX7 so19 rfl rfl (Nat.le_of_ble_eq_true rfl) dX7_section_81 rfl (Nat.le_of_ble_eq_true rfl) (jX7_lawful (X := X) (d + 3) y8 p0 hy9) ?_
            obtain rfl := Option.some.inj hh
            obtain ⟨rfl, rfl⟩ := hk
            exact J_ret (w := some (.int y9)) ⟨dX7_section_84, _, rfl, rfl⟩
          · replace hh := (if_pos c11).symm.trans hh
            refine J_aload_n (pc := 69) dX7_section_69 rfl ?_
            refine J_iconst (pc := 70) dX7_section_70 ci_4 ?_
            obtain ⟨y10, hy10, hh⟩ := bd_some hh
            refine J_callVi (pc := 71) (M' := MX7_finds) (a := 19) (rest := []) (As := [.int (4 : Int32)]) (L0 := [some (.ref 19), some (.int (4 : Int32))]) okX7_finds ovX7_finds mlX7_158 clX7 so19 rfl rfl (Nat.le_of_ble_eq_true rfl) dX7_section_71 rfl (Nat.le_of_ble_eq_true rfl) (jX7_finds (X := X) (d + 8) y7.2 (4 : Int32) hy10) ?_
            obtain rfl := Option.some.inj hh
            obtain ⟨rfl, rfl⟩ := hk
            exact J_ret (w := some (.int y10.1)) ⟨dX7_section_74, _, rfl, rfl⟩
        · replace hh := (if_pos c12).symm.trans hh
          refine J_drop 1 (L' := [some (.ref 19), none, some (.int p1), some (.int p2), some (.int p3), some (.int p4), some (.int p5)]) rfl ?_
          refine J_drop 2 (L' := [some (.ref 19), none, none, some (.int p2), some (.int p3), some (.int p4), some (.int p5)]) rfl ?_
          refine J_drop 3 (L' := [some (.ref 19), none, none, none, some (.int p3), some (.int p4), some (.int p5)]) rfl ?_
          refine J_drop 4 (L' := [some (.ref 19), none, none, none, none, some (.int p4), some (.int p5)]) rfl ?_
          refine J_drop 5 (L' := [some (.ref 19), none, none, none, none, none, some (.int p5)]) rfl ?_
          refine J_drop 6 (L' := [some (.ref 19), none, none, none, none, none, none]) rfl ?_
          exact jgX7_section_43 d s hh hk
theorem jX7_section {X : Scr} (d : Nat) (s : Mem) (p0 : Int32) (p1 : Int32) (p2 : Int32) (p3 : Int32) (p4 : Int32) (p5 : Int32) {r : (Int32 × Mem)} (hh : fX7_section s p0 p1 p2 p3 p4 p5 = some r) : J X MX7_section (d + 9) 0 [some (.ref 19), some (.int p0), some (.int p1), some (.int p2), some (.int p3), some (.int p4), some (.int p5)] [] s (some (.int r.1)) r.2 := jjX7_section d s p0 p1 p2 p3 p4 p5 hh ⟨rfl, rfl⟩
theorem dX7_shut_0 : decode cX7_shut 0 = .ok (.iload_n 1, 1) := by decide +kernel
theorem dX7_shut_1 : decode cX7_shut 1 = .ok (.iload_n 2, 1) := by decide +kernel
theorem dX7_shut_2 : decode cX7_shut 2 = .ok (.iload_n 3, 1) := by decide +kernel
theorem dX7_shut_3 : decode cX7_shut 3 = .ok (.invokestatic 148, 3) := by decide +kernel
theorem dX7_shut_6 : decode cX7_shut 6 = .ok (.ifCond .ne 9, 3) := by decide +kernel
theorem dX7_shut_9 : decode cX7_shut 9 = .ok (.aload_n 0, 1) := by decide +kernel
theorem dX7_shut_10 : decode cX7_shut 10 = .ok (.iconst 0, 1) := by decide +kernel
theorem dX7_shut_11 : decode cX7_shut 11 = .ok (.invokevirtual 158, 3) := by decide +kernel
theorem dX7_shut_14 : decode cX7_shut 14 = .ok (.ireturn, 1) := by decide +kernel
theorem dX7_shut_15 : decode cX7_shut 15 = .ok (.aload_n 0, 1) := by decide +kernel
theorem dX7_shut_16 : decode cX7_shut 16 = .ok (.iload_n 1, 1) := by decide +kernel
theorem dX7_shut_17 : decode cX7_shut 17 = .ok (.iload_n 2, 1) := by decide +kernel
theorem dX7_shut_18 : decode cX7_shut 18 = .ok (.iload_n 3, 1) := by decide +kernel
theorem dX7_shut_19 : decode cX7_shut 19 = .ok (.invokevirtual 77, 3) := by decide +kernel
theorem dX7_shut_22 : decode cX7_shut 22 = .ok (.ifCond .ne 9, 3) := by decide +kernel
theorem dX7_shut_25 : decode cX7_shut 25 = .ok (.aload_n 0, 1) := by decide +kernel
theorem dX7_shut_26 : decode cX7_shut 26 = .ok (.iconst 3, 1) := by decide +kernel
theorem dX7_shut_27 : decode cX7_shut 27 = .ok (.invokevirtual 158, 3) := by decide +kernel
theorem dX7_shut_30 : decode cX7_shut 30 = .ok (.ireturn, 1) := by decide +kernel
theorem dX7_shut_31 : decode cX7_shut 31 = .ok (.aload_n 0, 1) := by decide +kernel
theorem dX7_shut_32 : decode cX7_shut 32 = .ok (.invokevirtual 161, 3) := by decide +kernel
theorem dX7_shut_35 : decode cX7_shut 35 = .ok (.iconst 0, 1) := by decide +kernel
theorem dX7_shut_36 : decode cX7_shut 36 = .ok (.istore 4, 2) := by decide +kernel
theorem dX7_shut_38 : decode cX7_shut 38 = .ok (.iload 4, 2) := by decide +kernel
theorem dX7_shut_40 : decode cX7_shut 40 = .ok (.iconst 4, 1) := by decide +kernel
theorem dX7_shut_41 : decode cX7_shut 41 = .ok (.if_icmp .ge 24, 3) := by decide +kernel
theorem dX7_shut_44 : decode cX7_shut 44 = .ok (.aload_n 0, 1) := by decide +kernel
theorem dX7_shut_45 : decode cX7_shut 45 = .ok (.getfield 9, 3) := by decide +kernel
theorem dX7_shut_48 : decode cX7_shut 48 = .ok (.iload_n 1, 1) := by decide +kernel
theorem dX7_shut_49 : decode cX7_shut 49 = .ok (.iload_n 2, 1) := by decide +kernel
theorem dX7_shut_50 : decode cX7_shut 50 = .ok (.iload_n 3, 1) := by decide +kernel
theorem dX7_shut_51 : decode cX7_shut 51 = .ok (.invokestatic 73, 3) := by decide +kernel
theorem dX7_shut_54 : decode cX7_shut 54 = .ok (.iload 4, 2) := by decide +kernel
theorem dX7_shut_56 : decode cX7_shut 56 = .ok (.iadd, 1) := by decide +kernel
theorem dX7_shut_57 : decode cX7_shut 57 = .ok (.iconst 0, 1) := by decide +kernel
theorem dX7_shut_58 : decode cX7_shut 58 = .ok (.iastore, 1) := by decide +kernel
theorem dX7_shut_59 : decode cX7_shut 59 = .ok (.iinc 4 1, 3) := by decide +kernel
theorem dX7_shut_62 : decode cX7_shut 62 = .ok (.goto (-24), 3) := by decide +kernel
theorem dX7_shut_65 : decode cX7_shut 65 = .ok (.iconst 0, 1) := by decide +kernel
theorem dX7_shut_66 : decode cX7_shut 66 = .ok (.istore 4, 2) := by decide +kernel
theorem dX7_shut_68 : decode cX7_shut 68 = .ok (.iconst 0, 1) := by decide +kernel
theorem dX7_shut_69 : decode cX7_shut 69 = .ok (.istore 5, 2) := by decide +kernel
theorem dX7_shut_71 : decode cX7_shut 71 = .ok (.iload 5, 2) := by decide +kernel
theorem dX7_shut_73 : decode cX7_shut 73 = .ok (.aload_n 0, 1) := by decide +kernel
theorem dX7_shut_74 : decode cX7_shut 74 = .ok (.getfield 9, 3) := by decide +kernel
theorem dX7_shut_77 : decode cX7_shut 77 = .ok (.bipush 96, 2) := by decide +kernel
theorem dX7_shut_79 : decode cX7_shut 79 = .ok (.iaload, 1) := by decide +kernel
theorem dX7_shut_80 : decode cX7_shut 80 = .ok (.if_icmp .ge 48, 3) := by decide +kernel
theorem dX7_shut_83 : decode cX7_shut 83 = .ok (.aload_n 0, 1) := by decide +kernel
theorem dX7_shut_84 : decode cX7_shut 84 = .ok (.iload 5, 2) := by decide +kernel
theorem dX7_shut_86 : decode cX7_shut 86 = .ok (.iload_n 1, 1) := by decide +kernel
theorem dX7_shut_87 : decode cX7_shut 87 = .ok (.invokevirtual 105, 3) := by decide +kernel
theorem dX7_shut_90 : decode cX7_shut 90 = .ok (.ifCond .lt 32, 3) := by decide +kernel
theorem dX7_shut_93 : decode cX7_shut 93 = .ok (.aload_n 0, 1) := by decide +kernel
theorem dX7_shut_94 : decode cX7_shut 94 = .ok (.iload_n 1, 1) := by decide +kernel
theorem dX7_shut_95 : decode cX7_shut 95 = .ok (.aload_n 0, 1) := by decide +kernel
theorem dX7_shut_96 : decode cX7_shut 96 = .ok (.iload 5, 2) := by decide +kernel
theorem dX7_shut_98 : decode cX7_shut 98 = .ok (.iload_n 1, 1) := by decide +kernel
theorem dX7_shut_99 : decode cX7_shut 99 = .ok (.invokevirtual 105, 3) := by decide +kernel
theorem dX7_shut_102 : decode cX7_shut 102 = .ok (.invokevirtual 98, 3) := by decide +kernel
theorem dX7_shut_105 : decode cX7_shut 105 = .ok (.ifCond .eq 6, 3) := by decide +kernel
theorem dX7_shut_108 : decode cX7_shut 108 = .ok (.goto 14, 3) := by decide +kernel
theorem dX7_shut_111 : decode cX7_shut 111 = .ok (.aload_n 0, 1) := by decide +kernel
theorem dX7_shut_112 : decode cX7_shut 112 = .ok (.iload 5, 2) := by decide +kernel
theorem dX7_shut_114 : decode cX7_shut 114 = .ok (.iload_n 1, 1) := by decide +kernel
theorem dX7_shut_115 : decode cX7_shut 115 = .ok (.iconst (-1), 1) := by decide +kernel
theorem dX7_shut_116 : decode cX7_shut 116 = .ok (.invokevirtual 174, 3) := by decide +kernel
theorem dX7_shut_119 : decode cX7_shut 119 = .ok (.iinc 4 1, 3) := by decide +kernel
theorem dX7_shut_122 : decode cX7_shut 122 = .ok (.iinc 5 1, 3) := by decide +kernel
theorem dX7_shut_125 : decode cX7_shut 125 = .ok (.goto (-54), 3) := by decide +kernel
theorem dX7_shut_128 : decode cX7_shut 128 = .ok (.aload_n 0, 1) := by decide +kernel
theorem dX7_shut_129 : decode cX7_shut 129 = .ok (.invokevirtual 168, 3) := by decide +kernel
theorem dX7_shut_132 : decode cX7_shut 132 = .ok (.iload 4, 2) := by decide +kernel
theorem dX7_shut_134 : decode cX7_shut 134 = .ok (.ireturn, 1) := by decide +kernel
def bX7_shut_38 (s : Mem) (v1 : Int32) (v2 : Int32) (v3 : Int32) (v4 : Int32) : Option (Mem ⊕ (Int32 × Mem)) :=
  if (4 : Int32) ≤ v4 then some (Sum.inl s) else (fX7_at v1 v2 v3).bind (fun y4 => gd (y4 + v4) 139 (lt (up2 s 20 (y4 + v4).toNatClampNeg (0 : Int32)) (fun s6 => lt (v4 + (1 : Int32)) (fun x7 => some (Sum.inr (x7, s6))))))
set_option maxRecDepth 4000 in
theorem jbX7_shut_38 {X : Scr} (d : Nat) (s : Mem) (v1 : Int32) (v2 : Int32) (v3 : Int32) (v4 : Int32) {r : (Mem ⊕ (Int32 × Mem))} {w : Option Value} {s' : Mem} (hh : bX7_shut_38 s v1 v2 v3 v4 = some r) (hk : Sum.elim (fun t : Mem => J X MX7_shut (d + 5) 65 [some (.ref 19), some (.int v1), none, none, none, none] [] t w s') (fun a : (Int32 × Mem) => J X MX7_shut (d + 5) 38 [some (.ref 19), some (.int v1), some (.int v2), some (.int v3), some (.int a.1), none] [] a.2 w s') r) : J X MX7_shut (d + 5) 38 [some (.ref 19), some (.int v1), some (.int v2), some (.int v3), some (.int v4), none] [] s w s' := by
  unfold bX7_shut_38 at hh
  refine J_iload (pc := 38) dX7_shut_38 rfl ?_
  refine J_iconst (pc := 40) dX7_shut_40 ci_4 ?_
  refine J_icmp_ge (pc := 41) 65 dX7_shut_41 (by decide) (fun c8 => ?_) (fun c8 => ?_)
  · replace hh := (if_pos c8).symm.trans hh
    refine J_drop 2 (L' := [some (.ref 19), some (.int v1), none, some (.int v3), some (.int v4), none]) rfl ?_
    refine J_drop 3 (L' := [some (.ref 19), some (.int v1), none, none, some (.int v4), none]) rfl ?_
    refine J_drop 4 (L' := [some (.ref 19), some (.int v1), none, none, none, none]) rfl ?_
    obtain rfl := Option.some.inj hh
    exact hk
  · replace hh := (if_neg c8).symm.trans hh
    refine J_aload_n (pc := 44) dX7_shut_44 rfl ?_
    refine J_getR (pc := 45) (k := 0) flX7_9 so19 fk19_0 dX7_shut_45 ?_
    refine J_iload_n (pc := 48) dX7_shut_48 rfl ?_
    refine J_iload_n (pc := 49) dX7_shut_49 rfl ?_
    refine J_iload_n (pc := 50) dX7_shut_50 rfl ?_
    obtain ⟨y4, hy4, hh⟩ := bd_some hh
    refine J_callSi (pc := 51) (M' := MX7_at) (rest := [.ref 20]) (As := [.int v1, .int v2, .int v3]) (L0 := [some (.int v1), some (.int v2), some (.int v3)]) okX7_at osX7_at mlX7_73 rfl rfl (Nat.le_of_ble_eq_true rfl) dX7_shut_51 rfl (Nat.le_of_ble_eq_true rfl) (jX7_at (X := X) (d + 4) s v1 v2 v3 hy4) ?_
    refine J_iload (pc := 54) dX7_shut_54 rfl ?_
    refine J_iadd (pc := 56) dX7_shut_56 ?_
    refine J_iconst (pc := 57) dX7_shut_57 ci_0 ?_
    obtain ⟨h5, hh⟩ := gd_some hh
    refine J_iastL (pc := 58) dX7_shut_58 sa20 h5 hh (fun s6 hh => ?_)
    refine J_iincL (pc := 59) (v := v4 + (1 : Int32)) (fun x7 => [some (.ref 19), some (.int v1), some (.int v2), some (.int v3), some (.int x7), none]) dX7_shut_59 rfl rfl (Nat.le_of_ble_eq_true rfl) (congrArg _ ci_1) (fun _ => rfl) hh (fun x7 hh => ?_)
    refine J_goto (pc := 62) 38 dX7_shut_62 (by decide) ?_
    obtain rfl := Option.some.inj hh
    exact hk
def bX7_shut_71 (s : Mem) (v1 : Int32) (v4 : Int32) (v5 : Int32) : Option ((Int32 × Mem) ⊕ (Int32 × Int32 × Mem)) :=
  gd (96 : Int32) 139 (if (s.1 20 (96 : Int32).toNatClampNeg) ≤ v5 then some (Sum.inl (v4, s)) else (fX7_triple s v5 v1).bind (fun y11 => if y11 < (0 : Int32) then lt (v5 + (1 : Int32)) (fun x12 => some (Sum.inr (v4, x12, s))) else (fX7_triple s v5 v1).bind (fun y13 => (fX7_isLawful s v1 y13).bind (fun y14 => if y14 = (0 : Int32) then (fX7_puts s v5 v1 (-1 : Int32)).bind (fun y15 => lt (v4 + (1 : Int32)) (fun x16 => lt (v5 + (1 : Int32)) (fun x17 => some (Sum.inr (x16, x17, y15))))) else lt (v5 + (1 : Int32)) (fun x18 => some (Sum.inr (v4, x18, s)))))))
set_option maxRecDepth 4000 in
theorem jbX7_shut_71 {X : Scr} (d : Nat) (s : Mem) (v1 : Int32) (v4 : Int32) (v5 : Int32) {r : ((Int32 × Mem) ⊕ (Int32 × Int32 × Mem))} {w : Option Value} {s' : Mem} (hh : bX7_shut_71 s v1 v4 v5 = some r) (hk : Sum.elim (fun t : (Int32 × Mem) => J X MX7_shut (d + 5) 128 [some (.ref 19), none, none, none, some (.int t.1), none] [] t.2 w s') (fun a : (Int32 × Int32 × Mem) => J X MX7_shut (d + 5) 71 [some (.ref 19), some (.int v1), none, none, some (.int a.1), some (.int a.2.1)] [] a.2.2 w s') r) : J X MX7_shut (d + 5) 71 [some (.ref 19), some (.int v1), none, none, some (.int v4), some (.int v5)] [] s w s' := by
  unfold bX7_shut_71 at hh
  refine J_iload (pc := 71) dX7_shut_71 rfl ?_
  refine J_aload_n (pc := 73) dX7_shut_73 rfl ?_
  refine J_getR (pc := 74) (k := 0) flX7_9 so19 fk19_0 dX7_shut_74 ?_
  refine J_bipush (pc := 77) dX7_shut_77 cb_96 ?_
  obtain ⟨h10, hh⟩ := gd_some hh
  refine J_iald (pc := 79) dX7_shut_79 sa20 h10 ?_
  refine J_icmp_ge (pc := 80) 128 dX7_shut_80 (by decide) (fun c21 => ?_) (fun c21 => ?_)
  · replace hh := (if_pos c21).symm.trans hh
    refine J_drop 1 (L' := [some (.ref 19), none, none, none, some (.int v4), some (.int v5)]) rfl ?_
    refine J_drop 5 (L' := [some (.ref 19), none, none, none, some (.int v4), none]) rfl ?_
    obtain rfl := Option.some.inj hh
    exact hk
  · replace hh := (if_neg c21).symm.trans hh
    refine J_aload_n (pc := 83) dX7_shut_83 rfl ?_
    refine J_iload (pc := 84) dX7_shut_84 rfl ?_
    refine J_iload_n (pc := 86) dX7_shut_86 rfl ?_
    obtain ⟨y11, hy11, hh⟩ := bd_some hh
    refine J_callVi (pc := 87) (M' := MX7_triple) (a := 19) (rest := []) (As := [.int v5, .int v1]) (L0 := [some (.ref 19), some (.int v5), some (.int v1)]) okX7_triple ovX7_triple mlX7_105 clX7 so19 rfl rfl (Nat.le_of_ble_eq_true rfl) dX7_shut_87 rfl (Nat.le_of_ble_eq_true rfl) (jX7_triple (X := X) (d + 4) s v5 v1 hy11) ?_
    refine J_if_lt (pc := 90) 122 dX7_shut_90 (by decide) (fun c20 => ?_) (fun c20 => ?_)
    · replace hh := (if_pos c20).symm.trans hh
      refine J_iincL (pc := 122) (v := v5 + (1 : Int32)) (fun x12 => [some (.ref 19), some (.int v1), none, none, some (.int v4), some (.int x12)]) dX7_shut_122 rfl rfl (Nat.le_of_ble_eq_true rfl) (congrArg _ ci_1) (fun _ => rfl) hh (fun x12 hh => ?_)
      refine J_goto (pc := 125) 71 dX7_shut_125 (by decide) ?_
      obtain rfl := Option.some.inj hh
      exact hk
    · replace hh := (if_neg c20).symm.trans hh
      refine J_aload_n (pc := 93) dX7_shut_93 rfl ?_
      refine J_iload_n (pc := 94) dX7_shut_94 rfl ?_
      refine J_aload_n (pc := 95) dX7_shut_95 rfl ?_
      refine J_iload (pc := 96) dX7_shut_96 rfl ?_
      refine J_iload_n (pc := 98) dX7_shut_98 rfl ?_
      obtain ⟨y13, hy13, hh⟩ := bd_some hh
      refine J_callVi (pc := 99) (M' := MX7_triple) (a := 19) (rest := [.int v1, .ref 19]) (As := [.int v5, .int v1]) (L0 := [some (.ref 19), some (.int v5), some (.int v1)]) okX7_triple ovX7_triple mlX7_105 clX7 so19 rfl rfl (Nat.le_of_ble_eq_true rfl) dX7_shut_99 rfl (Nat.le_of_ble_eq_true rfl) (jX7_triple (X := X) (d + 4) s v5 v1 hy13) ?_
      obtain ⟨y14, hy14, hh⟩ := bd_some hh
      refine J_callVi (pc := 102) (M' := MX7_isLawful) (a := 19) (rest := []) (As := [.int v1, .int y13]) (L0 := [some (.ref 19), some (.int v1), some (.int y13), none, none, none]) okX7_isLawful ovX7_isLawful mlX7_98 clX7 so19 rfl rfl (Nat.le_of_ble_eq_true rfl) dX7_shut_102 rfl (Nat.le_of_ble_eq_true rfl) (jX7_isLawful (X := X) d s v1 y13 hy14) ?_
      refine J_if_eq (pc := 105) 111 dX7_shut_105 (by decide) (fun c19 => ?_) (fun c19 => ?_)
      · replace hh := (if_pos c19).symm.trans hh
        refine J_aload_n (pc := 111) dX7_shut_111 rfl ?_
        refine J_iload (pc := 112) dX7_shut_112 rfl ?_
        refine J_iload_n (pc := 114) dX7_shut_114 rfl ?_
        refine J_iconst (pc := 115) dX7_shut_115 ci_m1 ?_
        obtain ⟨y15, hy15, hh⟩ := bd_some hh
        refine J_callV0 (pc := 116) (M' := MX7_puts) (a := 19) (rest := []) (As := [.int v5, .int v1, .int (-1 : Int32)]) (L0 := [some (.ref 19), some (.int v5), some (.int v1), some (.int (-1 : Int32))]) okX7_puts ovX7_puts mlX7_174 clX7 so19 rfl rfl (Nat.le_of_ble_eq_true rfl) dX7_shut_116 rfl (Nat.le_of_ble_eq_true rfl) (jX7_puts (X := X) (d + 4) s v5 v1 (-1 : Int32) hy15) ?_
        refine J_iincL (pc := 119) (v := v4 + (1 : Int32)) (fun x16 => [some (.ref 19), some (.int v1), none, none, some (.int x16), some (.int v5)]) dX7_shut_119 rfl rfl (Nat.le_of_ble_eq_true rfl) (congrArg _ ci_1) (fun _ => rfl) hh (fun x16 hh => ?_)
        refine J_iincL (pc := 122) (v := v5 + (1 : Int32)) (fun x17 => [some (.ref 19), some (.int v1), none, none, some (.int x16), some (.int x17)]) dX7_shut_122 rfl rfl (Nat.le_of_ble_eq_true rfl) (congrArg _ ci_1) (fun _ => rfl) hh (fun x17 hh => ?_)
        refine J_goto (pc := 125) 71 dX7_shut_125 (by decide) ?_
        obtain rfl := Option.some.inj hh
        exact hk
      · replace hh := (if_neg c19).symm.trans hh
        refine J_goto (pc := 108) 122 dX7_shut_108 (by decide) ?_
        refine J_iincL (pc := 122) (v := v5 + (1 : Int32)) (fun x18 => [some (.ref 19), some (.int v1), none, none, some (.int v4), some (.int x18)]) dX7_shut_122 rfl rfl (Nat.le_of_ble_eq_true rfl) (congrArg _ ci_1) (fun _ => rfl) hh (fun x18 hh => ?_)
        refine J_goto (pc := 125) 71 dX7_shut_125 (by decide) ?_
        obtain rfl := Option.some.inj hh
        exact hk
def fX7_shut (s : Mem) (p0 : Int32) (p1 : Int32) (p2 : Int32) : Option (Int32 × Mem) :=
  (fX7_isSection p0 p1 p2).bind (fun y1 => if y1 = (0 : Int32) then (fX7_finds s (0 : Int32)).bind (fun y26 => some ((y26.1, y26.2))) else (fX7_isOpen s p0 p1 p2).bind (fun y2 => if y2 = (0 : Int32) then (fX7_finds s (3 : Int32)).bind (fun y24 => some ((y24.1, y24.2))) else (fX7_laysAside s).bind (fun y3 => (lp (fun a => bX7_shut_38 a.2 p0 p1 p2 a.1) 600 ((0 : Int32), y3)).bind (fun y9 => (lp (fun a => bX7_shut_71 a.2.2 p0 a.1 a.2.1) 600 ((0 : Int32), (0 : Int32), y9)).bind (fun y22 => (fX7_changes y22.2).bind (fun y23 => some ((y22.1, y23))))))))
set_option maxRecDepth 4000 in
theorem jjX7_shut {X : Scr} (d : Nat) (s : Mem) (p0 : Int32) (p1 : Int32) (p2 : Int32) {r : (Int32 × Mem)} {w : Option Value} {s' : Mem} (hh : fX7_shut s p0 p1 p2 = some r) (hk : w = some (.int r.1) ∧ r.2 = s') : J X MX7_shut (d + 5) 0 [some (.ref 19), some (.int p0), some (.int p1), some (.int p2), none, none] [] s w s' := by
  unfold fX7_shut at hh
  refine J_iload_n (pc := 0) dX7_shut_0 rfl ?_
  refine J_iload_n (pc := 1) dX7_shut_1 rfl ?_
  refine J_iload_n (pc := 2) dX7_shut_2 rfl ?_
  obtain ⟨y1, hy1, hh⟩ := bd_some hh
  refine J_callSi (pc := 3) (M' := MX7_isSection) (rest := []) (As := [.int p0, .int p1, .int p2]) (L0 := [some (.int p0), some (.int p1), some (.int p2)]) okX7_isSection osX7_isSection mlX7_148 rfl rfl (Nat.le_of_ble_eq_true rfl) dX7_shut_3 rfl (Nat.le_of_ble_eq_true rfl) (jX7_isSection (X := X) (d + 2) s p0 p1 p2 hy1) ?_
  refine J_if_ne (pc := 6) 15 dX7_shut_6 (by decide) (fun c27 => ?_) (fun c27 => ?_)
  · replace hh := (if_neg c27).symm.trans hh
    refine J_aload_n (pc := 15) dX7_shut_15 rfl ?_
    refine J_iload_n (pc := 16) dX7_shut_16 rfl ?_
    refine J_iload_n (pc := 17) dX7_shut_17 rfl ?_
    refine J_iload_n (pc := 18) dX7_shut_18 rfl ?_
    obtain ⟨y2, hy2, hh⟩ := bd_some hh
    refine J_callVi (pc := 19) (M' := MX7_isOpen) (a := 19) (rest := []) (As := [.int p0, .int p1, .int p2]) (L0 := [some (.ref 19), some (.int p0), some (.int p1), some (.int p2)]) okX7_isOpen ovX7_isOpen mlX7_77 clX7 so19 rfl rfl (Nat.le_of_ble_eq_true rfl) dX7_shut_19 rfl (Nat.le_of_ble_eq_true rfl) (jX7_isOpen (X := X) (d + 3) s p0 p1 p2 hy2) ?_
    refine J_if_ne (pc := 22) 31 dX7_shut_22 (by decide) (fun c25 => ?_) (fun c25 => ?_)
    · replace hh := (if_neg c25).symm.trans hh
      refine J_aload_n (pc := 31) dX7_shut_31 rfl ?_
      obtain ⟨y3, hy3, hh⟩ := bd_some hh
      refine J_callV0 (pc := 32) (M' := MX7_laysAside) (a := 19) (rest := []) (As := []) (L0 := [some (.ref 19), none]) okX7_laysAside ovX7_laysAside mlX7_161 clX7 so19 rfl rfl (Nat.le_of_ble_eq_true rfl) dX7_shut_32 rfl (Nat.le_of_ble_eq_true rfl) (jX7_laysAside (X := X) (d + 4) s hy3) ?_
      refine J_iconst (pc := 35) dX7_shut_35 ci_0 ?_
      refine J_istore (pc := 36) (L' := [some (.ref 19), some (.int p0), some (.int p1), some (.int p2), some (.int (0 : Int32)), none]) dX7_shut_36 rfl (Nat.le_of_ble_eq_true rfl) rfl ?_
      obtain ⟨y9, hy9, hh⟩ := bd_some hh
      refine J_lp (a := ((0 : Int32), y3)) (fun a : (Int32 × Mem) => J X MX7_shut (d + 5) 38 [some (.ref 19), some (.int p0), some (.int p1), some (.int p2), some (.int a.1), none] [] a.2 w s') (fun t : Mem => J X MX7_shut (d + 5) 65 [some (.ref 19), some (.int p0), none, none, none, none] [] t w s') (fun a q h1 h2 => jbX7_shut_38 d a.2 p0 p1 p2 a.1 h1 h2) hy9 ?_
      refine J_iconst (pc := 65) dX7_shut_65 ci_0 ?_
      refine J_istore (pc := 66) (L' := [some (.ref 19), some (.int p0), none, none, some (.int (0 : Int32)), none]) dX7_shut_66 rfl (Nat.le_of_ble_eq_true rfl) rfl ?_
      refine J_iconst (pc := 68) dX7_shut_68 ci_0 ?_
      refine J_istore (pc := 69) (L' := [some (.ref 19), some (.int p0), none, none, some (.int (0 : Int32)), some (.int (0 : Int32))]) dX7_shut_69 rfl (Nat.le_of_ble_eq_true rfl) rfl ?_
      obtain ⟨y22, hy22, hh⟩ := bd_some hh
      refine J_lp (a := ((0 : Int32), (0 : Int32), y9)) (fun a : (Int32 × Int32 × Mem) => J X MX7_shut (d + 5) 71 [some (.ref 19), some (.int p0), none, none, some (.int a.1), some (.int a.2.1)] [] a.2.2 w s') (fun t : (Int32 × Mem) => J X MX7_shut (d + 5) 128 [some (.ref 19), none, none, none, some (.int t.1), none] [] t.2 w s') (fun a q h1 h2 => jbX7_shut_71 d a.2.2 p0 a.1 a.2.1 h1 h2) hy22 ?_
      refine J_aload_n (pc := 128) dX7_shut_128 rfl ?_
      obtain ⟨y23, hy23, hh⟩ := bd_some hh
      refine J_callV0 (pc := 129) (M' := MX7_changes) (a := 19) (rest := []) (As := []) (L0 := [some (.ref 19), none, none]) okX7_changes ovX7_changes mlX7_168 clX7 so19 rfl rfl (Nat.le_of_ble_eq_true rfl) dX7_shut_129 rfl (Nat.le_of_ble_eq_true rfl) (jX7_changes (X := X) (d + 4) y22.2 hy23) ?_
      refine J_iload (pc := 132) dX7_shut_132 rfl ?_
      obtain rfl := Option.some.inj hh
      obtain ⟨rfl, rfl⟩ := hk
      exact J_ret (w := some (.int y22.1)) ⟨dX7_shut_134, _, rfl, rfl⟩
    · replace hh := (if_pos c25).symm.trans hh
      refine J_aload_n (pc := 25) dX7_shut_25 rfl ?_
      refine J_iconst (pc := 26) dX7_shut_26 ci_3 ?_
      obtain ⟨y24, hy24, hh⟩ := bd_some hh
      refine J_callVi (pc := 27) (M' := MX7_finds) (a := 19) (rest := []) (As := [.int (3 : Int32)]) (L0 := [some (.ref 19), some (.int (3 : Int32))]) okX7_finds ovX7_finds mlX7_158 clX7 so19 rfl rfl (Nat.le_of_ble_eq_true rfl) dX7_shut_27 rfl (Nat.le_of_ble_eq_true rfl) (jX7_finds (X := X) (d + 4) s (3 : Int32) hy24) ?_
      obtain rfl := Option.some.inj hh
      obtain ⟨rfl, rfl⟩ := hk
      exact J_ret (w := some (.int y24.1)) ⟨dX7_shut_30, _, rfl, rfl⟩
  · replace hh := (if_pos c27).symm.trans hh
    refine J_aload_n (pc := 9) dX7_shut_9 rfl ?_
    refine J_iconst (pc := 10) dX7_shut_10 ci_0 ?_
    obtain ⟨y26, hy26, hh⟩ := bd_some hh
    refine J_callVi (pc := 11) (M' := MX7_finds) (a := 19) (rest := []) (As := [.int (0 : Int32)]) (L0 := [some (.ref 19), some (.int (0 : Int32))]) okX7_finds ovX7_finds mlX7_158 clX7 so19 rfl rfl (Nat.le_of_ble_eq_true rfl) dX7_shut_11 rfl (Nat.le_of_ble_eq_true rfl) (jX7_finds (X := X) (d + 4) s (0 : Int32) hy26) ?_
    obtain rfl := Option.some.inj hh
    obtain ⟨rfl, rfl⟩ := hk
    exact J_ret (w := some (.int y26.1)) ⟨dX7_shut_14, _, rfl, rfl⟩
theorem jX7_shut {X : Scr} (d : Nat) (s : Mem) (p0 : Int32) (p1 : Int32) (p2 : Int32) {r : (Int32 × Mem)} (hh : fX7_shut s p0 p1 p2 = some r) : J X MX7_shut (d + 5) 0 [some (.ref 19), some (.int p0), some (.int p1), some (.int p2), none, none] [] s (some (.int r.1)) r.2 := jjX7_shut d s p0 p1 p2 hh ⟨rfl, rfl⟩
