/-! the JDK's text methods, over the String constants -/
abbrev statCmp : String × String × String × Value := ("java/lang/String", "COMPACT_STRINGS", "Z", .int 1)
abbrev statFmt : String × String × String × Value := ("jdk/internal/util/Preconditions", "SIOOBE_FORMATTER", "Ljava/util/function/BiFunction;", .retAddr 0)
theorem statCmp_in : statCmp ∈ statL := List.mem_cons_of_mem _ (List.mem_cons_of_mem _ List.mem_cons_self)
theorem statFmt_in : statFmt ∈ statL := List.mem_cons_of_mem _ (List.mem_cons_of_mem _ (List.mem_cons_of_mem _ List.mem_cons_self))
def fT_length (b : Nat) : Option Int32 := (strB[b]?).map (fun l => Int32.ofNat l.length)
def fT_charAt (b : Nat) (i : Int32) : Option Int32 := (strB[b]?).bind (fun l => gd i l.length (some (l.getD i.toNatClampNeg 0)))
theorem strB_len : strB.all (fun l => decide (Int32.ofNat l.length >>> (0 &&& 31 : Int32) = Int32.ofNat l.length) && decide (l.length < 100)) = true := by decide +kernel
theorem strB_chr : strB.all (fun l => l.all (fun x => decide (((x &&& 255).toUInt32 % 65536).toInt32 = x) && decide (narrow .char (.int x) = .int x))) = true := by decide +kernel
theorem jT_coder {X : Scr} (d : Nat) (s : Mem) (b : Nat) {bs : List Int32} (hb : strB[b]? = some bs) : J X MJ0_coder_7d493 d 0 [some (.ref (1000 + b))] [] s (some (.int 0)) s := by
  refine J_gets (pc := 0) (q := statCmp) statCmp_in fsJ0_38 dJ0_coder_7d493_0 ?_
  refine J_if_eq (pc := 3) 13 dJ0_coder_7d493_3 (by decide) (fun c => ?_) (fun _ => ?_)
  · exact absurd c (by decide)
  refine J_aload_n (pc := 6) dJ0_coder_7d493_6 rfl ?_
  refine J_getSc (pc := 7) hb fsJ0_15 dJ0_coder_7d493_7 ?_
  refine J_goto (pc := 10) 14 dJ0_coder_7d493_10 (by decide) ?_
  exact J_ret (w := some (.int 0)) ⟨dJ0_coder_7d493_14, _, rfl, rfl⟩
theorem jT_isLatin1 {X : Scr} (d : Nat) (s : Mem) (b : Nat) {bs : List Int32} (hb : strB[b]? = some bs) : J X MJ0_isLatin1_aae02 d 0 [some (.ref (1000 + b))] [] s (some (.int 1)) s := by
  refine J_gets (pc := 0) (q := statCmp) statCmp_in fsJ0_38 dJ0_isLatin1_aae02_0 ?_
  refine J_if_eq (pc := 3) 17 dJ0_isLatin1_aae02_3 (by decide) (fun c => ?_) (fun _ => ?_)
  · exact absurd c (by decide)
  refine J_aload_n (pc := 6) dJ0_isLatin1_aae02_6 rfl ?_
  refine J_getSc (pc := 7) hb fsJ0_15 dJ0_isLatin1_aae02_7 ?_
  refine J_if_ne (pc := 10) 17 dJ0_isLatin1_aae02_10 (by decide) (fun c => ?_) (fun _ => ?_)
  · exact absurd rfl c
  refine J_iconst (pc := 13) dJ0_isLatin1_aae02_13 ci_1 ?_
  refine J_goto (pc := 14) 18 dJ0_isLatin1_aae02_14 (by decide) ?_
  exact J_ret (w := some (.int 1)) ⟨dJ0_isLatin1_aae02_18, _, rfl, rfl⟩
theorem jT_pre {X : Scr} (d : Nat) (s : Mem) (i n : Int32) (h1 : ¬ i < 0) (h2 : i < n) : J X MJ3_checkIndex_8e157 d 0 [some (.int i), some (.int n), some (.retAddr 0)] [] s (some (.int i)) s := by
  refine J_iload_n (pc := 0) dJ3_checkIndex_8e157_0 rfl ?_
  refine J_if_lt (pc := 1) 9 dJ3_checkIndex_8e157_1 (by decide) (fun c => absurd c h1) (fun _ => ?_)
  refine J_iload_n (pc := 4) dJ3_checkIndex_8e157_4 rfl ?_
  refine J_iload_n (pc := 5) dJ3_checkIndex_8e157_5 rfl ?_
  refine J_icmp_lt (pc := 6) 16 dJ3_checkIndex_8e157_6 (by decide) (fun _ => ?_) (fun c => absurd h2 c)
  refine J_iload_n (pc := 16) dJ3_checkIndex_8e157_16 rfl ?_
  exact J_ret (w := some (.int i)) ⟨dJ3_checkIndex_8e157_17, _, rfl, rfl⟩
theorem jT_chk {X : Scr} (d : Nat) (s : Mem) (i n : Int32) (h1 : ¬ i < 0) (h2 : i < n) : J X MJ0_checkIndex_df160 (d + 1) 0 [some (.int i), some (.int n)] [] s none s := by
  refine J_iload_n (pc := 0) dJ0_checkIndex_df160_0 rfl ?_
  refine J_iload_n (pc := 1) dJ0_checkIndex_df160_1 rfl ?_
  refine J_gets (pc := 2) (q := statFmt) statFmt_in fsJ0_1053 dJ0_checkIndex_df160_2 ?_
  refine J_callSi (pc := 5) (M' := MJ3_checkIndex_8e157) (rest := []) (As := [.int i, .int n, .retAddr 0]) okJ3_checkIndex_8e157 osJ3_checkIndex_8e157 mlJ0_1059 rfl rfl (Nat.le_of_ble_eq_true rfl) dJ0_checkIndex_df160_5 rfl (Nat.le_of_ble_eq_true rfl) (jT_pre d s i n h1 h2) ?_
  refine J_pop (pc := 8) dJ0_checkIndex_df160_8 rfl ?_
  exact J_ret (w := none) ⟨dJ0_checkIndex_df160_9, rfl⟩
theorem jT_latin {X : Scr} (d : Nat) (s : Mem) (b : Nat) (i : Int32) {bs : List Int32} (hb : strB[b]? = some bs) (hi : vp_in i bs.length) : J X MJ1_charAt_3b067 (d + 2) 0 [some (.ref (1500 + b)), some (.int i)] [] s (some (.int (bs.getD i.toNatClampNeg 0))) s := by
  have hm := List.mem_of_getElem? hb
  have hlen := List.all_eq_true.mp strB_len _ hm
  have hchr := List.all_eq_true.mp strB_chr _ hm
  simp only [Bool.and_eq_true, decide_eq_true_eq] at hlen
  have hlt : i.toNatClampNeg < bs.length := Nat.not_le.mp fun q => hi (Or.inr q)
  have h0 : ¬ i < 0 := fun q => hi (Or.inl q)
  obtain ⟨j, hj, rfl⟩ := nI_of h0
  rw [nI_clamp hj] at hlt ⊢
  have hget : bs.getD j 0 ∈ bs := by
    rw [List.getD_eq_getElem?_getD, List.getElem?_eq_getElem hlt]
    exact List.getElem_mem hlt
  have hx := List.all_eq_true.mp hchr _ hget
  simp only [Bool.and_eq_true, decide_eq_true_eq] at hx
  refine J_iload_n (pc := 0) dJ1_charAt_3b067_0 rfl ?_
  refine J_aload_n (pc := 1) dJ1_charAt_3b067_1 rfl ?_
  refine J_slen (pc := 2) dJ1_charAt_3b067_2 hb ?_
  refine J_callS0 (pc := 3) (M' := MJ0_checkIndex_df160) (rest := []) (As := [.int (nI j), .int (Int32.ofNat bs.length)]) okJ0_checkIndex_df160 osJ0_checkIndex_df160 mlJ1_9 rfl rfl (Nat.le_of_ble_eq_true rfl) dJ1_charAt_3b067_3 rfl (Nat.le_of_ble_eq_true rfl) (jT_chk d s (nI j) (Int32.ofNat bs.length) h0 (nI_lt (b := bs.length) hlt (by omega))) ?_
  refine J_aload_n (pc := 6) dJ1_charAt_3b067_6 rfl ?_
  refine J_iload_n (pc := 7) dJ1_charAt_3b067_7 rfl ?_
  refine J_sald (pc := 8) dJ1_charAt_3b067_8 hb hi ?_
  rw [nI_clamp hj]
  refine J_sipush (pc := 9) (v := 255) dJ1_charAt_3b067_9 (by decide +kernel) ?_
  refine J_iand (pc := 12) dJ1_charAt_3b067_12 ?_
  refine J_i2c (pc := 13) dJ1_charAt_3b067_13 ?_
  rw [hx.1]
  exact J_ret (w := some (.int (bs.getD j 0))) ⟨dJ1_charAt_3b067_14, _, rfl, hx.2⟩
theorem jT_length {X : Scr} (d : Nat) (s : Mem) (b : Nat) {r : Int32} (h : fT_length b = some r) : ∃ bs, strB[b]? = some bs ∧ J X MJ0_length_8abf5 (d + 1) 0 [some (.ref (1000 + b))] [] s (some (.int r)) s := by
  unfold fT_length at h
  cases hb : strB[b]? with
  | none => rw [hb] at h; cases h
  | some bs =>
    rw [hb] at h
    cases h
    refine ⟨bs, rfl, ?_⟩
    have hlen := List.all_eq_true.mp strB_len _ (List.mem_of_getElem? hb)
    simp only [Bool.and_eq_true, decide_eq_true_eq] at hlen
    refine J_aload_n (pc := 0) dJ0_length_8abf5_0 rfl ?_
    refine J_getSv (pc := 1) hb fsJ0_9 dJ0_length_8abf5_1 ?_
    refine J_slen (pc := 4) dJ0_length_8abf5_4 hb ?_
    refine J_aload_n (pc := 5) dJ0_length_8abf5_5 rfl ?_
    refine J_callTi (pc := 6) (M' := MJ0_coder_7d493) (rest := [.int (Int32.ofNat bs.length)]) (As := []) okJ0_coder_7d493 ovJ0_coder_7d493 rfl mlJ0_335 hb rfl rfl (Nat.le_of_ble_eq_true rfl) dJ0_length_8abf5_6 rfl (Nat.le_of_ble_eq_true rfl) (jT_coder d s b hb) ?_
    refine J_ishr (pc := 9) dJ0_length_8abf5_9 ?_
    rw [hlen.1]
    exact J_ret (w := some (.int (Int32.ofNat bs.length))) ⟨dJ0_length_8abf5_10, _, rfl, rfl⟩
theorem jT_charAt {X : Scr} (d : Nat) (s : Mem) (b : Nat) (i : Int32) {r : Int32} (h : fT_charAt b i = some r) : ∃ bs, strB[b]? = some bs ∧ J X MJ0_charAt_5068e (d + 4) 0 [some (.ref (1000 + b)), some (.int i)] [] s (some (.int r)) s := by
  obtain ⟨bs, hb, h⟩ := bd_some h
  obtain ⟨hi, h⟩ := gd_some h
  cases h
  refine ⟨bs, hb, ?_⟩
  have hlt : i.toNatClampNeg < bs.length := Nat.not_le.mp fun q => hi (Or.inr q)
  have hchr := List.all_eq_true.mp strB_chr _ (List.mem_of_getElem? hb)
  have hget : bs.getD i.toNatClampNeg 0 ∈ bs := by
    rw [List.getD_eq_getElem?_getD, List.getElem?_eq_getElem hlt]
    exact List.getElem_mem hlt
  have hx := List.all_eq_true.mp hchr _ hget
  simp only [Bool.and_eq_true, decide_eq_true_eq] at hx
  refine J_aload_n (pc := 0) dJ0_charAt_5068e_0 rfl ?_
  refine J_callTi (pc := 1) (M' := MJ0_isLatin1_aae02) (rest := []) (As := []) okJ0_isLatin1_aae02 ovJ0_isLatin1_aae02 rfl mlJ0_492 hb rfl rfl (Nat.le_of_ble_eq_true rfl) dJ0_charAt_5068e_1 rfl (Nat.le_of_ble_eq_true rfl) (jT_isLatin1 (d + 3) s b hb) ?_
  refine J_if_eq (pc := 4) 16 dJ0_charAt_5068e_4 (by decide) (fun c => ?_) (fun _ => ?_)
  · exact absurd c (by decide)
  refine J_aload_n (pc := 7) dJ0_charAt_5068e_7 rfl ?_
  refine J_getSv (pc := 8) hb fsJ0_9 dJ0_charAt_5068e_8 ?_
  refine J_iload_n (pc := 11) dJ0_charAt_5068e_11 rfl ?_
  refine J_callSi (pc := 12) (M' := MJ1_charAt_3b067) (rest := []) (As := [.ref (1500 + b), .int i]) okJ1_charAt_3b067 osJ1_charAt_3b067 mlJ0_495 rfl rfl (Nat.le_of_ble_eq_true rfl) dJ0_charAt_5068e_12 rfl (Nat.le_of_ble_eq_true rfl) (jT_latin (d + 1) s b i hb hi) ?_
  exact J_ret (w := some (.int (bs.getD i.toNatClampNeg 0))) ⟨dJ0_charAt_5068e_15, _, rfl, hx.2⟩
