/-! THE CLAIM OUT OF ONE WALK OF THE LAW'S BODY. Your part is whole_start (and what it stands on); all else here is the same for every law, but numbers. -/
def R_law : String := "SectionOfficeLaw"
def lw_P (b : Addr) (xs : List Int32) (args : Array Value) (s : State) : Prop := args = #[.ref b] ∧ s.IntsAt b xs ∧ xs.length ≤ 3584 ∧ (Jvm.Cond.and given_1 narrow_1).before args s = true
def lw_Q (_ : Array Value) (s : State) (o : Outcome) (t : State) : Prop := o = .returned (some (.int 1)) ∧ Framed s o t [] 600000 7302250
def lw_Z (below : List Frame) (a : Array Value) (s : State) : State → Prop := fun t => ∃ o, t.status = .running ∧ Ended t below o ∧ lw_Q a s o t
/-- the law's own end, with 1 on the stack, nothing written that was there before, its room as the claim has it -/
theorem lw_ret {p : Program} {l : Launch} {e : Env} {s : State} {m : MethodId} {below : List Frame} {meth : Method} {c : Code} {b : Nat} (hx : p.tables.exec = Jvm.exec) (hb : c.code = code) (hr : meth.sig.returnType = ret) (hlocks : meth.locks = false) {pc : Nat} {H : Heap} {ls : Array Slot} (hdg : decode code pc = .ok (.ireturn, 1)) : W p l e room_1 s m #[Value.ref b] below meth c H [] 600000 7302250 (lw_Z below #[Value.ref b] s) (F0 m pc ls [.int 1]) := by
  intro T hT X
  obtain ⟨fs, hret, hrun, hended, hW, hframe⟩ := X.leave (v := some (.int 1)) (hlocks := hlocks) (fun h => by rw [hr] at h; cases h)
  have hmeth' : T.vm.method? m = some meth := X.method'
  refine ⟨T.setFrames fs, ?_, .returned (some (.int 1)), hrun, hended, rfl, ⟨_, rfl⟩, hW, hframe⟩
  jvm_step X.here [X.here.top, hx, hb, hdg, hmeth', hr, ret, narrow_b1]
  (try refine ⟨rfl, ?_⟩); (try refine ⟨rfl, ?_⟩)
  first | (intro acts; rw [hret _ acts rfl rfl rfl]) | rw [hret _ _ rfl rfl rfl]
  exact Steps.refl _
/-- what holds at the law's entry: the machine, the code, the tables' words (any of lw_tbl by 'hts w (by decide +kernel)'), the script of L ints xs at the cell b, what the Statement gives of the start (any of its parts by flat_of_before) -/
def lw_At (p : Program) (s : State) (m : MethodId) (meth : Method) (c : Code) (b L : Nat) (xs : Nat → Int32) : Prop :=
  p.tables.exec = Jvm.exec ∧ c.code = code ∧ meth.sig.returnType = ret ∧ c.maxLocals = 4 ∧ s.vm.findClass R_law = some m.cls ∧ (∀ w ∈ lw_tbl, w.before #[Value.ref b] s = true) ∧ va_X b L xs s s.heap ∧ b < s.heap.size ∧ meth.locks = false ∧ (Jvm.Cond.and given_1 narrow_1).before #[Value.ref b] s = true
theorem nwL_7 : NW RL 7 5 7 [.null, .null, .null, .null, .null, .null, .int 0] := ⟨_, _, tyX6, rfl, uwX6, tyX6_ok, gw_1 16 (by decide +kernel) rfl, gw_1 17 (by decide +kernel) rfl, gw_1 1 (by decide +kernel) rfl, by
  intro j hj
  rcases (show j = 0 ∨ j = 1 ∨ j = 2 ∨ j = 3 ∨ j = 4 ∨ j = 5 ∨ j = 6 by omega) with rfl | rfl | rfl | rfl | rfl | rfl | rfl <;> rfl⟩
theorem nwL_10 : NW RL 10 6 29 [.null, .null, .int 0, .int 0, .int 0, .null, .null, .null, .null, .null, .null, .long 0, .int 0, .int 0, .int 0, .int 0, .int 0, .int 0, .null, .int 0, .int 0, .int 0, .int 0, .int 0, .int 0, .null, .null, .null, .null] := ⟨_, _, tyX7, rfl, uwX7, tyX7_ok, gw_4 202 (by decide +kernel) rfl, gw_4 203 (by decide +kernel) rfl, gw_1 7 (by decide +kernel) rfl, by
  intro j hj
  rcases (show j = 0 ∨ j = 1 ∨ j = 2 ∨ j = 3 ∨ j = 4 ∨ j = 5 ∨ j = 6 ∨ j = 7 ∨ j = 8 ∨ j = 9 ∨ j = 10 ∨ j = 11 ∨ j = 12 ∨ j = 13 ∨ j = 14 ∨ j = 15 ∨ j = 16 ∨ j = 17 ∨ j = 18 ∨ j = 19 ∨ j = 20 ∨ j = 21 ∨ j = 22 ∨ j = 23 ∨ j = 24 ∨ j = 25 ∨ j = 26 ∨ j = 27 ∨ j = 28 by omega) with rfl | rfl | rfl | rfl | rfl | rfl | rfl | rfl | rfl | rfl | rfl | rfl | rfl | rfl | rfl | rfl | rfl | rfl | rfl | rfl | rfl | rfl | rfl | rfl | rfl | rfl | rfl | rfl | rfl <;> rfl⟩
theorem mlLi_9 : Cond.methodLink RL 9 MX6_init.1 ∈ gw := gw_1 18 (by decide +kernel) rfl
theorem mlLi_12 : Cond.methodLink RL 12 MX7_init.1 ∈ gw := gw_4 204 (by decide +kernel) rfl
/-- the first memory -/
def mem0 : Mem := (fun k => if k = 0 then (fun i => if i = 6 then 1 else 0) else if k = 2 then (fun j => if 139 ≤ j then -1 else 0) else if k = 16 then upd (upd (upd (upd (fun _ => 0) 0 (-1)) 1 (-1)) 2 (-1)) 3 (-1) else if k = 19 then (fun i => if i = 4 then 1 else 0) else if k = 29 then upd (upd (upd (upd (fun _ => 0) 0 (-1)) 1 (-1)) 2 (-1)) 3 (-1) else fun _ => 0, fun _ _ => 0)
def adF (LA LB : List Nat) (r2 r12 sK sV : Nat → Nat) (a0 a1 a2 a3 : Nat) : Nat → Nat := fun k => if k < 19 then LA.getD k 0 else if k < 33 then LB.getD (k - 19) 0 else if k < 37 then r12 (k - 33) else if k < 67 then r2 (k - 37) else if k < 1500 then sK (k - 1000) else if k < 2000 then sV (k - 1500) else if k = 2000 then a0 else if k = 2001 then a1 else if k = 2002 then a2 else a3
def posF (k : Nat) : Nat := if k < 33 then k else if k < 37 then k + 30 else k - 4
def wld (cy : Nat → ClassId) (h0 q1 q2 q3 q4 q5 q6 q7 q8 q9 q10 q11 q12 q13 q14 q15 q16 q17 q18 m0 p1 p2 p3 p4 p5 p6 p7 p8 p9 p10 p11 p12 p13 : Nat) (r2 r12 : Nat → Nat) : va_W := ([(h0, .inr (5, [.ref q1, .ref q3, .ref q5, .ref q12, .ref q14, .ref q18, .int (1)])), (q1, .inr (0, [.ref q2])), (q2, .inl (cy 0, 171, .inl (fun j => if 139 ≤ j then -1 else 0))), (q3, .inr (1, [.ref q4, .int 0, .int 0])), (q4, .inl (cy 0, 5301, .inl (fun _ => 0))), (q5, .inr (2, [.ref q6, .ref q7, .ref q8, .ref q9, .ref q10, .ref q11, .int 0, .int 0, .int 0, .int 0, .int 0, .int 0])), (q6, .inl (cy 0, 1596, .inl (fun _ => 0))), (q7, .inl (cy 0, 6, .inl (fun _ => 0))), (q8, .inl (cy 0, 6, .inl (fun _ => 0))), (q9, .inl (cy 0, 6, .inl (fun _ => 0))), (q10, .inl (cy 0, 6, .inl (fun _ => 0))), (q11, .inl (cy 2, 3, .inl (fun _ => 0))), (q12, .inr (4, [.ref q13, .int 0, .int 0, .int 0, .int 0, .int 0, .int 0, .int 0, .int 0, .int 0, .int 0, .int 0, .int 0, .int 0])), (q13, .inl (cy 1, 120, .inl (fun _ => 0))), (q14, .inr (3, [.ref q15, .ref q16, .ref q17])), (q15, .inl (cy 3, 160, .inr (.inl (fun _ => 0)))), (q16, .inl (cy 0, 4, .inl (upd (upd (upd (upd (fun _ => 0) 0 (-1)) 1 (-1)) 2 (-1)) 3 (-1)))), (q17, .inl (cy 0, 4, .inl (fun _ => 0))), (q18, .inl (cy 0, 8, .inl (fun _ => 0)))] ++ ([(m0, .inr (6, [.ref p1, .ref p2, .int 0, .int 0, .int (1), .ref p3, .ref p4, .ref p5, .ref p6, .ref p7, .ref p8, .long 0, .int 0, .int 0, .int 0, .int 0, .int 0, .int 0, .ref p9, .int 0, .int 0, .int 0, .int 0, .int 0, .int 0, .ref p10, .ref p11, .ref p12, .ref p13])), (p1, .inl (cy 0, 139, .inl (fun _ => 0))), (p2, .inl (cy 4, 30, .inr (.inr (.inr (.inr (fun i => if i < 30 then some (r2 i) else none)))))), (p3, .inl (cy 0, 8, .inl (fun _ => 0))), (p4, .inl (cy 0, 139, .inl (fun _ => 0))), (p5, .inl (cy 0, 6, .inl (fun _ => 0))), (p6, .inl (cy 0, 6, .inl (fun _ => 0))), (p7, .inl (cy 0, 6, .inl (fun _ => 0))), (p8, .inl (cy 0, 6, .inl (fun _ => 0))), (p9, .inl (cy 0, 120, .inl (fun _ => 0))), (p10, .inl (cy 0, 4, .inl (upd (upd (upd (upd (fun _ => 0) 0 (-1)) 1 (-1)) 2 (-1)) 3 (-1)))), (p11, .inl (cy 0, 4, .inl (fun _ => 0))), (p12, .inl (cy 5, 4, .inr (.inr (.inr (.inr (fun i => if i < 4 then some (r12 i) else none)))))), (p13, .inl (cy 3, 40, .inr (.inl (fun _ => 0))))] ++ va_pl (([] ++ (List.range 30).map r2) ++ (List.range 4).map r12) (vr_up (vr_up (fun _ => .inl (0, 0, .inl (fun _ => 0))) ((List.range 30).map r2) (.inl (cy 0, 139, .inl (fun _ => 0)))) ((List.range 4).map r12) (.inl (cy 3, 40, .inr (.inl (fun _ => 0)))))))
theorem pool_at {X pl : va_W} {i : Nat} {q : Nat × va_E} (h : pl[i]? = some q) (k : Nat) (hk : k = X.length + i) : (X ++ pl)[k]? = some q := by
  subst hk
  rw [List.getElem?_append_right (Nat.le_add_right _ _), Nat.add_sub_cancel_left]
  exact h
theorem pl_at {L : List Nat} {f : Nat → va_E} {i a : Nat} (h : L[i]? = some a) : (va_pl L f)[i]? = some (a, f a) := by
  unfold va_pl
  rw [List.getElem?_map, h]
  rfl
def poolL (r2 r12 : Nat → Nat) : List Nat := (([] ++ (List.range 30).map r2) ++ (List.range 4).map r12)
def poolF (cy : Nat → ClassId) (r2 r12 : Nat → Nat) : Nat → va_E := (vr_up (vr_up (fun _ => .inl (0, 0, .inl (fun _ => 0))) ((List.range 30).map r2) (.inl (cy 0, 139, .inl (fun _ => 0)))) ((List.range 4).map r12) (.inl (cy 3, 40, .inr (.inl (fun _ => 0)))))
theorem poolL_2 (r2 r12 : Nat → Nat) {j : Nat} (h : j < 30) : (poolL r2 r12)[j]? = some (r2 j) := by
  unfold poolL
  rw [List.nil_append, List.getElem?_append_left (by simp; exact h), List.getElem?_map, List.getElem?_range h]
  rfl
theorem poolL_12 (r2 r12 : Nat → Nat) {j : Nat} (h : j < 4) : (poolL r2 r12)[30 + j]? = some (r12 j) := by
  unfold poolL
  rw [List.nil_append, List.getElem?_append_right (by simp)]
  simp [h]
theorem poolF_12 (cy : Nat → ClassId) (r2 r12 : Nat → Nat) {j : Nat} (h : j < 4) : poolF cy r2 r12 (r12 j) = .inl (cy 3, 40, .inr (.inl (fun _ => 0))) := vr_up_in (List.mem_map.mpr ⟨j, List.mem_range.mpr h, rfl⟩)
theorem poolF_2 (cy : Nat → ClassId) (r2 r12 : Nat → Nat) {j : Nat} (h : j < 30) (hrr : ∀ i j, i < 30 → j < 4 → r2 i ≠ r12 j) : poolF cy r2 r12 (r2 j) = .inl (cy 0, 139, .inl (fun _ => 0)) := by
  unfold poolF
  rw [vr_up_ne (fun q => ?_)]
  · exact vr_up_in (List.mem_map.mpr ⟨j, List.mem_range.mpr h, rfl⟩)
  · obtain ⟨i, h1, h2⟩ := List.mem_map.mp q
    exact hrr j i h (List.mem_range.mp h1) h2.symm
theorem wld_pool (cy : Nat → ClassId) (h0 q1 q2 q3 q4 q5 q6 q7 q8 q9 q10 q11 q12 q13 q14 q15 q16 q17 q18 m0 p1 p2 p3 p4 p5 p6 p7 p8 p9 p10 p11 p12 p13 : Nat) (r2 r12 : Nat → Nat) {i : Nat} {a : Nat} (h : (poolL r2 r12)[i]? = some a) (k : Nat) (hk : k = 33 + i) : (wld cy h0 q1 q2 q3 q4 q5 q6 q7 q8 q9 q10 q11 q12 q13 q14 q15 q16 q17 q18 m0 p1 p2 p3 p4 p5 p6 p7 p8 p9 p10 p11 p12 p13 r2 r12)[k]? = some (a, poolF cy r2 r12 a) := by
  have h1 : (va_pl (poolL r2 r12) (poolF cy r2 r12))[i]? = some (a, poolF cy r2 r12 a) := pl_at h
  unfold wld
  exact pool_at (pool_at h1 (14 + i) rfl) k (by rw [hk]; show 33 + i = 19 + (14 + i); omega)
theorem wld_r12 (cy : Nat → ClassId) (h0 q1 q2 q3 q4 q5 q6 q7 q8 q9 q10 q11 q12 q13 q14 q15 q16 q17 q18 m0 p1 p2 p3 p4 p5 p6 p7 p8 p9 p10 p11 p12 p13 : Nat) (r2 r12 sK sV : Nat → Nat) (a0 a1 a2 a3 j : Nat) (h : j < 4) : (wld cy h0 q1 q2 q3 q4 q5 q6 q7 q8 q9 q10 q11 q12 q13 q14 q15 q16 q17 q18 m0 p1 p2 p3 p4 p5 p6 p7 p8 p9 p10 p11 p12 p13 r2 r12)[posF (33 + j)]? = some (adF [h0, q1, q2, q3, q4, q5, q6, q7, q8, q9, q10, q11, q12, q13, q14, q15, q16, q17, q18] [m0, p1, p2, p3, p4, p5, p6, p7, p8, p9, p10, p11, p12, p13] r2 r12 sK sV a0 a1 a2 a3 (33 + j), we (adF [h0, q1, q2, q3, q4, q5, q6, q7, q8, q9, q10, q11, q12, q13, q14, q15, q16, q17, q18] [m0, p1, p2, p3, p4, p5, p6, p7, p8, p9, p10, p11, p12, p13] r2 r12 sK sV a0 a1 a2 a3) cy mem0 (33 + j) (.inl (3, 40))) := by
  have e1 : posF (33 + j) = 33 + (30 + j) := by unfold posF; rw [if_neg (by omega), if_pos (by omega)]; omega
  have e2 : adF [h0, q1, q2, q3, q4, q5, q6, q7, q8, q9, q10, q11, q12, q13, q14, q15, q16, q17, q18] [m0, p1, p2, p3, p4, p5, p6, p7, p8, p9, p10, p11, p12, p13] r2 r12 sK sV a0 a1 a2 a3 (33 + j) = r12 j := by
    unfold adF
    rw [if_neg (by omega), if_neg (by omega), if_pos (by omega), Nat.add_sub_cancel_left]
  rw [e2, wld_pool cy h0 q1 q2 q3 q4 q5 q6 q7 q8 q9 q10 q11 q12 q13 q14 q15 q16 q17 q18 m0 p1 p2 p3 p4 p5 p6 p7 p8 p9 p10 p11 p12 p13 r2 r12 (poolL_12 r2 r12 h) _ e1, poolF_12 cy r2 r12 h]
  rfl
theorem wld_r2 (cy : Nat → ClassId) (h0 q1 q2 q3 q4 q5 q6 q7 q8 q9 q10 q11 q12 q13 q14 q15 q16 q17 q18 m0 p1 p2 p3 p4 p5 p6 p7 p8 p9 p10 p11 p12 p13 : Nat) (r2 r12 sK sV : Nat → Nat) (a0 a1 a2 a3 : Nat) (hrr : ∀ i j, i < 30 → j < 4 → r2 i ≠ r12 j) (j : Nat) (h : j < 30) : (wld cy h0 q1 q2 q3 q4 q5 q6 q7 q8 q9 q10 q11 q12 q13 q14 q15 q16 q17 q18 m0 p1 p2 p3 p4 p5 p6 p7 p8 p9 p10 p11 p12 p13 r2 r12)[posF (37 + j)]? = some (adF [h0, q1, q2, q3, q4, q5, q6, q7, q8, q9, q10, q11, q12, q13, q14, q15, q16, q17, q18] [m0, p1, p2, p3, p4, p5, p6, p7, p8, p9, p10, p11, p12, p13] r2 r12 sK sV a0 a1 a2 a3 (37 + j), we (adF [h0, q1, q2, q3, q4, q5, q6, q7, q8, q9, q10, q11, q12, q13, q14, q15, q16, q17, q18] [m0, p1, p2, p3, p4, p5, p6, p7, p8, p9, p10, p11, p12, p13] r2 r12 sK sV a0 a1 a2 a3) cy mem0 (37 + j) (.inl (0, 139))) := by
  have e1 : posF (37 + j) = 33 + j := by unfold posF; rw [if_neg (by omega), if_neg (by omega)]; omega
  have e2 : adF [h0, q1, q2, q3, q4, q5, q6, q7, q8, q9, q10, q11, q12, q13, q14, q15, q16, q17, q18] [m0, p1, p2, p3, p4, p5, p6, p7, p8, p9, p10, p11, p12, p13] r2 r12 sK sV a0 a1 a2 a3 (37 + j) = r2 j := by
    unfold adF
    rw [if_neg (by omega), if_neg (by omega), if_neg (by omega), if_pos (by omega), Nat.add_sub_cancel_left]
  have e3 : mem0.1 (37 + j) = fun _ => 0 := by
    unfold mem0
    show (if 37 + j = 0 then _ else _) = _
    rw [if_neg (by omega), if_neg (by omega), if_neg (by omega), if_neg (by omega), if_neg (by omega)]
  rw [e2, wld_pool cy h0 q1 q2 q3 q4 q5 q6 q7 q8 q9 q10 q11 q12 q13 q14 q15 q16 q17 q18 m0 p1 p2 p3 p4 p5 p6 p7 p8 p9 p10 p11 p12 p13 r2 r12 (poolL_2 r2 r12 h) _ e1, poolF_2 cy r2 r12 h hrr, we_i (by decide), e3]
theorem adk0 (h0 q1 q2 q3 q4 q5 q6 q7 q8 q9 q10 q11 q12 q13 q14 q15 q16 q17 q18 m0 p1 p2 p3 p4 p5 p6 p7 p8 p9 p10 p11 p12 p13 : Nat) (r2 r12 sK sV : Nat → Nat) (a0 a1 a2 a3 : Nat) : adF [h0, q1, q2, q3, q4, q5, q6, q7, q8, q9, q10, q11, q12, q13, q14, q15, q16, q17, q18] [m0, p1, p2, p3, p4, p5, p6, p7, p8, p9, p10, p11, p12, p13] r2 r12 sK sV a0 a1 a2 a3 0 = h0 := rfl
theorem adk1 (h0 q1 q2 q3 q4 q5 q6 q7 q8 q9 q10 q11 q12 q13 q14 q15 q16 q17 q18 m0 p1 p2 p3 p4 p5 p6 p7 p8 p9 p10 p11 p12 p13 : Nat) (r2 r12 sK sV : Nat → Nat) (a0 a1 a2 a3 : Nat) : adF [h0, q1, q2, q3, q4, q5, q6, q7, q8, q9, q10, q11, q12, q13, q14, q15, q16, q17, q18] [m0, p1, p2, p3, p4, p5, p6, p7, p8, p9, p10, p11, p12, p13] r2 r12 sK sV a0 a1 a2 a3 1 = q1 := rfl
theorem adk2 (h0 q1 q2 q3 q4 q5 q6 q7 q8 q9 q10 q11 q12 q13 q14 q15 q16 q17 q18 m0 p1 p2 p3 p4 p5 p6 p7 p8 p9 p10 p11 p12 p13 : Nat) (r2 r12 sK sV : Nat → Nat) (a0 a1 a2 a3 : Nat) : adF [h0, q1, q2, q3, q4, q5, q6, q7, q8, q9, q10, q11, q12, q13, q14, q15, q16, q17, q18] [m0, p1, p2, p3, p4, p5, p6, p7, p8, p9, p10, p11, p12, p13] r2 r12 sK sV a0 a1 a2 a3 2 = q2 := rfl
theorem adk3 (h0 q1 q2 q3 q4 q5 q6 q7 q8 q9 q10 q11 q12 q13 q14 q15 q16 q17 q18 m0 p1 p2 p3 p4 p5 p6 p7 p8 p9 p10 p11 p12 p13 : Nat) (r2 r12 sK sV : Nat → Nat) (a0 a1 a2 a3 : Nat) : adF [h0, q1, q2, q3, q4, q5, q6, q7, q8, q9, q10, q11, q12, q13, q14, q15, q16, q17, q18] [m0, p1, p2, p3, p4, p5, p6, p7, p8, p9, p10, p11, p12, p13] r2 r12 sK sV a0 a1 a2 a3 3 = q3 := rfl
theorem adk4 (h0 q1 q2 q3 q4 q5 q6 q7 q8 q9 q10 q11 q12 q13 q14 q15 q16 q17 q18 m0 p1 p2 p3 p4 p5 p6 p7 p8 p9 p10 p11 p12 p13 : Nat) (r2 r12 sK sV : Nat → Nat) (a0 a1 a2 a3 : Nat) : adF [h0, q1, q2, q3, q4, q5, q6, q7, q8, q9, q10, q11, q12, q13, q14, q15, q16, q17, q18] [m0, p1, p2, p3, p4, p5, p6, p7, p8, p9, p10, p11, p12, p13] r2 r12 sK sV a0 a1 a2 a3 4 = q4 := rfl
theorem adk5 (h0 q1 q2 q3 q4 q5 q6 q7 q8 q9 q10 q11 q12 q13 q14 q15 q16 q17 q18 m0 p1 p2 p3 p4 p5 p6 p7 p8 p9 p10 p11 p12 p13 : Nat) (r2 r12 sK sV : Nat → Nat) (a0 a1 a2 a3 : Nat) : adF [h0, q1, q2, q3, q4, q5, q6, q7, q8, q9, q10, q11, q12, q13, q14, q15, q16, q17, q18] [m0, p1, p2, p3, p4, p5, p6, p7, p8, p9, p10, p11, p12, p13] r2 r12 sK sV a0 a1 a2 a3 5 = q5 := rfl
theorem adk6 (h0 q1 q2 q3 q4 q5 q6 q7 q8 q9 q10 q11 q12 q13 q14 q15 q16 q17 q18 m0 p1 p2 p3 p4 p5 p6 p7 p8 p9 p10 p11 p12 p13 : Nat) (r2 r12 sK sV : Nat → Nat) (a0 a1 a2 a3 : Nat) : adF [h0, q1, q2, q3, q4, q5, q6, q7, q8, q9, q10, q11, q12, q13, q14, q15, q16, q17, q18] [m0, p1, p2, p3, p4, p5, p6, p7, p8, p9, p10, p11, p12, p13] r2 r12 sK sV a0 a1 a2 a3 6 = q6 := rfl
theorem adk7 (h0 q1 q2 q3 q4 q5 q6 q7 q8 q9 q10 q11 q12 q13 q14 q15 q16 q17 q18 m0 p1 p2 p3 p4 p5 p6 p7 p8 p9 p10 p11 p12 p13 : Nat) (r2 r12 sK sV : Nat → Nat) (a0 a1 a2 a3 : Nat) : adF [h0, q1, q2, q3, q4, q5, q6, q7, q8, q9, q10, q11, q12, q13, q14, q15, q16, q17, q18] [m0, p1, p2, p3, p4, p5, p6, p7, p8, p9, p10, p11, p12, p13] r2 r12 sK sV a0 a1 a2 a3 7 = q7 := rfl
theorem adk8 (h0 q1 q2 q3 q4 q5 q6 q7 q8 q9 q10 q11 q12 q13 q14 q15 q16 q17 q18 m0 p1 p2 p3 p4 p5 p6 p7 p8 p9 p10 p11 p12 p13 : Nat) (r2 r12 sK sV : Nat → Nat) (a0 a1 a2 a3 : Nat) : adF [h0, q1, q2, q3, q4, q5, q6, q7, q8, q9, q10, q11, q12, q13, q14, q15, q16, q17, q18] [m0, p1, p2, p3, p4, p5, p6, p7, p8, p9, p10, p11, p12, p13] r2 r12 sK sV a0 a1 a2 a3 8 = q8 := rfl
theorem adk9 (h0 q1 q2 q3 q4 q5 q6 q7 q8 q9 q10 q11 q12 q13 q14 q15 q16 q17 q18 m0 p1 p2 p3 p4 p5 p6 p7 p8 p9 p10 p11 p12 p13 : Nat) (r2 r12 sK sV : Nat → Nat) (a0 a1 a2 a3 : Nat) : adF [h0, q1, q2, q3, q4, q5, q6, q7, q8, q9, q10, q11, q12, q13, q14, q15, q16, q17, q18] [m0, p1, p2, p3, p4, p5, p6, p7, p8, p9, p10, p11, p12, p13] r2 r12 sK sV a0 a1 a2 a3 9 = q9 := rfl
theorem adk10 (h0 q1 q2 q3 q4 q5 q6 q7 q8 q9 q10 q11 q12 q13 q14 q15 q16 q17 q18 m0 p1 p2 p3 p4 p5 p6 p7 p8 p9 p10 p11 p12 p13 : Nat) (r2 r12 sK sV : Nat → Nat) (a0 a1 a2 a3 : Nat) : adF [h0, q1, q2, q3, q4, q5, q6, q7, q8, q9, q10, q11, q12, q13, q14, q15, q16, q17, q18] [m0, p1, p2, p3, p4, p5, p6, p7, p8, p9, p10, p11, p12, p13] r2 r12 sK sV a0 a1 a2 a3 10 = q10 := rfl
theorem adk11 (h0 q1 q2 q3 q4 q5 q6 q7 q8 q9 q10 q11 q12 q13 q14 q15 q16 q17 q18 m0 p1 p2 p3 p4 p5 p6 p7 p8 p9 p10 p11 p12 p13 : Nat) (r2 r12 sK sV : Nat → Nat) (a0 a1 a2 a3 : Nat) : adF [h0, q1, q2, q3, q4, q5, q6, q7, q8, q9, q10, q11, q12, q13, q14, q15, q16, q17, q18] [m0, p1, p2, p3, p4, p5, p6, p7, p8, p9, p10, p11, p12, p13] r2 r12 sK sV a0 a1 a2 a3 11 = q11 := rfl
theorem adk12 (h0 q1 q2 q3 q4 q5 q6 q7 q8 q9 q10 q11 q12 q13 q14 q15 q16 q17 q18 m0 p1 p2 p3 p4 p5 p6 p7 p8 p9 p10 p11 p12 p13 : Nat) (r2 r12 sK sV : Nat → Nat) (a0 a1 a2 a3 : Nat) : adF [h0, q1, q2, q3, q4, q5, q6, q7, q8, q9, q10, q11, q12, q13, q14, q15, q16, q17, q18] [m0, p1, p2, p3, p4, p5, p6, p7, p8, p9, p10, p11, p12, p13] r2 r12 sK sV a0 a1 a2 a3 12 = q12 := rfl
theorem adk13 (h0 q1 q2 q3 q4 q5 q6 q7 q8 q9 q10 q11 q12 q13 q14 q15 q16 q17 q18 m0 p1 p2 p3 p4 p5 p6 p7 p8 p9 p10 p11 p12 p13 : Nat) (r2 r12 sK sV : Nat → Nat) (a0 a1 a2 a3 : Nat) : adF [h0, q1, q2, q3, q4, q5, q6, q7, q8, q9, q10, q11, q12, q13, q14, q15, q16, q17, q18] [m0, p1, p2, p3, p4, p5, p6, p7, p8, p9, p10, p11, p12, p13] r2 r12 sK sV a0 a1 a2 a3 13 = q13 := rfl
theorem adk14 (h0 q1 q2 q3 q4 q5 q6 q7 q8 q9 q10 q11 q12 q13 q14 q15 q16 q17 q18 m0 p1 p2 p3 p4 p5 p6 p7 p8 p9 p10 p11 p12 p13 : Nat) (r2 r12 sK sV : Nat → Nat) (a0 a1 a2 a3 : Nat) : adF [h0, q1, q2, q3, q4, q5, q6, q7, q8, q9, q10, q11, q12, q13, q14, q15, q16, q17, q18] [m0, p1, p2, p3, p4, p5, p6, p7, p8, p9, p10, p11, p12, p13] r2 r12 sK sV a0 a1 a2 a3 14 = q14 := rfl
theorem adk15 (h0 q1 q2 q3 q4 q5 q6 q7 q8 q9 q10 q11 q12 q13 q14 q15 q16 q17 q18 m0 p1 p2 p3 p4 p5 p6 p7 p8 p9 p10 p11 p12 p13 : Nat) (r2 r12 sK sV : Nat → Nat) (a0 a1 a2 a3 : Nat) : adF [h0, q1, q2, q3, q4, q5, q6, q7, q8, q9, q10, q11, q12, q13, q14, q15, q16, q17, q18] [m0, p1, p2, p3, p4, p5, p6, p7, p8, p9, p10, p11, p12, p13] r2 r12 sK sV a0 a1 a2 a3 15 = q15 := rfl
theorem adk16 (h0 q1 q2 q3 q4 q5 q6 q7 q8 q9 q10 q11 q12 q13 q14 q15 q16 q17 q18 m0 p1 p2 p3 p4 p5 p6 p7 p8 p9 p10 p11 p12 p13 : Nat) (r2 r12 sK sV : Nat → Nat) (a0 a1 a2 a3 : Nat) : adF [h0, q1, q2, q3, q4, q5, q6, q7, q8, q9, q10, q11, q12, q13, q14, q15, q16, q17, q18] [m0, p1, p2, p3, p4, p5, p6, p7, p8, p9, p10, p11, p12, p13] r2 r12 sK sV a0 a1 a2 a3 16 = q16 := rfl
theorem adk17 (h0 q1 q2 q3 q4 q5 q6 q7 q8 q9 q10 q11 q12 q13 q14 q15 q16 q17 q18 m0 p1 p2 p3 p4 p5 p6 p7 p8 p9 p10 p11 p12 p13 : Nat) (r2 r12 sK sV : Nat → Nat) (a0 a1 a2 a3 : Nat) : adF [h0, q1, q2, q3, q4, q5, q6, q7, q8, q9, q10, q11, q12, q13, q14, q15, q16, q17, q18] [m0, p1, p2, p3, p4, p5, p6, p7, p8, p9, p10, p11, p12, p13] r2 r12 sK sV a0 a1 a2 a3 17 = q17 := rfl
theorem adk18 (h0 q1 q2 q3 q4 q5 q6 q7 q8 q9 q10 q11 q12 q13 q14 q15 q16 q17 q18 m0 p1 p2 p3 p4 p5 p6 p7 p8 p9 p10 p11 p12 p13 : Nat) (r2 r12 sK sV : Nat → Nat) (a0 a1 a2 a3 : Nat) : adF [h0, q1, q2, q3, q4, q5, q6, q7, q8, q9, q10, q11, q12, q13, q14, q15, q16, q17, q18] [m0, p1, p2, p3, p4, p5, p6, p7, p8, p9, p10, p11, p12, p13] r2 r12 sK sV a0 a1 a2 a3 18 = q18 := rfl
theorem adk19 (h0 q1 q2 q3 q4 q5 q6 q7 q8 q9 q10 q11 q12 q13 q14 q15 q16 q17 q18 m0 p1 p2 p3 p4 p5 p6 p7 p8 p9 p10 p11 p12 p13 : Nat) (r2 r12 sK sV : Nat → Nat) (a0 a1 a2 a3 : Nat) : adF [h0, q1, q2, q3, q4, q5, q6, q7, q8, q9, q10, q11, q12, q13, q14, q15, q16, q17, q18] [m0, p1, p2, p3, p4, p5, p6, p7, p8, p9, p10, p11, p12, p13] r2 r12 sK sV a0 a1 a2 a3 19 = m0 := rfl
theorem adk20 (h0 q1 q2 q3 q4 q5 q6 q7 q8 q9 q10 q11 q12 q13 q14 q15 q16 q17 q18 m0 p1 p2 p3 p4 p5 p6 p7 p8 p9 p10 p11 p12 p13 : Nat) (r2 r12 sK sV : Nat → Nat) (a0 a1 a2 a3 : Nat) : adF [h0, q1, q2, q3, q4, q5, q6, q7, q8, q9, q10, q11, q12, q13, q14, q15, q16, q17, q18] [m0, p1, p2, p3, p4, p5, p6, p7, p8, p9, p10, p11, p12, p13] r2 r12 sK sV a0 a1 a2 a3 20 = p1 := rfl
theorem adk21 (h0 q1 q2 q3 q4 q5 q6 q7 q8 q9 q10 q11 q12 q13 q14 q15 q16 q17 q18 m0 p1 p2 p3 p4 p5 p6 p7 p8 p9 p10 p11 p12 p13 : Nat) (r2 r12 sK sV : Nat → Nat) (a0 a1 a2 a3 : Nat) : adF [h0, q1, q2, q3, q4, q5, q6, q7, q8, q9, q10, q11, q12, q13, q14, q15, q16, q17, q18] [m0, p1, p2, p3, p4, p5, p6, p7, p8, p9, p10, p11, p12, p13] r2 r12 sK sV a0 a1 a2 a3 21 = p2 := rfl
theorem adk22 (h0 q1 q2 q3 q4 q5 q6 q7 q8 q9 q10 q11 q12 q13 q14 q15 q16 q17 q18 m0 p1 p2 p3 p4 p5 p6 p7 p8 p9 p10 p11 p12 p13 : Nat) (r2 r12 sK sV : Nat → Nat) (a0 a1 a2 a3 : Nat) : adF [h0, q1, q2, q3, q4, q5, q6, q7, q8, q9, q10, q11, q12, q13, q14, q15, q16, q17, q18] [m0, p1, p2, p3, p4, p5, p6, p7, p8, p9, p10, p11, p12, p13] r2 r12 sK sV a0 a1 a2 a3 22 = p3 := rfl
theorem adk23 (h0 q1 q2 q3 q4 q5 q6 q7 q8 q9 q10 q11 q12 q13 q14 q15 q16 q17 q18 m0 p1 p2 p3 p4 p5 p6 p7 p8 p9 p10 p11 p12 p13 : Nat) (r2 r12 sK sV : Nat → Nat) (a0 a1 a2 a3 : Nat) : adF [h0, q1, q2, q3, q4, q5, q6, q7, q8, q9, q10, q11, q12, q13, q14, q15, q16, q17, q18] [m0, p1, p2, p3, p4, p5, p6, p7, p8, p9, p10, p11, p12, p13] r2 r12 sK sV a0 a1 a2 a3 23 = p4 := rfl
theorem adk24 (h0 q1 q2 q3 q4 q5 q6 q7 q8 q9 q10 q11 q12 q13 q14 q15 q16 q17 q18 m0 p1 p2 p3 p4 p5 p6 p7 p8 p9 p10 p11 p12 p13 : Nat) (r2 r12 sK sV : Nat → Nat) (a0 a1 a2 a3 : Nat) : adF [h0, q1, q2, q3, q4, q5, q6, q7, q8, q9, q10, q11, q12, q13, q14, q15, q16, q17, q18] [m0, p1, p2, p3, p4, p5, p6, p7, p8, p9, p10, p11, p12, p13] r2 r12 sK sV a0 a1 a2 a3 24 = p5 := rfl
theorem adk25 (h0 q1 q2 q3 q4 q5 q6 q7 q8 q9 q10 q11 q12 q13 q14 q15 q16 q17 q18 m0 p1 p2 p3 p4 p5 p6 p7 p8 p9 p10 p11 p12 p13 : Nat) (r2 r12 sK sV : Nat → Nat) (a0 a1 a2 a3 : Nat) : adF [h0, q1, q2, q3, q4, q5, q6, q7, q8, q9, q10, q11, q12, q13, q14, q15, q16, q17, q18] [m0, p1, p2, p3, p4, p5, p6, p7, p8, p9, p10, p11, p12, p13] r2 r12 sK sV a0 a1 a2 a3 25 = p6 := rfl
theorem adk26 (h0 q1 q2 q3 q4 q5 q6 q7 q8 q9 q10 q11 q12 q13 q14 q15 q16 q17 q18 m0 p1 p2 p3 p4 p5 p6 p7 p8 p9 p10 p11 p12 p13 : Nat) (r2 r12 sK sV : Nat → Nat) (a0 a1 a2 a3 : Nat) : adF [h0, q1, q2, q3, q4, q5, q6, q7, q8, q9, q10, q11, q12, q13, q14, q15, q16, q17, q18] [m0, p1, p2, p3, p4, p5, p6, p7, p8, p9, p10, p11, p12, p13] r2 r12 sK sV a0 a1 a2 a3 26 = p7 := rfl
theorem adk27 (h0 q1 q2 q3 q4 q5 q6 q7 q8 q9 q10 q11 q12 q13 q14 q15 q16 q17 q18 m0 p1 p2 p3 p4 p5 p6 p7 p8 p9 p10 p11 p12 p13 : Nat) (r2 r12 sK sV : Nat → Nat) (a0 a1 a2 a3 : Nat) : adF [h0, q1, q2, q3, q4, q5, q6, q7, q8, q9, q10, q11, q12, q13, q14, q15, q16, q17, q18] [m0, p1, p2, p3, p4, p5, p6, p7, p8, p9, p10, p11, p12, p13] r2 r12 sK sV a0 a1 a2 a3 27 = p8 := rfl
theorem adk28 (h0 q1 q2 q3 q4 q5 q6 q7 q8 q9 q10 q11 q12 q13 q14 q15 q16 q17 q18 m0 p1 p2 p3 p4 p5 p6 p7 p8 p9 p10 p11 p12 p13 : Nat) (r2 r12 sK sV : Nat → Nat) (a0 a1 a2 a3 : Nat) : adF [h0, q1, q2, q3, q4, q5, q6, q7, q8, q9, q10, q11, q12, q13, q14, q15, q16, q17, q18] [m0, p1, p2, p3, p4, p5, p6, p7, p8, p9, p10, p11, p12, p13] r2 r12 sK sV a0 a1 a2 a3 28 = p9 := rfl
theorem adk29 (h0 q1 q2 q3 q4 q5 q6 q7 q8 q9 q10 q11 q12 q13 q14 q15 q16 q17 q18 m0 p1 p2 p3 p4 p5 p6 p7 p8 p9 p10 p11 p12 p13 : Nat) (r2 r12 sK sV : Nat → Nat) (a0 a1 a2 a3 : Nat) : adF [h0, q1, q2, q3, q4, q5, q6, q7, q8, q9, q10, q11, q12, q13, q14, q15, q16, q17, q18] [m0, p1, p2, p3, p4, p5, p6, p7, p8, p9, p10, p11, p12, p13] r2 r12 sK sV a0 a1 a2 a3 29 = p10 := rfl
theorem adk30 (h0 q1 q2 q3 q4 q5 q6 q7 q8 q9 q10 q11 q12 q13 q14 q15 q16 q17 q18 m0 p1 p2 p3 p4 p5 p6 p7 p8 p9 p10 p11 p12 p13 : Nat) (r2 r12 sK sV : Nat → Nat) (a0 a1 a2 a3 : Nat) : adF [h0, q1, q2, q3, q4, q5, q6, q7, q8, q9, q10, q11, q12, q13, q14, q15, q16, q17, q18] [m0, p1, p2, p3, p4, p5, p6, p7, p8, p9, p10, p11, p12, p13] r2 r12 sK sV a0 a1 a2 a3 30 = p11 := rfl
theorem adk31 (h0 q1 q2 q3 q4 q5 q6 q7 q8 q9 q10 q11 q12 q13 q14 q15 q16 q17 q18 m0 p1 p2 p3 p4 p5 p6 p7 p8 p9 p10 p11 p12 p13 : Nat) (r2 r12 sK sV : Nat → Nat) (a0 a1 a2 a3 : Nat) : adF [h0, q1, q2, q3, q4, q5, q6, q7, q8, q9, q10, q11, q12, q13, q14, q15, q16, q17, q18] [m0, p1, p2, p3, p4, p5, p6, p7, p8, p9, p10, p11, p12, p13] r2 r12 sK sV a0 a1 a2 a3 31 = p12 := rfl
theorem adk32 (h0 q1 q2 q3 q4 q5 q6 q7 q8 q9 q10 q11 q12 q13 q14 q15 q16 q17 q18 m0 p1 p2 p3 p4 p5 p6 p7 p8 p9 p10 p11 p12 p13 : Nat) (r2 r12 sK sV : Nat → Nat) (a0 a1 a2 a3 : Nat) : adF [h0, q1, q2, q3, q4, q5, q6, q7, q8, q9, q10, q11, q12, q13, q14, q15, q16, q17, q18] [m0, p1, p2, p3, p4, p5, p6, p7, p8, p9, p10, p11, p12, p13] r2 r12 sK sV a0 a1 a2 a3 32 = p13 := rfl
theorem weo0 (ad : Nat → Nat) (cy : Nat → ClassId) (σ : Mem) : we ad cy σ 0 (.inr (.inl (5, fk0))) = .inr (5, [.ref (ad 1), .ref (ad 3), .ref (ad 5), .ref (ad 12), .ref (ad 14), .ref (ad 18), .int (σ.1 0 6)]) := rfl
theorem m0_0_6 : mem0.1 0 6 = 1 := rfl
theorem weo1 (ad : Nat → Nat) (cy : Nat → ClassId) (σ : Mem) : we ad cy σ 1 (.inr (.inl (0, fk1))) = .inr (0, [.ref (ad 2)]) := rfl
theorem weo3 (ad : Nat → Nat) (cy : Nat → ClassId) (σ : Mem) : we ad cy σ 3 (.inr (.inl (1, fk3))) = .inr (1, [.ref (ad 4), .int (σ.1 3 1), .int (σ.1 3 2)]) := rfl
theorem m0_3_1 : mem0.1 3 1 = 0 := rfl
theorem m0_3_2 : mem0.1 3 2 = 0 := rfl
theorem weo5 (ad : Nat → Nat) (cy : Nat → ClassId) (σ : Mem) : we ad cy σ 5 (.inr (.inl (2, fk5))) = .inr (2, [.ref (ad 6), .ref (ad 7), .ref (ad 8), .ref (ad 9), .ref (ad 10), .ref (ad 11), .int (σ.1 5 6), .int (σ.1 5 7), .int (σ.1 5 8), .int (σ.1 5 9), .int (σ.1 5 10), .int (σ.1 5 11)]) := rfl
theorem m0_5_6 : mem0.1 5 6 = 0 := rfl
theorem m0_5_7 : mem0.1 5 7 = 0 := rfl
theorem m0_5_8 : mem0.1 5 8 = 0 := rfl
theorem m0_5_9 : mem0.1 5 9 = 0 := rfl
theorem m0_5_10 : mem0.1 5 10 = 0 := rfl
theorem m0_5_11 : mem0.1 5 11 = 0 := rfl
theorem weo12 (ad : Nat → Nat) (cy : Nat → ClassId) (σ : Mem) : we ad cy σ 12 (.inr (.inl (4, fk12))) = .inr (4, [.ref (ad 13), .int (σ.1 12 1), .int (σ.1 12 2), .int (σ.1 12 3), .int (σ.1 12 4), .int (σ.1 12 5), .int (σ.1 12 6), .int (σ.1 12 7), .int (σ.1 12 8), .int (σ.1 12 9), .int (σ.1 12 10), .int (σ.1 12 11), .int (σ.1 12 12), .int (σ.1 12 13)]) := rfl
theorem m0_12_1 : mem0.1 12 1 = 0 := rfl
theorem m0_12_2 : mem0.1 12 2 = 0 := rfl
theorem m0_12_3 : mem0.1 12 3 = 0 := rfl
theorem m0_12_4 : mem0.1 12 4 = 0 := rfl
theorem m0_12_5 : mem0.1 12 5 = 0 := rfl
theorem m0_12_6 : mem0.1 12 6 = 0 := rfl
theorem m0_12_7 : mem0.1 12 7 = 0 := rfl
theorem m0_12_8 : mem0.1 12 8 = 0 := rfl
theorem m0_12_9 : mem0.1 12 9 = 0 := rfl
theorem m0_12_10 : mem0.1 12 10 = 0 := rfl
theorem m0_12_11 : mem0.1 12 11 = 0 := rfl
theorem m0_12_12 : mem0.1 12 12 = 0 := rfl
theorem m0_12_13 : mem0.1 12 13 = 0 := rfl
theorem weo14 (ad : Nat → Nat) (cy : Nat → ClassId) (σ : Mem) : we ad cy σ 14 (.inr (.inl (3, fk14))) = .inr (3, [.ref (ad 15), .ref (ad 16), .ref (ad 17)]) := rfl
theorem weo19 (ad : Nat → Nat) (cy : Nat → ClassId) (σ : Mem) : we ad cy σ 19 (.inr (.inl (6, fk19))) = .inr (6, [.ref (ad 20), .ref (ad 21), .int (σ.1 19 2), .int (σ.1 19 3), .int (σ.1 19 4), .ref (ad 22), .ref (ad 23), .ref (ad 24), .ref (ad 25), .ref (ad 26), .ref (ad 27), .long (σ.2 19 11), .int (σ.1 19 12), .int (σ.1 19 13), .int (σ.1 19 14), .int (σ.1 19 15), .int (σ.1 19 16), .int (σ.1 19 17), .ref (ad 28), .int (σ.1 19 19), .int (σ.1 19 20), .int (σ.1 19 21), .int (σ.1 19 22), .int (σ.1 19 23), .int (σ.1 19 24), .ref (ad 29), .ref (ad 30), .ref (ad 31), .ref (ad 32)]) := by
  refine congrArg (fun l => (Sum.inr (6, l) : va_E)) ?_
  apply List.ext_getElem?
  intro j
  rw [List.getElem?_mapIdx]
  match j with
  | 0 => rfl
  | 1 => rfl
  | 2 => rfl
  | 3 => rfl
  | 4 => rfl
  | 5 => rfl
  | 6 => rfl
  | 7 => rfl
  | 8 => rfl
  | 9 => rfl
  | 10 => rfl
  | 11 => rfl
  | 12 => rfl
  | 13 => rfl
  | 14 => rfl
  | 15 => rfl
  | 16 => rfl
  | 17 => rfl
  | 18 => rfl
  | 19 => rfl
  | 20 => rfl
  | 21 => rfl
  | 22 => rfl
  | 23 => rfl
  | 24 => rfl
  | 25 => rfl
  | 26 => rfl
  | 27 => rfl
  | 28 => rfl
  | j + 29 => rfl
theorem m0_19_2 : mem0.1 19 2 = 0 := rfl
theorem m0_19_3 : mem0.1 19 3 = 0 := rfl
theorem m0_19_4 : mem0.1 19 4 = 1 := rfl
theorem m0_19_11 : mem0.2 19 11 = 0 := rfl
theorem m0_19_12 : mem0.1 19 12 = 0 := rfl
theorem m0_19_13 : mem0.1 19 13 = 0 := rfl
theorem m0_19_14 : mem0.1 19 14 = 0 := rfl
theorem m0_19_15 : mem0.1 19 15 = 0 := rfl
theorem m0_19_16 : mem0.1 19 16 = 0 := rfl
theorem m0_19_17 : mem0.1 19 17 = 0 := rfl
theorem m0_19_19 : mem0.1 19 19 = 0 := rfl
theorem m0_19_20 : mem0.1 19 20 = 0 := rfl
theorem m0_19_21 : mem0.1 19 21 = 0 := rfl
theorem m0_19_22 : mem0.1 19 22 = 0 := rfl
theorem m0_19_23 : mem0.1 19 23 = 0 := rfl
theorem m0_19_24 : mem0.1 19 24 = 0 := rfl
set_option maxRecDepth 20000 in
theorem wld_k0 (cy : Nat → ClassId) (h0 q1 q2 q3 q4 q5 q6 q7 q8 q9 q10 q11 q12 q13 q14 q15 q16 q17 q18 m0 p1 p2 p3 p4 p5 p6 p7 p8 p9 p10 p11 p12 p13 : Nat) (r2 r12 sK sV : Nat → Nat) (a0 a1 a2 a3 : Nat) : (wld cy h0 q1 q2 q3 q4 q5 q6 q7 q8 q9 q10 q11 q12 q13 q14 q15 q16 q17 q18 m0 p1 p2 p3 p4 p5 p6 p7 p8 p9 p10 p11 p12 p13 r2 r12)[posF 0]? = some (adF [h0, q1, q2, q3, q4, q5, q6, q7, q8, q9, q10, q11, q12, q13, q14, q15, q16, q17, q18] [m0, p1, p2, p3, p4, p5, p6, p7, p8, p9, p10, p11, p12, p13] r2 r12 sK sV a0 a1 a2 a3 0, we (adF [h0, q1, q2, q3, q4, q5, q6, q7, q8, q9, q10, q11, q12, q13, q14, q15, q16, q17, q18] [m0, p1, p2, p3, p4, p5, p6, p7, p8, p9, p10, p11, p12, p13] r2 r12 sK sV a0 a1 a2 a3) cy mem0 0 (.inr (.inl (5, fk0)))) := by
  rw [weo0, adk0 h0 q1 q2 q3 q4 q5 q6 q7 q8 q9 q10 q11 q12 q13 q14 q15 q16 q17 q18 m0 p1 p2 p3 p4 p5 p6 p7 p8 p9 p10 p11 p12 p13 r2 r12 sK sV a0 a1 a2 a3, adk1 h0 q1 q2 q3 q4 q5 q6 q7 q8 q9 q10 q11 q12 q13 q14 q15 q16 q17 q18 m0 p1 p2 p3 p4 p5 p6 p7 p8 p9 p10 p11 p12 p13 r2 r12 sK sV a0 a1 a2 a3, adk3 h0 q1 q2 q3 q4 q5 q6 q7 q8 q9 q10 q11 q12 q13 q14 q15 q16 q17 q18 m0 p1 p2 p3 p4 p5 p6 p7 p8 p9 p10 p11 p12 p13 r2 r12 sK sV a0 a1 a2 a3, adk5 h0 q1 q2 q3 q4 q5 q6 q7 q8 q9 q10 q11 q12 q13 q14 q15 q16 q17 q18 m0 p1 p2 p3 p4 p5 p6 p7 p8 p9 p10 p11 p12 p13 r2 r12 sK sV a0 a1 a2 a3, adk12 h0 q1 q2 q3 q4 q5 q6 q7 q8 q9 q10 q11 q12 q13 q14 q15 q16 q17 q18 m0 p1 p2 p3 p4 p5 p6 p7 p8 p9 p10 p11 p12 p13 r2 r12 sK sV a0 a1 a2 a3, adk14 h0 q1 q2 q3 q4 q5 q6 q7 q8 q9 q10 q11 q12 q13 q14 q15 q16 q17 q18 m0 p1 p2 p3 p4 p5 p6 p7 p8 p9 p10 p11 p12 p13 r2 r12 sK sV a0 a1 a2 a3, adk18 h0 q1 q2 q3 q4 q5 q6 q7 q8 q9 q10 q11 q12 q13 q14 q15 q16 q17 q18 m0 p1 p2 p3 p4 p5 p6 p7 p8 p9 p10 p11 p12 p13 r2 r12 sK sV a0 a1 a2 a3, m0_0_6]
  rfl
set_option maxRecDepth 20000 in
theorem wld_k1 (cy : Nat → ClassId) (h0 q1 q2 q3 q4 q5 q6 q7 q8 q9 q10 q11 q12 q13 q14 q15 q16 q17 q18 m0 p1 p2 p3 p4 p5 p6 p7 p8 p9 p10 p11 p12 p13 : Nat) (r2 r12 sK sV : Nat → Nat) (a0 a1 a2 a3 : Nat) : (wld cy h0 q1 q2 q3 q4 q5 q6 q7 q8 q9 q10 q11 q12 q13 q14 q15 q16 q17 q18 m0 p1 p2 p3 p4 p5 p6 p7 p8 p9 p10 p11 p12 p13 r2 r12)[posF 1]? = some (adF [h0, q1, q2, q3, q4, q5, q6, q7, q8, q9, q10, q11, q12, q13, q14, q15, q16, q17, q18] [m0, p1, p2, p3, p4, p5, p6, p7, p8, p9, p10, p11, p12, p13] r2 r12 sK sV a0 a1 a2 a3 1, we (adF [h0, q1, q2, q3, q4, q5, q6, q7, q8, q9, q10, q11, q12, q13, q14, q15, q16, q17, q18] [m0, p1, p2, p3, p4, p5, p6, p7, p8, p9, p10, p11, p12, p13] r2 r12 sK sV a0 a1 a2 a3) cy mem0 1 (.inr (.inl (0, fk1)))) := by
  rw [weo1, adk1 h0 q1 q2 q3 q4 q5 q6 q7 q8 q9 q10 q11 q12 q13 q14 q15 q16 q17 q18 m0 p1 p2 p3 p4 p5 p6 p7 p8 p9 p10 p11 p12 p13 r2 r12 sK sV a0 a1 a2 a3, adk2 h0 q1 q2 q3 q4 q5 q6 q7 q8 q9 q10 q11 q12 q13 q14 q15 q16 q17 q18 m0 p1 p2 p3 p4 p5 p6 p7 p8 p9 p10 p11 p12 p13 r2 r12 sK sV a0 a1 a2 a3]
  rfl
set_option maxRecDepth 20000 in
theorem wld_k2 (cy : Nat → ClassId) (h0 q1 q2 q3 q4 q5 q6 q7 q8 q9 q10 q11 q12 q13 q14 q15 q16 q17 q18 m0 p1 p2 p3 p4 p5 p6 p7 p8 p9 p10 p11 p12 p13 : Nat) (r2 r12 sK sV : Nat → Nat) (a0 a1 a2 a3 : Nat) : (wld cy h0 q1 q2 q3 q4 q5 q6 q7 q8 q9 q10 q11 q12 q13 q14 q15 q16 q17 q18 m0 p1 p2 p3 p4 p5 p6 p7 p8 p9 p10 p11 p12 p13 r2 r12)[posF 2]? = some (adF [h0, q1, q2, q3, q4, q5, q6, q7, q8, q9, q10, q11, q12, q13, q14, q15, q16, q17, q18] [m0, p1, p2, p3, p4, p5, p6, p7, p8, p9, p10, p11, p12, p13] r2 r12 sK sV a0 a1 a2 a3 2, we (adF [h0, q1, q2, q3, q4, q5, q6, q7, q8, q9, q10, q11, q12, q13, q14, q15, q16, q17, q18] [m0, p1, p2, p3, p4, p5, p6, p7, p8, p9, p10, p11, p12, p13] r2 r12 sK sV a0 a1 a2 a3) cy mem0 2 (.inl (0, 171))) := by
  rw [adk2 h0 q1 q2 q3 q4 q5 q6 q7 q8 q9 q10 q11 q12 q13 q14 q15 q16 q17 q18 m0 p1 p2 p3 p4 p5 p6 p7 p8 p9 p10 p11 p12 p13 r2 r12 sK sV a0 a1 a2 a3]
  rfl
set_option maxRecDepth 20000 in
theorem wld_k3 (cy : Nat → ClassId) (h0 q1 q2 q3 q4 q5 q6 q7 q8 q9 q10 q11 q12 q13 q14 q15 q16 q17 q18 m0 p1 p2 p3 p4 p5 p6 p7 p8 p9 p10 p11 p12 p13 : Nat) (r2 r12 sK sV : Nat → Nat) (a0 a1 a2 a3 : Nat) : (wld cy h0 q1 q2 q3 q4 q5 q6 q7 q8 q9 q10 q11 q12 q13 q14 q15 q16 q17 q18 m0 p1 p2 p3 p4 p5 p6 p7 p8 p9 p10 p11 p12 p13 r2 r12)[posF 3]? = some (adF [h0, q1, q2, q3, q4, q5, q6, q7, q8, q9, q10, q11, q12, q13, q14, q15, q16, q17, q18] [m0, p1, p2, p3, p4, p5, p6, p7, p8, p9, p10, p11, p12, p13] r2 r12 sK sV a0 a1 a2 a3 3, we (adF [h0, q1, q2, q3, q4, q5, q6, q7, q8, q9, q10, q11, q12, q13, q14, q15, q16, q17, q18] [m0, p1, p2, p3, p4, p5, p6, p7, p8, p9, p10, p11, p12, p13] r2 r12 sK sV a0 a1 a2 a3) cy mem0 3 (.inr (.inl (1, fk3)))) := by
  rw [weo3, adk3 h0 q1 q2 q3 q4 q5 q6 q7 q8 q9 q10 q11 q12 q13 q14 q15 q16 q17 q18 m0 p1 p2 p3 p4 p5 p6 p7 p8 p9 p10 p11 p12 p13 r2 r12 sK sV a0 a1 a2 a3, adk4 h0 q1 q2 q3 q4 q5 q6 q7 q8 q9 q10 q11 q12 q13 q14 q15 q16 q17 q18 m0 p1 p2 p3 p4 p5 p6 p7 p8 p9 p10 p11 p12 p13 r2 r12 sK sV a0 a1 a2 a3, m0_3_1, m0_3_2]
  rfl
set_option maxRecDepth 20000 in
theorem wld_k4 (cy : Nat → ClassId) (h0 q1 q2 q3 q4 q5 q6 q7 q8 q9 q10 q11 q12 q13 q14 q15 q16 q17 q18 m0 p1 p2 p3 p4 p5 p6 p7 p8 p9 p10 p11 p12 p13 : Nat) (r2 r12 sK sV : Nat → Nat) (a0 a1 a2 a3 : Nat) : (wld cy h0 q1 q2 q3 q4 q5 q6 q7 q8 q9 q10 q11 q12 q13 q14 q15 q16 q17 q18 m0 p1 p2 p3 p4 p5 p6 p7 p8 p9 p10 p11 p12 p13 r2 r12)[posF 4]? = some (adF [h0, q1, q2, q3, q4, q5, q6, q7, q8, q9, q10, q11, q12, q13, q14, q15, q16, q17, q18] [m0, p1, p2, p3, p4, p5, p6, p7, p8, p9, p10, p11, p12, p13] r2 r12 sK sV a0 a1 a2 a3 4, we (adF [h0, q1, q2, q3, q4, q5, q6, q7, q8, q9, q10, q11, q12, q13, q14, q15, q16, q17, q18] [m0, p1, p2, p3, p4, p5, p6, p7, p8, p9, p10, p11, p12, p13] r2 r12 sK sV a0 a1 a2 a3) cy mem0 4 (.inl (0, 5301))) := by
  rw [adk4 h0 q1 q2 q3 q4 q5 q6 q7 q8 q9 q10 q11 q12 q13 q14 q15 q16 q17 q18 m0 p1 p2 p3 p4 p5 p6 p7 p8 p9 p10 p11 p12 p13 r2 r12 sK sV a0 a1 a2 a3]
  rfl
set_option maxRecDepth 20000 in
theorem wld_k5 (cy : Nat → ClassId) (h0 q1 q2 q3 q4 q5 q6 q7 q8 q9 q10 q11 q12 q13 q14 q15 q16 q17 q18 m0 p1 p2 p3 p4 p5 p6 p7 p8 p9 p10 p11 p12 p13 : Nat) (r2 r12 sK sV : Nat → Nat) (a0 a1 a2 a3 : Nat) : (wld cy h0 q1 q2 q3 q4 q5 q6 q7 q8 q9 q10 q11 q12 q13 q14 q15 q16 q17 q18 m0 p1 p2 p3 p4 p5 p6 p7 p8 p9 p10 p11 p12 p13 r2 r12)[posF 5]? = some (adF [h0, q1, q2, q3, q4, q5, q6, q7, q8, q9, q10, q11, q12, q13, q14, q15, q16, q17, q18] [m0, p1, p2, p3, p4, p5, p6, p7, p8, p9, p10, p11, p12, p13] r2 r12 sK sV a0 a1 a2 a3 5, we (adF [h0, q1, q2, q3, q4, q5, q6, q7, q8, q9, q10, q11, q12, q13, q14, q15, q16, q17, q18] [m0, p1, p2, p3, p4, p5, p6, p7, p8, p9, p10, p11, p12, p13] r2 r12 sK sV a0 a1 a2 a3) cy mem0 5 (.inr (.inl (2, fk5)))) := by
  rw [weo5, adk5 h0 q1 q2 q3 q4 q5 q6 q7 q8 q9 q10 q11 q12 q13 q14 q15 q16 q17 q18 m0 p1 p2 p3 p4 p5 p6 p7 p8 p9 p10 p11 p12 p13 r2 r12 sK sV a0 a1 a2 a3, adk6 h0 q1 q2 q3 q4 q5 q6 q7 q8 q9 q10 q11 q12 q13 q14 q15 q16 q17 q18 m0 p1 p2 p3 p4 p5 p6 p7 p8 p9 p10 p11 p12 p13 r2 r12 sK sV a0 a1 a2 a3, adk7 h0 q1 q2 q3 q4 q5 q6 q7 q8 q9 q10 q11 q12 q13 q14 q15 q16 q17 q18 m0 p1 p2 p3 p4 p5 p6 p7 p8 p9 p10 p11 p12 p13 r2 r12 sK sV a0 a1 a2 a3, adk8 h0 q1 q2 q3 q4 q5 q6 q7 q8 q9 q10 q11 q12 q13 q14 q15 q16 q17 q18 m0 p1 p2 p3 p4 p5 p6 p7 p8 p9 p10 p11 p12 p13 r2 r12 sK sV a0 a1 a2 a3, adk9 h0 q1 q2 q3 q4 q5 q6 q7 q8 q9 q10 q11 q12 q13 q14 q15 q16 q17 q18 m0 p1 p2 p3 p4 p5 p6 p7 p8 p9 p10 p11 p12 p13 r2 r12 sK sV a0 a1 a2 a3, adk10 h0 q1 q2 q3 q4 q5 q6 q7 q8 q9 q10 q11 q12 q13 q14 q15 q16 q17 q18 m0 p1 p2 p3 p4 p5 p6 p7 p8 p9 p10 p11 p12 p13 r2 r12 sK sV a0 a1 a2 a3, adk11 h0 q1 q2 q3 q4 q5 q6 q7 q8 q9 q10 q11 q12 q13 q14 q15 q16 q17 q18 m0 p1 p2 p3 p4 p5 p6 p7 p8 p9 p10 p11 p12 p13 r2 r12 sK sV a0 a1 a2 a3, m0_5_6, m0_5_7, m0_5_8, m0_5_9, m0_5_10, m0_5_11]
  rfl
set_option maxRecDepth 20000 in
theorem wld_k6 (cy : Nat → ClassId) (h0 q1 q2 q3 q4 q5 q6 q7 q8 q9 q10 q11 q12 q13 q14 q15 q16 q17 q18 m0 p1 p2 p3 p4 p5 p6 p7 p8 p9 p10 p11 p12 p13 : Nat) (r2 r12 sK sV : Nat → Nat) (a0 a1 a2 a3 : Nat) : (wld cy h0 q1 q2 q3 q4 q5 q6 q7 q8 q9 q10 q11 q12 q13 q14 q15 q16 q17 q18 m0 p1 p2 p3 p4 p5 p6 p7 p8 p9 p10 p11 p12 p13 r2 r12)[posF 6]? = some (adF [h0, q1, q2, q3, q4, q5, q6, q7, q8, q9, q10, q11, q12, q13, q14, q15, q16, q17, q18] [m0, p1, p2, p3, p4, p5, p6, p7, p8, p9, p10, p11, p12, p13] r2 r12 sK sV a0 a1 a2 a3 6, we (adF [h0, q1, q2, q3, q4, q5, q6, q7, q8, q9, q10, q11, q12, q13, q14, q15, q16, q17, q18] [m0, p1, p2, p3, p4, p5, p6, p7, p8, p9, p10, p11, p12, p13] r2 r12 sK sV a0 a1 a2 a3) cy mem0 6 (.inl (0, 1596))) := by
  rw [adk6 h0 q1 q2 q3 q4 q5 q6 q7 q8 q9 q10 q11 q12 q13 q14 q15 q16 q17 q18 m0 p1 p2 p3 p4 p5 p6 p7 p8 p9 p10 p11 p12 p13 r2 r12 sK sV a0 a1 a2 a3]
  rfl
set_option maxRecDepth 20000 in
theorem wld_k7 (cy : Nat → ClassId) (h0 q1 q2 q3 q4 q5 q6 q7 q8 q9 q10 q11 q12 q13 q14 q15 q16 q17 q18 m0 p1 p2 p3 p4 p5 p6 p7 p8 p9 p10 p11 p12 p13 : Nat) (r2 r12 sK sV : Nat → Nat) (a0 a1 a2 a3 : Nat) : (wld cy h0 q1 q2 q3 q4 q5 q6 q7 q8 q9 q10 q11 q12 q13 q14 q15 q16 q17 q18 m0 p1 p2 p3 p4 p5 p6 p7 p8 p9 p10 p11 p12 p13 r2 r12)[posF 7]? = some (adF [h0, q1, q2, q3, q4, q5, q6, q7, q8, q9, q10, q11, q12, q13, q14, q15, q16, q17, q18] [m0, p1, p2, p3, p4, p5, p6, p7, p8, p9, p10, p11, p12, p13] r2 r12 sK sV a0 a1 a2 a3 7, we (adF [h0, q1, q2, q3, q4, q5, q6, q7, q8, q9, q10, q11, q12, q13, q14, q15, q16, q17, q18] [m0, p1, p2, p3, p4, p5, p6, p7, p8, p9, p10, p11, p12, p13] r2 r12 sK sV a0 a1 a2 a3) cy mem0 7 (.inl (0, 6))) := by
  rw [adk7 h0 q1 q2 q3 q4 q5 q6 q7 q8 q9 q10 q11 q12 q13 q14 q15 q16 q17 q18 m0 p1 p2 p3 p4 p5 p6 p7 p8 p9 p10 p11 p12 p13 r2 r12 sK sV a0 a1 a2 a3]
  rfl
set_option maxRecDepth 20000 in
theorem wld_k8 (cy : Nat → ClassId) (h0 q1 q2 q3 q4 q5 q6 q7 q8 q9 q10 q11 q12 q13 q14 q15 q16 q17 q18 m0 p1 p2 p3 p4 p5 p6 p7 p8 p9 p10 p11 p12 p13 : Nat) (r2 r12 sK sV : Nat → Nat) (a0 a1 a2 a3 : Nat) : (wld cy h0 q1 q2 q3 q4 q5 q6 q7 q8 q9 q10 q11 q12 q13 q14 q15 q16 q17 q18 m0 p1 p2 p3 p4 p5 p6 p7 p8 p9 p10 p11 p12 p13 r2 r12)[posF 8]? = some (adF [h0, q1, q2, q3, q4, q5, q6, q7, q8, q9, q10, q11, q12, q13, q14, q15, q16, q17, q18] [m0, p1, p2, p3, p4, p5, p6, p7, p8, p9, p10, p11, p12, p13] r2 r12 sK sV a0 a1 a2 a3 8, we (adF [h0, q1, q2, q3, q4, q5, q6, q7, q8, q9, q10, q11, q12, q13, q14, q15, q16, q17, q18] [m0, p1, p2, p3, p4, p5, p6, p7, p8, p9, p10, p11, p12, p13] r2 r12 sK sV a0 a1 a2 a3) cy mem0 8 (.inl (0, 6))) := by
  rw [adk8 h0 q1 q2 q3 q4 q5 q6 q7 q8 q9 q10 q11 q12 q13 q14 q15 q16 q17 q18 m0 p1 p2 p3 p4 p5 p6 p7 p8 p9 p10 p11 p12 p13 r2 r12 sK sV a0 a1 a2 a3]
  rfl
set_option maxRecDepth 20000 in
theorem wld_k9 (cy : Nat → ClassId) (h0 q1 q2 q3 q4 q5 q6 q7 q8 q9 q10 q11 q12 q13 q14 q15 q16 q17 q18 m0 p1 p2 p3 p4 p5 p6 p7 p8 p9 p10 p11 p12 p13 : Nat) (r2 r12 sK sV : Nat → Nat) (a0 a1 a2 a3 : Nat) : (wld cy h0 q1 q2 q3 q4 q5 q6 q7 q8 q9 q10 q11 q12 q13 q14 q15 q16 q17 q18 m0 p1 p2 p3 p4 p5 p6 p7 p8 p9 p10 p11 p12 p13 r2 r12)[posF 9]? = some (adF [h0, q1, q2, q3, q4, q5, q6, q7, q8, q9, q10, q11, q12, q13, q14, q15, q16, q17, q18] [m0, p1, p2, p3, p4, p5, p6, p7, p8, p9, p10, p11, p12, p13] r2 r12 sK sV a0 a1 a2 a3 9, we (adF [h0, q1, q2, q3, q4, q5, q6, q7, q8, q9, q10, q11, q12, q13, q14, q15, q16, q17, q18] [m0, p1, p2, p3, p4, p5, p6, p7, p8, p9, p10, p11, p12, p13] r2 r12 sK sV a0 a1 a2 a3) cy mem0 9 (.inl (0, 6))) := by
  rw [adk9 h0 q1 q2 q3 q4 q5 q6 q7 q8 q9 q10 q11 q12 q13 q14 q15 q16 q17 q18 m0 p1 p2 p3 p4 p5 p6 p7 p8 p9 p10 p11 p12 p13 r2 r12 sK sV a0 a1 a2 a3]
  rfl
set_option maxRecDepth 20000 in
theorem wld_k10 (cy : Nat → ClassId) (h0 q1 q2 q3 q4 q5 q6 q7 q8 q9 q10 q11 q12 q13 q14 q15 q16 q17 q18 m0 p1 p2 p3 p4 p5 p6 p7 p8 p9 p10 p11 p12 p13 : Nat) (r2 r12 sK sV : Nat → Nat) (a0 a1 a2 a3 : Nat) : (wld cy h0 q1 q2 q3 q4 q5 q6 q7 q8 q9 q10 q11 q12 q13 q14 q15 q16 q17 q18 m0 p1 p2 p3 p4 p5 p6 p7 p8 p9 p10 p11 p12 p13 r2 r12)[posF 10]? = some (adF [h0, q1, q2, q3, q4, q5, q6, q7, q8, q9, q10, q11, q12, q13, q14, q15, q16, q17, q18] [m0, p1, p2, p3, p4, p5, p6, p7, p8, p9, p10, p11, p12, p13] r2 r12 sK sV a0 a1 a2 a3 10, we (adF [h0, q1, q2, q3, q4, q5, q6, q7, q8, q9, q10, q11, q12, q13, q14, q15, q16, q17, q18] [m0, p1, p2, p3, p4, p5, p6, p7, p8, p9, p10, p11, p12, p13] r2 r12 sK sV a0 a1 a2 a3) cy mem0 10 (.inl (0, 6))) := by
  rw [adk10 h0 q1 q2 q3 q4 q5 q6 q7 q8 q9 q10 q11 q12 q13 q14 q15 q16 q17 q18 m0 p1 p2 p3 p4 p5 p6 p7 p8 p9 p10 p11 p12 p13 r2 r12 sK sV a0 a1 a2 a3]
  rfl
set_option maxRecDepth 20000 in
theorem wld_k11 (cy : Nat → ClassId) (h0 q1 q2 q3 q4 q5 q6 q7 q8 q9 q10 q11 q12 q13 q14 q15 q16 q17 q18 m0 p1 p2 p3 p4 p5 p6 p7 p8 p9 p10 p11 p12 p13 : Nat) (r2 r12 sK sV : Nat → Nat) (a0 a1 a2 a3 : Nat) : (wld cy h0 q1 q2 q3 q4 q5 q6 q7 q8 q9 q10 q11 q12 q13 q14 q15 q16 q17 q18 m0 p1 p2 p3 p4 p5 p6 p7 p8 p9 p10 p11 p12 p13 r2 r12)[posF 11]? = some (adF [h0, q1, q2, q3, q4, q5, q6, q7, q8, q9, q10, q11, q12, q13, q14, q15, q16, q17, q18] [m0, p1, p2, p3, p4, p5, p6, p7, p8, p9, p10, p11, p12, p13] r2 r12 sK sV a0 a1 a2 a3 11, we (adF [h0, q1, q2, q3, q4, q5, q6, q7, q8, q9, q10, q11, q12, q13, q14, q15, q16, q17, q18] [m0, p1, p2, p3, p4, p5, p6, p7, p8, p9, p10, p11, p12, p13] r2 r12 sK sV a0 a1 a2 a3) cy mem0 11 (.inl (2, 3))) := by
  rw [adk11 h0 q1 q2 q3 q4 q5 q6 q7 q8 q9 q10 q11 q12 q13 q14 q15 q16 q17 q18 m0 p1 p2 p3 p4 p5 p6 p7 p8 p9 p10 p11 p12 p13 r2 r12 sK sV a0 a1 a2 a3]
  rfl
set_option maxRecDepth 20000 in
theorem wld_k12 (cy : Nat → ClassId) (h0 q1 q2 q3 q4 q5 q6 q7 q8 q9 q10 q11 q12 q13 q14 q15 q16 q17 q18 m0 p1 p2 p3 p4 p5 p6 p7 p8 p9 p10 p11 p12 p13 : Nat) (r2 r12 sK sV : Nat → Nat) (a0 a1 a2 a3 : Nat) : (wld cy h0 q1 q2 q3 q4 q5 q6 q7 q8 q9 q10 q11 q12 q13 q14 q15 q16 q17 q18 m0 p1 p2 p3 p4 p5 p6 p7 p8 p9 p10 p11 p12 p13 r2 r12)[posF 12]? = some (adF [h0, q1, q2, q3, q4, q5, q6, q7, q8, q9, q10, q11, q12, q13, q14, q15, q16, q17, q18] [m0, p1, p2, p3, p4, p5, p6, p7, p8, p9, p10, p11, p12, p13] r2 r12 sK sV a0 a1 a2 a3 12, we (adF [h0, q1, q2, q3, q4, q5, q6, q7, q8, q9, q10, q11, q12, q13, q14, q15, q16, q17, q18] [m0, p1, p2, p3, p4, p5, p6, p7, p8, p9, p10, p11, p12, p13] r2 r12 sK sV a0 a1 a2 a3) cy mem0 12 (.inr (.inl (4, fk12)))) := by
  rw [weo12, adk12 h0 q1 q2 q3 q4 q5 q6 q7 q8 q9 q10 q11 q12 q13 q14 q15 q16 q17 q18 m0 p1 p2 p3 p4 p5 p6 p7 p8 p9 p10 p11 p12 p13 r2 r12 sK sV a0 a1 a2 a3, adk13 h0 q1 q2 q3 q4 q5 q6 q7 q8 q9 q10 q11 q12 q13 q14 q15 q16 q17 q18 m0 p1 p2 p3 p4 p5 p6 p7 p8 p9 p10 p11 p12 p13 r2 r12 sK sV a0 a1 a2 a3, m0_12_1, m0_12_2, m0_12_3, m0_12_4, m0_12_5, m0_12_6, m0_12_7, m0_12_8, m0_12_9, m0_12_10, m0_12_11, m0_12_12, m0_12_13]
  rfl
set_option maxRecDepth 20000 in
theorem wld_k13 (cy : Nat → ClassId) (h0 q1 q2 q3 q4 q5 q6 q7 q8 q9 q10 q11 q12 q13 q14 q15 q16 q17 q18 m0 p1 p2 p3 p4 p5 p6 p7 p8 p9 p10 p11 p12 p13 : Nat) (r2 r12 sK sV : Nat → Nat) (a0 a1 a2 a3 : Nat) : (wld cy h0 q1 q2 q3 q4 q5 q6 q7 q8 q9 q10 q11 q12 q13 q14 q15 q16 q17 q18 m0 p1 p2 p3 p4 p5 p6 p7 p8 p9 p10 p11 p12 p13 r2 r12)[posF 13]? = some (adF [h0, q1, q2, q3, q4, q5, q6, q7, q8, q9, q10, q11, q12, q13, q14, q15, q16, q17, q18] [m0, p1, p2, p3, p4, p5, p6, p7, p8, p9, p10, p11, p12, p13] r2 r12 sK sV a0 a1 a2 a3 13, we (adF [h0, q1, q2, q3, q4, q5, q6, q7, q8, q9, q10, q11, q12, q13, q14, q15, q16, q17, q18] [m0, p1, p2, p3, p4, p5, p6, p7, p8, p9, p10, p11, p12, p13] r2 r12 sK sV a0 a1 a2 a3) cy mem0 13 (.inl (1, 120))) := by
  rw [adk13 h0 q1 q2 q3 q4 q5 q6 q7 q8 q9 q10 q11 q12 q13 q14 q15 q16 q17 q18 m0 p1 p2 p3 p4 p5 p6 p7 p8 p9 p10 p11 p12 p13 r2 r12 sK sV a0 a1 a2 a3]
  rfl
set_option maxRecDepth 20000 in
theorem wld_k14 (cy : Nat → ClassId) (h0 q1 q2 q3 q4 q5 q6 q7 q8 q9 q10 q11 q12 q13 q14 q15 q16 q17 q18 m0 p1 p2 p3 p4 p5 p6 p7 p8 p9 p10 p11 p12 p13 : Nat) (r2 r12 sK sV : Nat → Nat) (a0 a1 a2 a3 : Nat) : (wld cy h0 q1 q2 q3 q4 q5 q6 q7 q8 q9 q10 q11 q12 q13 q14 q15 q16 q17 q18 m0 p1 p2 p3 p4 p5 p6 p7 p8 p9 p10 p11 p12 p13 r2 r12)[posF 14]? = some (adF [h0, q1, q2, q3, q4, q5, q6, q7, q8, q9, q10, q11, q12, q13, q14, q15, q16, q17, q18] [m0, p1, p2, p3, p4, p5, p6, p7, p8, p9, p10, p11, p12, p13] r2 r12 sK sV a0 a1 a2 a3 14, we (adF [h0, q1, q2, q3, q4, q5, q6, q7, q8, q9, q10, q11, q12, q13, q14, q15, q16, q17, q18] [m0, p1, p2, p3, p4, p5, p6, p7, p8, p9, p10, p11, p12, p13] r2 r12 sK sV a0 a1 a2 a3) cy mem0 14 (.inr (.inl (3, fk14)))) := by
  rw [weo14, adk14 h0 q1 q2 q3 q4 q5 q6 q7 q8 q9 q10 q11 q12 q13 q14 q15 q16 q17 q18 m0 p1 p2 p3 p4 p5 p6 p7 p8 p9 p10 p11 p12 p13 r2 r12 sK sV a0 a1 a2 a3, adk15 h0 q1 q2 q3 q4 q5 q6 q7 q8 q9 q10 q11 q12 q13 q14 q15 q16 q17 q18 m0 p1 p2 p3 p4 p5 p6 p7 p8 p9 p10 p11 p12 p13 r2 r12 sK sV a0 a1 a2 a3, adk16 h0 q1 q2 q3 q4 q5 q6 q7 q8 q9 q10 q11 q12 q13 q14 q15 q16 q17 q18 m0 p1 p2 p3 p4 p5 p6 p7 p8 p9 p10 p11 p12 p13 r2 r12 sK sV a0 a1 a2 a3, adk17 h0 q1 q2 q3 q4 q5 q6 q7 q8 q9 q10 q11 q12 q13 q14 q15 q16 q17 q18 m0 p1 p2 p3 p4 p5 p6 p7 p8 p9 p10 p11 p12 p13 r2 r12 sK sV a0 a1 a2 a3]
  rfl
set_option maxRecDepth 20000 in
theorem wld_k15 (cy : Nat → ClassId) (h0 q1 q2 q3 q4 q5 q6 q7 q8 q9 q10 q11 q12 q13 q14 q15 q16 q17 q18 m0 p1 p2 p3 p4 p5 p6 p7 p8 p9 p10 p11 p12 p13 : Nat) (r2 r12 sK sV : Nat → Nat) (a0 a1 a2 a3 : Nat) : (wld cy h0 q1 q2 q3 q4 q5 q6 q7 q8 q9 q10 q11 q12 q13 q14 q15 q16 q17 q18 m0 p1 p2 p3 p4 p5 p6 p7 p8 p9 p10 p11 p12 p13 r2 r12)[posF 15]? = some (adF [h0, q1, q2, q3, q4, q5, q6, q7, q8, q9, q10, q11, q12, q13, q14, q15, q16, q17, q18] [m0, p1, p2, p3, p4, p5, p6, p7, p8, p9, p10, p11, p12, p13] r2 r12 sK sV a0 a1 a2 a3 15, we (adF [h0, q1, q2, q3, q4, q5, q6, q7, q8, q9, q10, q11, q12, q13, q14, q15, q16, q17, q18] [m0, p1, p2, p3, p4, p5, p6, p7, p8, p9, p10, p11, p12, p13] r2 r12 sK sV a0 a1 a2 a3) cy mem0 15 (.inl (3, 160))) := by
  rw [adk15 h0 q1 q2 q3 q4 q5 q6 q7 q8 q9 q10 q11 q12 q13 q14 q15 q16 q17 q18 m0 p1 p2 p3 p4 p5 p6 p7 p8 p9 p10 p11 p12 p13 r2 r12 sK sV a0 a1 a2 a3]
  rfl
set_option maxRecDepth 20000 in
theorem wld_k16 (cy : Nat → ClassId) (h0 q1 q2 q3 q4 q5 q6 q7 q8 q9 q10 q11 q12 q13 q14 q15 q16 q17 q18 m0 p1 p2 p3 p4 p5 p6 p7 p8 p9 p10 p11 p12 p13 : Nat) (r2 r12 sK sV : Nat → Nat) (a0 a1 a2 a3 : Nat) : (wld cy h0 q1 q2 q3 q4 q5 q6 q7 q8 q9 q10 q11 q12 q13 q14 q15 q16 q17 q18 m0 p1 p2 p3 p4 p5 p6 p7 p8 p9 p10 p11 p12 p13 r2 r12)[posF 16]? = some (adF [h0, q1, q2, q3, q4, q5, q6, q7, q8, q9, q10, q11, q12, q13, q14, q15, q16, q17, q18] [m0, p1, p2, p3, p4, p5, p6, p7, p8, p9, p10, p11, p12, p13] r2 r12 sK sV a0 a1 a2 a3 16, we (adF [h0, q1, q2, q3, q4, q5, q6, q7, q8, q9, q10, q11, q12, q13, q14, q15, q16, q17, q18] [m0, p1, p2, p3, p4, p5, p6, p7, p8, p9, p10, p11, p12, p13] r2 r12 sK sV a0 a1 a2 a3) cy mem0 16 (.inl (0, 4))) := by
  rw [adk16 h0 q1 q2 q3 q4 q5 q6 q7 q8 q9 q10 q11 q12 q13 q14 q15 q16 q17 q18 m0 p1 p2 p3 p4 p5 p6 p7 p8 p9 p10 p11 p12 p13 r2 r12 sK sV a0 a1 a2 a3]
  rfl
set_option maxRecDepth 20000 in
theorem wld_k17 (cy : Nat → ClassId) (h0 q1 q2 q3 q4 q5 q6 q7 q8 q9 q10 q11 q12 q13 q14 q15 q16 q17 q18 m0 p1 p2 p3 p4 p5 p6 p7 p8 p9 p10 p11 p12 p13 : Nat) (r2 r12 sK sV : Nat → Nat) (a0 a1 a2 a3 : Nat) : (wld cy h0 q1 q2 q3 q4 q5 q6 q7 q8 q9 q10 q11 q12 q13 q14 q15 q16 q17 q18 m0 p1 p2 p3 p4 p5 p6 p7 p8 p9 p10 p11 p12 p13 r2 r12)[posF 17]? = some (adF [h0, q1, q2, q3, q4, q5, q6, q7, q8, q9, q10, q11, q12, q13, q14, q15, q16, q17, q18] [m0, p1, p2, p3, p4, p5, p6, p7, p8, p9, p10, p11, p12, p13] r2 r12 sK sV a0 a1 a2 a3 17, we (adF [h0, q1, q2, q3, q4, q5, q6, q7, q8, q9, q10, q11, q12, q13, q14, q15, q16, q17, q18] [m0, p1, p2, p3, p4, p5, p6, p7, p8, p9, p10, p11, p12, p13] r2 r12 sK sV a0 a1 a2 a3) cy mem0 17 (.inl (0, 4))) := by
  rw [adk17 h0 q1 q2 q3 q4 q5 q6 q7 q8 q9 q10 q11 q12 q13 q14 q15 q16 q17 q18 m0 p1 p2 p3 p4 p5 p6 p7 p8 p9 p10 p11 p12 p13 r2 r12 sK sV a0 a1 a2 a3]
  rfl
set_option maxRecDepth 20000 in
theorem wld_k18 (cy : Nat → ClassId) (h0 q1 q2 q3 q4 q5 q6 q7 q8 q9 q10 q11 q12 q13 q14 q15 q16 q17 q18 m0 p1 p2 p3 p4 p5 p6 p7 p8 p9 p10 p11 p12 p13 : Nat) (r2 r12 sK sV : Nat → Nat) (a0 a1 a2 a3 : Nat) : (wld cy h0 q1 q2 q3 q4 q5 q6 q7 q8 q9 q10 q11 q12 q13 q14 q15 q16 q17 q18 m0 p1 p2 p3 p4 p5 p6 p7 p8 p9 p10 p11 p12 p13 r2 r12)[posF 18]? = some (adF [h0, q1, q2, q3, q4, q5, q6, q7, q8, q9, q10, q11, q12, q13, q14, q15, q16, q17, q18] [m0, p1, p2, p3, p4, p5, p6, p7, p8, p9, p10, p11, p12, p13] r2 r12 sK sV a0 a1 a2 a3 18, we (adF [h0, q1, q2, q3, q4, q5, q6, q7, q8, q9, q10, q11, q12, q13, q14, q15, q16, q17, q18] [m0, p1, p2, p3, p4, p5, p6, p7, p8, p9, p10, p11, p12, p13] r2 r12 sK sV a0 a1 a2 a3) cy mem0 18 (.inl (0, 8))) := by
  rw [adk18 h0 q1 q2 q3 q4 q5 q6 q7 q8 q9 q10 q11 q12 q13 q14 q15 q16 q17 q18 m0 p1 p2 p3 p4 p5 p6 p7 p8 p9 p10 p11 p12 p13 r2 r12 sK sV a0 a1 a2 a3]
  rfl
set_option maxRecDepth 20000 in
theorem wld_k19 (cy : Nat → ClassId) (h0 q1 q2 q3 q4 q5 q6 q7 q8 q9 q10 q11 q12 q13 q14 q15 q16 q17 q18 m0 p1 p2 p3 p4 p5 p6 p7 p8 p9 p10 p11 p12 p13 : Nat) (r2 r12 sK sV : Nat → Nat) (a0 a1 a2 a3 : Nat) : (wld cy h0 q1 q2 q3 q4 q5 q6 q7 q8 q9 q10 q11 q12 q13 q14 q15 q16 q17 q18 m0 p1 p2 p3 p4 p5 p6 p7 p8 p9 p10 p11 p12 p13 r2 r12)[posF 19]? = some (adF [h0, q1, q2, q3, q4, q5, q6, q7, q8, q9, q10, q11, q12, q13, q14, q15, q16, q17, q18] [m0, p1, p2, p3, p4, p5, p6, p7, p8, p9, p10, p11, p12, p13] r2 r12 sK sV a0 a1 a2 a3 19, we (adF [h0, q1, q2, q3, q4, q5, q6, q7, q8, q9, q10, q11, q12, q13, q14, q15, q16, q17, q18] [m0, p1, p2, p3, p4, p5, p6, p7, p8, p9, p10, p11, p12, p13] r2 r12 sK sV a0 a1 a2 a3) cy mem0 19 (.inr (.inl (6, fk19)))) := by
  rw [weo19, adk19 h0 q1 q2 q3 q4 q5 q6 q7 q8 q9 q10 q11 q12 q13 q14 q15 q16 q17 q18 m0 p1 p2 p3 p4 p5 p6 p7 p8 p9 p10 p11 p12 p13 r2 r12 sK sV a0 a1 a2 a3, adk20 h0 q1 q2 q3 q4 q5 q6 q7 q8 q9 q10 q11 q12 q13 q14 q15 q16 q17 q18 m0 p1 p2 p3 p4 p5 p6 p7 p8 p9 p10 p11 p12 p13 r2 r12 sK sV a0 a1 a2 a3, adk21 h0 q1 q2 q3 q4 q5 q6 q7 q8 q9 q10 q11 q12 q13 q14 q15 q16 q17 q18 m0 p1 p2 p3 p4 p5 p6 p7 p8 p9 p10 p11 p12 p13 r2 r12 sK sV a0 a1 a2 a3, adk22 h0 q1 q2 q3 q4 q5 q6 q7 q8 q9 q10 q11 q12 q13 q14 q15 q16 q17 q18 m0 p1 p2 p3 p4 p5 p6 p7 p8 p9 p10 p11 p12 p13 r2 r12 sK sV a0 a1 a2 a3, adk23 h0 q1 q2 q3 q4 q5 q6 q7 q8 q9 q10 q11 q12 q13 q14 q15 q16 q17 q18 m0 p1 p2 p3 p4 p5 p6 p7 p8 p9 p10 p11 p12 p13 r2 r12 sK sV a0 a1 a2 a3, adk24 h0 q1 q2 q3 q4 q5 q6 q7 q8 q9 q10 q11 q12 q13 q14 q15 q16 q17 q18 m0 p1 p2 p3 p4 p5 p6 p7 p8 p9 p10 p11 p12 p13 r2 r12 sK sV a0 a1 a2 a3, adk25 h0 q1 q2 q3 q4 q5 q6 q7 q8 q9 q10 q11 q12 q13 q14 q15 q16 q17 q18 m0 p1 p2 p3 p4 p5 p6 p7 p8 p9 p10 p11 p12 p13 r2 r12 sK sV a0 a1 a2 a3, adk26 h0 q1 q2 q3 q4 q5 q6 q7 q8 q9 q10 q11 q12 q13 q14 q15 q16 q17 q18 m0 p1 p2 p3 p4 p5 p6 p7 p8 p9 p10 p11 p12 p13 r2 r12 sK sV a0 a1 a2 a3, adk27 h0 q1 q2 q3 q4 q5 q6 q7 q8 q9 q10 q11 q12 q13 q14 q15 q16 q17 q18 m0 p1 p2 p3 p4 p5 p6 p7 p8 p9 p10 p11 p12 p13 r2 r12 sK sV a0 a1 a2 a3, adk28 h0 q1 q2 q3 q4 q5 q6 q7 q8 q9 q10 q11 q12 q13 q14 q15 q16 q17 q18 m0 p1 p2 p3 p4 p5 p6 p7 p8 p9 p10 p11 p12 p13 r2 r12 sK sV a0 a1 a2 a3, adk29 h0 q1 q2 q3 q4 q5 q6 q7 q8 q9 q10 q11 q12 q13 q14 q15 q16 q17 q18 m0 p1 p2 p3 p4 p5 p6 p7 p8 p9 p10 p11 p12 p13 r2 r12 sK sV a0 a1 a2 a3, adk30 h0 q1 q2 q3 q4 q5 q6 q7 q8 q9 q10 q11 q12 q13 q14 q15 q16 q17 q18 m0 p1 p2 p3 p4 p5 p6 p7 p8 p9 p10 p11 p12 p13 r2 r12 sK sV a0 a1 a2 a3, adk31 h0 q1 q2 q3 q4 q5 q6 q7 q8 q9 q10 q11 q12 q13 q14 q15 q16 q17 q18 m0 p1 p2 p3 p4 p5 p6 p7 p8 p9 p10 p11 p12 p13 r2 r12 sK sV a0 a1 a2 a3, adk32 h0 q1 q2 q3 q4 q5 q6 q7 q8 q9 q10 q11 q12 q13 q14 q15 q16 q17 q18 m0 p1 p2 p3 p4 p5 p6 p7 p8 p9 p10 p11 p12 p13 r2 r12 sK sV a0 a1 a2 a3, m0_19_2, m0_19_3, m0_19_4, m0_19_11, m0_19_12, m0_19_13, m0_19_14, m0_19_15, m0_19_16, m0_19_17, m0_19_19, m0_19_20, m0_19_21, m0_19_22, m0_19_23, m0_19_24]
  rfl
set_option maxRecDepth 20000 in
theorem wld_k20 (cy : Nat → ClassId) (h0 q1 q2 q3 q4 q5 q6 q7 q8 q9 q10 q11 q12 q13 q14 q15 q16 q17 q18 m0 p1 p2 p3 p4 p5 p6 p7 p8 p9 p10 p11 p12 p13 : Nat) (r2 r12 sK sV : Nat → Nat) (a0 a1 a2 a3 : Nat) : (wld cy h0 q1 q2 q3 q4 q5 q6 q7 q8 q9 q10 q11 q12 q13 q14 q15 q16 q17 q18 m0 p1 p2 p3 p4 p5 p6 p7 p8 p9 p10 p11 p12 p13 r2 r12)[posF 20]? = some (adF [h0, q1, q2, q3, q4, q5, q6, q7, q8, q9, q10, q11, q12, q13, q14, q15, q16, q17, q18] [m0, p1, p2, p3, p4, p5, p6, p7, p8, p9, p10, p11, p12, p13] r2 r12 sK sV a0 a1 a2 a3 20, we (adF [h0, q1, q2, q3, q4, q5, q6, q7, q8, q9, q10, q11, q12, q13, q14, q15, q16, q17, q18] [m0, p1, p2, p3, p4, p5, p6, p7, p8, p9, p10, p11, p12, p13] r2 r12 sK sV a0 a1 a2 a3) cy mem0 20 (.inl (0, 139))) := by
  rw [adk20 h0 q1 q2 q3 q4 q5 q6 q7 q8 q9 q10 q11 q12 q13 q14 q15 q16 q17 q18 m0 p1 p2 p3 p4 p5 p6 p7 p8 p9 p10 p11 p12 p13 r2 r12 sK sV a0 a1 a2 a3]
  rfl
set_option maxRecDepth 20000 in
theorem wld_k21 (cy : Nat → ClassId) (h0 q1 q2 q3 q4 q5 q6 q7 q8 q9 q10 q11 q12 q13 q14 q15 q16 q17 q18 m0 p1 p2 p3 p4 p5 p6 p7 p8 p9 p10 p11 p12 p13 : Nat) (r2 r12 sK sV : Nat → Nat) (a0 a1 a2 a3 : Nat) : (wld cy h0 q1 q2 q3 q4 q5 q6 q7 q8 q9 q10 q11 q12 q13 q14 q15 q16 q17 q18 m0 p1 p2 p3 p4 p5 p6 p7 p8 p9 p10 p11 p12 p13 r2 r12)[posF 21]? = some (adF [h0, q1, q2, q3, q4, q5, q6, q7, q8, q9, q10, q11, q12, q13, q14, q15, q16, q17, q18] [m0, p1, p2, p3, p4, p5, p6, p7, p8, p9, p10, p11, p12, p13] r2 r12 sK sV a0 a1 a2 a3 21, we (adF [h0, q1, q2, q3, q4, q5, q6, q7, q8, q9, q10, q11, q12, q13, q14, q15, q16, q17, q18] [m0, p1, p2, p3, p4, p5, p6, p7, p8, p9, p10, p11, p12, p13] r2 r12 sK sV a0 a1 a2 a3) cy mem0 21 (.inr (.inr (4, 30, 37)))) := by
  rw [adk21 h0 q1 q2 q3 q4 q5 q6 q7 q8 q9 q10 q11 q12 q13 q14 q15 q16 q17 q18 m0 p1 p2 p3 p4 p5 p6 p7 p8 p9 p10 p11 p12 p13 r2 r12 sK sV a0 a1 a2 a3]
  have e : (fun i => if i < 30 then some (r2 i) else none) = (fun i => if i < 30 then some ((adF [h0, q1, q2, q3, q4, q5, q6, q7, q8, q9, q10, q11, q12, q13, q14, q15, q16, q17, q18] [m0, p1, p2, p3, p4, p5, p6, p7, p8, p9, p10, p11, p12, p13] r2 r12 sK sV a0 a1 a2 a3) (37 + i)) else none) := by
    funext i
    by_cases h : i < 30
    · rw [if_pos h, if_pos h]; congr 1; unfold adF; rw [if_neg (by omega), if_neg (by omega), if_neg (by omega), if_pos (by omega), Nat.add_sub_cancel_left]
    · rw [if_neg h, if_neg h]
  show some (p2, (Sum.inl (cy 4, 30, .inr (.inr (.inr (.inr (fun i => if i < 30 then some (r2 i) else none))))) : va_E)) = some (p2, Sum.inl (cy 4, 30, .inr (.inr (.inr (.inr (fun i => if i < 30 then some ((adF [h0, q1, q2, q3, q4, q5, q6, q7, q8, q9, q10, q11, q12, q13, q14, q15, q16, q17, q18] [m0, p1, p2, p3, p4, p5, p6, p7, p8, p9, p10, p11, p12, p13] r2 r12 sK sV a0 a1 a2 a3) (37 + i)) else none))))))
  rw [e]
set_option maxRecDepth 20000 in
theorem wld_k22 (cy : Nat → ClassId) (h0 q1 q2 q3 q4 q5 q6 q7 q8 q9 q10 q11 q12 q13 q14 q15 q16 q17 q18 m0 p1 p2 p3 p4 p5 p6 p7 p8 p9 p10 p11 p12 p13 : Nat) (r2 r12 sK sV : Nat → Nat) (a0 a1 a2 a3 : Nat) : (wld cy h0 q1 q2 q3 q4 q5 q6 q7 q8 q9 q10 q11 q12 q13 q14 q15 q16 q17 q18 m0 p1 p2 p3 p4 p5 p6 p7 p8 p9 p10 p11 p12 p13 r2 r12)[posF 22]? = some (adF [h0, q1, q2, q3, q4, q5, q6, q7, q8, q9, q10, q11, q12, q13, q14, q15, q16, q17, q18] [m0, p1, p2, p3, p4, p5, p6, p7, p8, p9, p10, p11, p12, p13] r2 r12 sK sV a0 a1 a2 a3 22, we (adF [h0, q1, q2, q3, q4, q5, q6, q7, q8, q9, q10, q11, q12, q13, q14, q15, q16, q17, q18] [m0, p1, p2, p3, p4, p5, p6, p7, p8, p9, p10, p11, p12, p13] r2 r12 sK sV a0 a1 a2 a3) cy mem0 22 (.inl (0, 8))) := by
  rw [adk22 h0 q1 q2 q3 q4 q5 q6 q7 q8 q9 q10 q11 q12 q13 q14 q15 q16 q17 q18 m0 p1 p2 p3 p4 p5 p6 p7 p8 p9 p10 p11 p12 p13 r2 r12 sK sV a0 a1 a2 a3]
  rfl
set_option maxRecDepth 20000 in
theorem wld_k23 (cy : Nat → ClassId) (h0 q1 q2 q3 q4 q5 q6 q7 q8 q9 q10 q11 q12 q13 q14 q15 q16 q17 q18 m0 p1 p2 p3 p4 p5 p6 p7 p8 p9 p10 p11 p12 p13 : Nat) (r2 r12 sK sV : Nat → Nat) (a0 a1 a2 a3 : Nat) : (wld cy h0 q1 q2 q3 q4 q5 q6 q7 q8 q9 q10 q11 q12 q13 q14 q15 q16 q17 q18 m0 p1 p2 p3 p4 p5 p6 p7 p8 p9 p10 p11 p12 p13 r2 r12)[posF 23]? = some (adF [h0, q1, q2, q3, q4, q5, q6, q7, q8, q9, q10, q11, q12, q13, q14, q15, q16, q17, q18] [m0, p1, p2, p3, p4, p5, p6, p7, p8, p9, p10, p11, p12, p13] r2 r12 sK sV a0 a1 a2 a3 23, we (adF [h0, q1, q2, q3, q4, q5, q6, q7, q8, q9, q10, q11, q12, q13, q14, q15, q16, q17, q18] [m0, p1, p2, p3, p4, p5, p6, p7, p8, p9, p10, p11, p12, p13] r2 r12 sK sV a0 a1 a2 a3) cy mem0 23 (.inl (0, 139))) := by
  rw [adk23 h0 q1 q2 q3 q4 q5 q6 q7 q8 q9 q10 q11 q12 q13 q14 q15 q16 q17 q18 m0 p1 p2 p3 p4 p5 p6 p7 p8 p9 p10 p11 p12 p13 r2 r12 sK sV a0 a1 a2 a3]
  rfl
set_option maxRecDepth 20000 in
theorem wld_k24 (cy : Nat → ClassId) (h0 q1 q2 q3 q4 q5 q6 q7 q8 q9 q10 q11 q12 q13 q14 q15 q16 q17 q18 m0 p1 p2 p3 p4 p5 p6 p7 p8 p9 p10 p11 p12 p13 : Nat) (r2 r12 sK sV : Nat → Nat) (a0 a1 a2 a3 : Nat) : (wld cy h0 q1 q2 q3 q4 q5 q6 q7 q8 q9 q10 q11 q12 q13 q14 q15 q16 q17 q18 m0 p1 p2 p3 p4 p5 p6 p7 p8 p9 p10 p11 p12 p13 r2 r12)[posF 24]? = some (adF [h0, q1, q2, q3, q4, q5, q6, q7, q8, q9, q10, q11, q12, q13, q14, q15, q16, q17, q18] [m0, p1, p2, p3, p4, p5, p6, p7, p8, p9, p10, p11, p12, p13] r2 r12 sK sV a0 a1 a2 a3 24, we (adF [h0, q1, q2, q3, q4, q5, q6, q7, q8, q9, q10, q11, q12, q13, q14, q15, q16, q17, q18] [m0, p1, p2, p3, p4, p5, p6, p7, p8, p9, p10, p11, p12, p13] r2 r12 sK sV a0 a1 a2 a3) cy mem0 24 (.inl (0, 6))) := by
  rw [adk24 h0 q1 q2 q3 q4 q5 q6 q7 q8 q9 q10 q11 q12 q13 q14 q15 q16 q17 q18 m0 p1 p2 p3 p4 p5 p6 p7 p8 p9 p10 p11 p12 p13 r2 r12 sK sV a0 a1 a2 a3]
  rfl
set_option maxRecDepth 20000 in
theorem wld_k25 (cy : Nat → ClassId) (h0 q1 q2 q3 q4 q5 q6 q7 q8 q9 q10 q11 q12 q13 q14 q15 q16 q17 q18 m0 p1 p2 p3 p4 p5 p6 p7 p8 p9 p10 p11 p12 p13 : Nat) (r2 r12 sK sV : Nat → Nat) (a0 a1 a2 a3 : Nat) : (wld cy h0 q1 q2 q3 q4 q5 q6 q7 q8 q9 q10 q11 q12 q13 q14 q15 q16 q17 q18 m0 p1 p2 p3 p4 p5 p6 p7 p8 p9 p10 p11 p12 p13 r2 r12)[posF 25]? = some (adF [h0, q1, q2, q3, q4, q5, q6, q7, q8, q9, q10, q11, q12, q13, q14, q15, q16, q17, q18] [m0, p1, p2, p3, p4, p5, p6, p7, p8, p9, p10, p11, p12, p13] r2 r12 sK sV a0 a1 a2 a3 25, we (adF [h0, q1, q2, q3, q4, q5, q6, q7, q8, q9, q10, q11, q12, q13, q14, q15, q16, q17, q18] [m0, p1, p2, p3, p4, p5, p6, p7, p8, p9, p10, p11, p12, p13] r2 r12 sK sV a0 a1 a2 a3) cy mem0 25 (.inl (0, 6))) := by
  rw [adk25 h0 q1 q2 q3 q4 q5 q6 q7 q8 q9 q10 q11 q12 q13 q14 q15 q16 q17 q18 m0 p1 p2 p3 p4 p5 p6 p7 p8 p9 p10 p11 p12 p13 r2 r12 sK sV a0 a1 a2 a3]
  rfl
set_option maxRecDepth 20000 in
theorem wld_k26 (cy : Nat → ClassId) (h0 q1 q2 q3 q4 q5 q6 q7 q8 q9 q10 q11 q12 q13 q14 q15 q16 q17 q18 m0 p1 p2 p3 p4 p5 p6 p7 p8 p9 p10 p11 p12 p13 : Nat) (r2 r12 sK sV : Nat → Nat) (a0 a1 a2 a3 : Nat) : (wld cy h0 q1 q2 q3 q4 q5 q6 q7 q8 q9 q10 q11 q12 q13 q14 q15 q16 q17 q18 m0 p1 p2 p3 p4 p5 p6 p7 p8 p9 p10 p11 p12 p13 r2 r12)[posF 26]? = some (adF [h0, q1, q2, q3, q4, q5, q6, q7, q8, q9, q10, q11, q12, q13, q14, q15, q16, q17, q18] [m0, p1, p2, p3, p4, p5, p6, p7, p8, p9, p10, p11, p12, p13] r2 r12 sK sV a0 a1 a2 a3 26, we (adF [h0, q1, q2, q3, q4, q5, q6, q7, q8, q9, q10, q11, q12, q13, q14, q15, q16, q17, q18] [m0, p1, p2, p3, p4, p5, p6, p7, p8, p9, p10, p11, p12, p13] r2 r12 sK sV a0 a1 a2 a3) cy mem0 26 (.inl (0, 6))) := by
  rw [adk26 h0 q1 q2 q3 q4 q5 q6 q7 q8 q9 q10 q11 q12 q13 q14 q15 q16 q17 q18 m0 p1 p2 p3 p4 p5 p6 p7 p8 p9 p10 p11 p12 p13 r2 r12 sK sV a0 a1 a2 a3]
  rfl
set_option maxRecDepth 20000 in
theorem wld_k27 (cy : Nat → ClassId) (h0 q1 q2 q3 q4 q5 q6 q7 q8 q9 q10 q11 q12 q13 q14 q15 q16 q17 q18 m0 p1 p2 p3 p4 p5 p6 p7 p8 p9 p10 p11 p12 p13 : Nat) (r2 r12 sK sV : Nat → Nat) (a0 a1 a2 a3 : Nat) : (wld cy h0 q1 q2 q3 q4 q5 q6 q7 q8 q9 q10 q11 q12 q13 q14 q15 q16 q17 q18 m0 p1 p2 p3 p4 p5 p6 p7 p8 p9 p10 p11 p12 p13 r2 r12)[posF 27]? = some (adF [h0, q1, q2, q3, q4, q5, q6, q7, q8, q9, q10, q11, q12, q13, q14, q15, q16, q17, q18] [m0, p1, p2, p3, p4, p5, p6, p7, p8, p9, p10, p11, p12, p13] r2 r12 sK sV a0 a1 a2 a3 27, we (adF [h0, q1, q2, q3, q4, q5, q6, q7, q8, q9, q10, q11, q12, q13, q14, q15, q16, q17, q18] [m0, p1, p2, p3, p4, p5, p6, p7, p8, p9, p10, p11, p12, p13] r2 r12 sK sV a0 a1 a2 a3) cy mem0 27 (.inl (0, 6))) := by
  rw [adk27 h0 q1 q2 q3 q4 q5 q6 q7 q8 q9 q10 q11 q12 q13 q14 q15 q16 q17 q18 m0 p1 p2 p3 p4 p5 p6 p7 p8 p9 p10 p11 p12 p13 r2 r12 sK sV a0 a1 a2 a3]
  rfl
set_option maxRecDepth 20000 in
theorem wld_k28 (cy : Nat → ClassId) (h0 q1 q2 q3 q4 q5 q6 q7 q8 q9 q10 q11 q12 q13 q14 q15 q16 q17 q18 m0 p1 p2 p3 p4 p5 p6 p7 p8 p9 p10 p11 p12 p13 : Nat) (r2 r12 sK sV : Nat → Nat) (a0 a1 a2 a3 : Nat) : (wld cy h0 q1 q2 q3 q4 q5 q6 q7 q8 q9 q10 q11 q12 q13 q14 q15 q16 q17 q18 m0 p1 p2 p3 p4 p5 p6 p7 p8 p9 p10 p11 p12 p13 r2 r12)[posF 28]? = some (adF [h0, q1, q2, q3, q4, q5, q6, q7, q8, q9, q10, q11, q12, q13, q14, q15, q16, q17, q18] [m0, p1, p2, p3, p4, p5, p6, p7, p8, p9, p10, p11, p12, p13] r2 r12 sK sV a0 a1 a2 a3 28, we (adF [h0, q1, q2, q3, q4, q5, q6, q7, q8, q9, q10, q11, q12, q13, q14, q15, q16, q17, q18] [m0, p1, p2, p3, p4, p5, p6, p7, p8, p9, p10, p11, p12, p13] r2 r12 sK sV a0 a1 a2 a3) cy mem0 28 (.inl (0, 120))) := by
  rw [adk28 h0 q1 q2 q3 q4 q5 q6 q7 q8 q9 q10 q11 q12 q13 q14 q15 q16 q17 q18 m0 p1 p2 p3 p4 p5 p6 p7 p8 p9 p10 p11 p12 p13 r2 r12 sK sV a0 a1 a2 a3]
  rfl
set_option maxRecDepth 20000 in
theorem wld_k29 (cy : Nat → ClassId) (h0 q1 q2 q3 q4 q5 q6 q7 q8 q9 q10 q11 q12 q13 q14 q15 q16 q17 q18 m0 p1 p2 p3 p4 p5 p6 p7 p8 p9 p10 p11 p12 p13 : Nat) (r2 r12 sK sV : Nat → Nat) (a0 a1 a2 a3 : Nat) : (wld cy h0 q1 q2 q3 q4 q5 q6 q7 q8 q9 q10 q11 q12 q13 q14 q15 q16 q17 q18 m0 p1 p2 p3 p4 p5 p6 p7 p8 p9 p10 p11 p12 p13 r2 r12)[posF 29]? = some (adF [h0, q1, q2, q3, q4, q5, q6, q7, q8, q9, q10, q11, q12, q13, q14, q15, q16, q17, q18] [m0, p1, p2, p3, p4, p5, p6, p7, p8, p9, p10, p11, p12, p13] r2 r12 sK sV a0 a1 a2 a3 29, we (adF [h0, q1, q2, q3, q4, q5, q6, q7, q8, q9, q10, q11, q12, q13, q14, q15, q16, q17, q18] [m0, p1, p2, p3, p4, p5, p6, p7, p8, p9, p10, p11, p12, p13] r2 r12 sK sV a0 a1 a2 a3) cy mem0 29 (.inl (0, 4))) := by
  rw [adk29 h0 q1 q2 q3 q4 q5 q6 q7 q8 q9 q10 q11 q12 q13 q14 q15 q16 q17 q18 m0 p1 p2 p3 p4 p5 p6 p7 p8 p9 p10 p11 p12 p13 r2 r12 sK sV a0 a1 a2 a3]
  rfl
set_option maxRecDepth 20000 in
theorem wld_k30 (cy : Nat → ClassId) (h0 q1 q2 q3 q4 q5 q6 q7 q8 q9 q10 q11 q12 q13 q14 q15 q16 q17 q18 m0 p1 p2 p3 p4 p5 p6 p7 p8 p9 p10 p11 p12 p13 : Nat) (r2 r12 sK sV : Nat → Nat) (a0 a1 a2 a3 : Nat) : (wld cy h0 q1 q2 q3 q4 q5 q6 q7 q8 q9 q10 q11 q12 q13 q14 q15 q16 q17 q18 m0 p1 p2 p3 p4 p5 p6 p7 p8 p9 p10 p11 p12 p13 r2 r12)[posF 30]? = some (adF [h0, q1, q2, q3, q4, q5, q6, q7, q8, q9, q10, q11, q12, q13, q14, q15, q16, q17, q18] [m0, p1, p2, p3, p4, p5, p6, p7, p8, p9, p10, p11, p12, p13] r2 r12 sK sV a0 a1 a2 a3 30, we (adF [h0, q1, q2, q3, q4, q5, q6, q7, q8, q9, q10, q11, q12, q13, q14, q15, q16, q17, q18] [m0, p1, p2, p3, p4, p5, p6, p7, p8, p9, p10, p11, p12, p13] r2 r12 sK sV a0 a1 a2 a3) cy mem0 30 (.inl (0, 4))) := by
  rw [adk30 h0 q1 q2 q3 q4 q5 q6 q7 q8 q9 q10 q11 q12 q13 q14 q15 q16 q17 q18 m0 p1 p2 p3 p4 p5 p6 p7 p8 p9 p10 p11 p12 p13 r2 r12 sK sV a0 a1 a2 a3]
  rfl
set_option maxRecDepth 20000 in
theorem wld_k31 (cy : Nat → ClassId) (h0 q1 q2 q3 q4 q5 q6 q7 q8 q9 q10 q11 q12 q13 q14 q15 q16 q17 q18 m0 p1 p2 p3 p4 p5 p6 p7 p8 p9 p10 p11 p12 p13 : Nat) (r2 r12 sK sV : Nat → Nat) (a0 a1 a2 a3 : Nat) : (wld cy h0 q1 q2 q3 q4 q5 q6 q7 q8 q9 q10 q11 q12 q13 q14 q15 q16 q17 q18 m0 p1 p2 p3 p4 p5 p6 p7 p8 p9 p10 p11 p12 p13 r2 r12)[posF 31]? = some (adF [h0, q1, q2, q3, q4, q5, q6, q7, q8, q9, q10, q11, q12, q13, q14, q15, q16, q17, q18] [m0, p1, p2, p3, p4, p5, p6, p7, p8, p9, p10, p11, p12, p13] r2 r12 sK sV a0 a1 a2 a3 31, we (adF [h0, q1, q2, q3, q4, q5, q6, q7, q8, q9, q10, q11, q12, q13, q14, q15, q16, q17, q18] [m0, p1, p2, p3, p4, p5, p6, p7, p8, p9, p10, p11, p12, p13] r2 r12 sK sV a0 a1 a2 a3) cy mem0 31 (.inr (.inr (5, 4, 33)))) := by
  rw [adk31 h0 q1 q2 q3 q4 q5 q6 q7 q8 q9 q10 q11 q12 q13 q14 q15 q16 q17 q18 m0 p1 p2 p3 p4 p5 p6 p7 p8 p9 p10 p11 p12 p13 r2 r12 sK sV a0 a1 a2 a3]
  have e : (fun i => if i < 4 then some (r12 i) else none) = (fun i => if i < 4 then some ((adF [h0, q1, q2, q3, q4, q5, q6, q7, q8, q9, q10, q11, q12, q13, q14, q15, q16, q17, q18] [m0, p1, p2, p3, p4, p5, p6, p7, p8, p9, p10, p11, p12, p13] r2 r12 sK sV a0 a1 a2 a3) (33 + i)) else none) := by
    funext i
    by_cases h : i < 4
    · rw [if_pos h, if_pos h]; congr 1; unfold adF; rw [if_neg (by omega), if_neg (by omega), if_pos (by omega), Nat.add_sub_cancel_left]
    · rw [if_neg h, if_neg h]
  show some (p12, (Sum.inl (cy 5, 4, .inr (.inr (.inr (.inr (fun i => if i < 4 then some (r12 i) else none))))) : va_E)) = some (p12, Sum.inl (cy 5, 4, .inr (.inr (.inr (.inr (fun i => if i < 4 then some ((adF [h0, q1, q2, q3, q4, q5, q6, q7, q8, q9, q10, q11, q12, q13, q14, q15, q16, q17, q18] [m0, p1, p2, p3, p4, p5, p6, p7, p8, p9, p10, p11, p12, p13] r2 r12 sK sV a0 a1 a2 a3) (33 + i)) else none))))))
  rw [e]
set_option maxRecDepth 20000 in
theorem wld_k32 (cy : Nat → ClassId) (h0 q1 q2 q3 q4 q5 q6 q7 q8 q9 q10 q11 q12 q13 q14 q15 q16 q17 q18 m0 p1 p2 p3 p4 p5 p6 p7 p8 p9 p10 p11 p12 p13 : Nat) (r2 r12 sK sV : Nat → Nat) (a0 a1 a2 a3 : Nat) : (wld cy h0 q1 q2 q3 q4 q5 q6 q7 q8 q9 q10 q11 q12 q13 q14 q15 q16 q17 q18 m0 p1 p2 p3 p4 p5 p6 p7 p8 p9 p10 p11 p12 p13 r2 r12)[posF 32]? = some (adF [h0, q1, q2, q3, q4, q5, q6, q7, q8, q9, q10, q11, q12, q13, q14, q15, q16, q17, q18] [m0, p1, p2, p3, p4, p5, p6, p7, p8, p9, p10, p11, p12, p13] r2 r12 sK sV a0 a1 a2 a3 32, we (adF [h0, q1, q2, q3, q4, q5, q6, q7, q8, q9, q10, q11, q12, q13, q14, q15, q16, q17, q18] [m0, p1, p2, p3, p4, p5, p6, p7, p8, p9, p10, p11, p12, p13] r2 r12 sK sV a0 a1 a2 a3) cy mem0 32 (.inl (3, 40))) := by
  rw [adk32 h0 q1 q2 q3 q4 q5 q6 q7 q8 q9 q10 q11 q12 q13 q14 q15 q16 q17 q18 m0 p1 p2 p3 p4 p5 p6 p7 p8 p9 p10 p11 p12 p13 r2 r12 sK sV a0 a1 a2 a3]
  rfl
set_option maxHeartbeats 4000000 in
set_option maxRecDepth 100000 in
theorem wld_at (cy : Nat → ClassId) (h0 q1 q2 q3 q4 q5 q6 q7 q8 q9 q10 q11 q12 q13 q14 q15 q16 q17 q18 m0 p1 p2 p3 p4 p5 p6 p7 p8 p9 p10 p11 p12 p13 : Nat) (r2 r12 sK sV : Nat → Nat) (a0 a1 a2 a3 : Nat) (hrr : ∀ i j, i < 30 → j < 4 → r2 i ≠ r12 j) : ∀ (k : Nat) (sh : Sh), shape[k]? = some sh → (wld cy h0 q1 q2 q3 q4 q5 q6 q7 q8 q9 q10 q11 q12 q13 q14 q15 q16 q17 q18 m0 p1 p2 p3 p4 p5 p6 p7 p8 p9 p10 p11 p12 p13 r2 r12)[posF k]? = some (adF [h0, q1, q2, q3, q4, q5, q6, q7, q8, q9, q10, q11, q12, q13, q14, q15, q16, q17, q18] [m0, p1, p2, p3, p4, p5, p6, p7, p8, p9, p10, p11, p12, p13] r2 r12 sK sV a0 a1 a2 a3 k, we (adF [h0, q1, q2, q3, q4, q5, q6, q7, q8, q9, q10, q11, q12, q13, q14, q15, q16, q17, q18] [m0, p1, p2, p3, p4, p5, p6, p7, p8, p9, p10, p11, p12, p13] r2 r12 sK sV a0 a1 a2 a3) cy mem0 k sh) := by
  intro k sh hk
  have h67 : k < 67 := by
    have := (List.getElem?_eq_some_iff.mp hk).1
    exact this
  by_cases h33 : k < 33
  · match k, hk, h33 with
    | 0, hk, _ => cases hk; exact wld_k0 cy h0 q1 q2 q3 q4 q5 q6 q7 q8 q9 q10 q11 q12 q13 q14 q15 q16 q17 q18 m0 p1 p2 p3 p4 p5 p6 p7 p8 p9 p10 p11 p12 p13 r2 r12 sK sV a0 a1 a2 a3
    | 1, hk, _ => cases hk; exact wld_k1 cy h0 q1 q2 q3 q4 q5 q6 q7 q8 q9 q10 q11 q12 q13 q14 q15 q16 q17 q18 m0 p1 p2 p3 p4 p5 p6 p7 p8 p9 p10 p11 p12 p13 r2 r12 sK sV a0 a1 a2 a3
    | 2, hk, _ => cases hk; exact wld_k2 cy h0 q1 q2 q3 q4 q5 q6 q7 q8 q9 q10 q11 q12 q13 q14 q15 q16 q17 q18 m0 p1 p2 p3 p4 p5 p6 p7 p8 p9 p10 p11 p12 p13 r2 r12 sK sV a0 a1 a2 a3
    | 3, hk, _ => cases hk; exact wld_k3 cy h0 q1 q2 q3 q4 q5 q6 q7 q8 q9 q10 q11 q12 q13 q14 q15 q16 q17 q18 m0 p1 p2 p3 p4 p5 p6 p7 p8 p9 p10 p11 p12 p13 r2 r12 sK sV a0 a1 a2 a3
    | 4, hk, _ => cases hk; exact wld_k4 cy h0 q1 q2 q3 q4 q5 q6 q7 q8 q9 q10 q11 q12 q13 q14 q15 q16 q17 q18 m0 p1 p2 p3 p4 p5 p6 p7 p8 p9 p10 p11 p12 p13 r2 r12 sK sV a0 a1 a2 a3
    | 5, hk, _ => cases hk; exact wld_k5 cy h0 q1 q2 q3 q4 q5 q6 q7 q8 q9 q10 q11 q12 q13 q14 q15 q16 q17 q18 m0 p1 p2 p3 p4 p5 p6 p7 p8 p9 p10 p11 p12 p13 r2 r12 sK sV a0 a1 a2 a3
    | 6, hk, _ => cases hk; exact wld_k6 cy h0 q1 q2 q3 q4 q5 q6 q7 q8 q9 q10 q11 q12 q13 q14 q15 q16 q17 q18 m0 p1 p2 p3 p4 p5 p6 p7 p8 p9 p10 p11 p12 p13 r2 r12 sK sV a0 a1 a2 a3
    | 7, hk, _ => cases hk; exact wld_k7 cy h0 q1 q2 q3 q4 q5 q6 q7 q8 q9 q10 q11 q12 q13 q14 q15 q16 q17 q18 m0 p1 p2 p3 p4 p5 p6 p7 p8 p9 p10 p11 p12 p13 r2 r12 sK sV a0 a1 a2 a3
    | 8, hk, _ => cases hk; exact wld_k8 cy h0 q1 q2 q3 q4 q5 q6 q7 q8 q9 q10 q11 q12 q13 q14 q15 q16 q17 q18 m0 p1 p2 p3 p4 p5 p6 p7 p8 p9 p10 p11 p12 p13 r2 r12 sK sV a0 a1 a2 a3
    | 9, hk, _ => cases hk; exact wld_k9 cy h0 q1 q2 q3 q4 q5 q6 q7 q8 q9 q10 q11 q12 q13 q14 q15 q16 q17 q18 m0 p1 p2 p3 p4 p5 p6 p7 p8 p9 p10 p11 p12 p13 r2 r12 sK sV a0 a1 a2 a3
    | 10, hk, _ => cases hk; exact wld_k10 cy h0 q1 q2 q3 q4 q5 q6 q7 q8 q9 q10 q11 q12 q13 q14 q15 q16 q17 q18 m0 p1 p2 p3 p4 p5 p6 p7 p8 p9 p10 p11 p12 p13 r2 r12 sK sV a0 a1 a2 a3
    | 11, hk, _ => cases hk; exact wld_k11 cy h0 q1 q2 q3 q4 q5 q6 q7 q8 q9 q10 q11 q12 q13 q14 q15 q16 q17 q18 m0 p1 p2 p3 p4 p5 p6 p7 p8 p9 p10 p11 p12 p13 r2 r12 sK sV a0 a1 a2 a3
    | 12, hk, _ => cases hk; exact wld_k12 cy h0 q1 q2 q3 q4 q5 q6 q7 q8 q9 q10 q11 q12 q13 q14 q15 q16 q17 q18 m0 p1 p2 p3 p4 p5 p6 p7 p8 p9 p10 p11 p12 p13 r2 r12 sK sV a0 a1 a2 a3
    | 13, hk, _ => cases hk; exact wld_k13 cy h0 q1 q2 q3 q4 q5 q6 q7 q8 q9 q10 q11 q12 q13 q14 q15 q16 q17 q18 m0 p1 p2 p3 p4 p5 p6 p7 p8 p9 p10 p11 p12 p13 r2 r12 sK sV a0 a1 a2 a3
    | 14, hk, _ => cases hk; exact wld_k14 cy h0 q1 q2 q3 q4 q5 q6 q7 q8 q9 q10 q11 q12 q13 q14 q15 q16 q17 q18 m0 p1 p2 p3 p4 p5 p6 p7 p8 p9 p10 p11 p12 p13 r2 r12 sK sV a0 a1 a2 a3
    | 15, hk, _ => cases hk; exact wld_k15 cy h0 q1 q2 q3 q4 q5 q6 q7 q8 q9 q10 q11 q12 q13 q14 q15 q16 q17 q18 m0 p1 p2 p3 p4 p5 p6 p7 p8 p9 p10 p11 p12 p13 r2 r12 sK sV a0 a1 a2 a3
    | 16, hk, _ => cases hk; exact wld_k16 cy h0 q1 q2 q3 q4 q5 q6 q7 q8 q9 q10 q11 q12 q13 q14 q15 q16 q17 q18 m0 p1 p2 p3 p4 p5 p6 p7 p8 p9 p10 p11 p12 p13 r2 r12 sK sV a0 a1 a2 a3
    | 17, hk, _ => cases hk; exact wld_k17 cy h0 q1 q2 q3 q4 q5 q6 q7 q8 q9 q10 q11 q12 q13 q14 q15 q16 q17 q18 m0 p1 p2 p3 p4 p5 p6 p7 p8 p9 p10 p11 p12 p13 r2 r12 sK sV a0 a1 a2 a3
    | 18, hk, _ => cases hk; exact wld_k18 cy h0 q1 q2 q3 q4 q5 q6 q7 q8 q9 q10 q11 q12 q13 q14 q15 q16 q17 q18 m0 p1 p2 p3 p4 p5 p6 p7 p8 p9 p10 p11 p12 p13 r2 r12 sK sV a0 a1 a2 a3
    | 19, hk, _ => cases hk; exact wld_k19 cy h0 q1 q2 q3 q4 q5 q6 q7 q8 q9 q10 q11 q12 q13 q14 q15 q16 q17 q18 m0 p1 p2 p3 p4 p5 p6 p7 p8 p9 p10 p11 p12 p13 r2 r12 sK sV a0 a1 a2 a3
    | 20, hk, _ => cases hk; exact wld_k20 cy h0 q1 q2 q3 q4 q5 q6 q7 q8 q9 q10 q11 q12 q13 q14 q15 q16 q17 q18 m0 p1 p2 p3 p4 p5 p6 p7 p8 p9 p10 p11 p12 p13 r2 r12 sK sV a0 a1 a2 a3
    | 21, hk, _ => cases hk; exact wld_k21 cy h0 q1 q2 q3 q4 q5 q6 q7 q8 q9 q10 q11 q12 q13 q14 q15 q16 q17 q18 m0 p1 p2 p3 p4 p5 p6 p7 p8 p9 p10 p11 p12 p13 r2 r12 sK sV a0 a1 a2 a3
    | 22, hk, _ => cases hk; exact wld_k22 cy h0 q1 q2 q3 q4 q5 q6 q7 q8 q9 q10 q11 q12 q13 q14 q15 q16 q17 q18 m0 p1 p2 p3 p4 p5 p6 p7 p8 p9 p10 p11 p12 p13 r2 r12 sK sV a0 a1 a2 a3
    | 23, hk, _ => cases hk; exact wld_k23 cy h0 q1 q2 q3 q4 q5 q6 q7 q8 q9 q10 q11 q12 q13 q14 q15 q16 q17 q18 m0 p1 p2 p3 p4 p5 p6 p7 p8 p9 p10 p11 p12 p13 r2 r12 sK sV a0 a1 a2 a3
    | 24, hk, _ => cases hk; exact wld_k24 cy h0 q1 q2 q3 q4 q5 q6 q7 q8 q9 q10 q11 q12 q13 q14 q15 q16 q17 q18 m0 p1 p2 p3 p4 p5 p6 p7 p8 p9 p10 p11 p12 p13 r2 r12 sK sV a0 a1 a2 a3
    | 25, hk, _ => cases hk; exact wld_k25 cy h0 q1 q2 q3 q4 q5 q6 q7 q8 q9 q10 q11 q12 q13 q14 q15 q16 q17 q18 m0 p1 p2 p3 p4 p5 p6 p7 p8 p9 p10 p11 p12 p13 r2 r12 sK sV a0 a1 a2 a3
    | 26, hk, _ => cases hk; exact wld_k26 cy h0 q1 q2 q3 q4 q5 q6 q7 q8 q9 q10 q11 q12 q13 q14 q15 q16 q17 q18 m0 p1 p2 p3 p4 p5 p6 p7 p8 p9 p10 p11 p12 p13 r2 r12 sK sV a0 a1 a2 a3
    | 27, hk, _ => cases hk; exact wld_k27 cy h0 q1 q2 q3 q4 q5 q6 q7 q8 q9 q10 q11 q12 q13 q14 q15 q16 q17 q18 m0 p1 p2 p3 p4 p5 p6 p7 p8 p9 p10 p11 p12 p13 r2 r12 sK sV a0 a1 a2 a3
    | 28, hk, _ => cases hk; exact wld_k28 cy h0 q1 q2 q3 q4 q5 q6 q7 q8 q9 q10 q11 q12 q13 q14 q15 q16 q17 q18 m0 p1 p2 p3 p4 p5 p6 p7 p8 p9 p10 p11 p12 p13 r2 r12 sK sV a0 a1 a2 a3
    | 29, hk, _ => cases hk; exact wld_k29 cy h0 q1 q2 q3 q4 q5 q6 q7 q8 q9 q10 q11 q12 q13 q14 q15 q16 q17 q18 m0 p1 p2 p3 p4 p5 p6 p7 p8 p9 p10 p11 p12 p13 r2 r12 sK sV a0 a1 a2 a3
    | 30, hk, _ => cases hk; exact wld_k30 cy h0 q1 q2 q3 q4 q5 q6 q7 q8 q9 q10 q11 q12 q13 q14 q15 q16 q17 q18 m0 p1 p2 p3 p4 p5 p6 p7 p8 p9 p10 p11 p12 p13 r2 r12 sK sV a0 a1 a2 a3
    | 31, hk, _ => cases hk; exact wld_k31 cy h0 q1 q2 q3 q4 q5 q6 q7 q8 q9 q10 q11 q12 q13 q14 q15 q16 q17 q18 m0 p1 p2 p3 p4 p5 p6 p7 p8 p9 p10 p11 p12 p13 r2 r12 sK sV a0 a1 a2 a3
    | 32, hk, _ => cases hk; exact wld_k32 cy h0 q1 q2 q3 q4 q5 q6 q7 q8 q9 q10 q11 q12 q13 q14 q15 q16 q17 q18 m0 p1 p2 p3 p4 p5 p6 p7 p8 p9 p10 p11 p12 p13 r2 r12 sK sV a0 a1 a2 a3
    | k + 33, _, h => exact absurd h (by omega)
  · by_cases h37 : k < 37
    · obtain ⟨j, hj, rfl⟩ : ∃ j, j < 4 ∧ k = 33 + j := ⟨k - 33, by omega, by omega⟩
      obtain rfl | rfl | rfl | rfl : j = 0 ∨ j = 1 ∨ j = 2 ∨ j = 3 := by omega
      · cases hk; exact wld_r12 cy h0 q1 q2 q3 q4 q5 q6 q7 q8 q9 q10 q11 q12 q13 q14 q15 q16 q17 q18 m0 p1 p2 p3 p4 p5 p6 p7 p8 p9 p10 p11 p12 p13 r2 r12 sK sV a0 a1 a2 a3 0 (by omega)
      · cases hk; exact wld_r12 cy h0 q1 q2 q3 q4 q5 q6 q7 q8 q9 q10 q11 q12 q13 q14 q15 q16 q17 q18 m0 p1 p2 p3 p4 p5 p6 p7 p8 p9 p10 p11 p12 p13 r2 r12 sK sV a0 a1 a2 a3 1 (by omega)
      · cases hk; exact wld_r12 cy h0 q1 q2 q3 q4 q5 q6 q7 q8 q9 q10 q11 q12 q13 q14 q15 q16 q17 q18 m0 p1 p2 p3 p4 p5 p6 p7 p8 p9 p10 p11 p12 p13 r2 r12 sK sV a0 a1 a2 a3 2 (by omega)
      · cases hk; exact wld_r12 cy h0 q1 q2 q3 q4 q5 q6 q7 q8 q9 q10 q11 q12 q13 q14 q15 q16 q17 q18 m0 p1 p2 p3 p4 p5 p6 p7 p8 p9 p10 p11 p12 p13 r2 r12 sK sV a0 a1 a2 a3 3 (by omega)
    · obtain ⟨j, hj, rfl⟩ : ∃ j, j < 30 ∧ k = 37 + j := ⟨k - 37, by omega, by omega⟩
      have hs : shape[37 + j]? = some (.inl (0, 139)) := by
        unfold shape
        rw [List.getElem?_append_right (Nat.le_add_right 37 j)]
        show (List.replicate 30 _)[37 + j - 37]? = _
        rw [Nat.add_sub_cancel_left, List.getElem?_replicate, if_pos hj]
      rw [hs] at hk
      cases hk
      exact wld_r2 cy h0 q1 q2 q3 q4 q5 q6 q7 q8 q9 q10 q11 q12 q13 q14 q15 q16 q17 q18 m0 p1 p2 p3 p4 p5 p6 p7 p8 p9 p10 p11 p12 p13 r2 r12 sK sV a0 a1 a2 a3 hrr j hj
theorem posF_inj {i j : Nat} (hi : i < 67) (hj : j < 67) (h : posF i = posF j) : i = j := by
  unfold posF at h
  split at h <;> split at h <;> (try split at h) <;> (try split at h) <;> omega
theorem lay_of {D : va_G} {ad : Nat → Nat} {cy : Nat → ClassId} {A : Nat → Prop} {σ : Mem} {H : Heap} {wd : va_W} (hat : ∀ (k : Nat) (sh : Sh), shape[k]? = some sh → wd[posF k]? = some (ad k, we ad cy σ k sh)) (hP : va_P D classes wd H) (hD : va_D A wd) : va_P D classes (lay ad cy σ) H ∧ va_D A (lay ad cy σ) := by
  have key : ∀ (k : Nat) (q : Nat × va_E), (lay ad cy σ)[k]? = some q → k < 67 ∧ wd[posF k]? = some q := by
    intro k q hk
    unfold lay at hk
    rw [List.getElem?_mapIdx] at hk
    cases hs : shape[k]? with
    | none => rw [hs] at hk; cases hk
    | some sh =>
      rw [hs] at hk
      cases hk
      exact ⟨(List.getElem?_eq_some_iff.mp hs).1, hat k sh hs⟩
  refine ⟨fun k q hk => hP _ q (key k q hk).2, fun i j x y hi hj hxy => ?_, fun k q hk => hD.2 _ q (key k q hk).2⟩
  obtain ⟨h1, h2⟩ := key i x hi
  obtain ⟨h3, h4⟩ := key j y hj
  exact posF_inj h1 h3 (hD.1 _ _ x y h2 h4 hxy)
/-- the constants at the start -/
theorem cst_of {args : Array Value} {s : State} {D : va_G} {cy : Nat → ClassId} (hts : ∀ w ∈ lw_tbl, w.before args s = true) (hgv : (Jvm.Cond.and given_1 narrow_1).before args s = true) (hK : va_K D classes (tysOf cy) s) {b L : Nat} {xs : Nat → Int32} (hX : va_X b L xs s s.heap) (hbl : b < s.heap.size) (hL : L ≤ 3584) :
    ∃ (sK sV : Nat → Nat) (a0 a1 a3 : Nat), ∀ (LA LB : List Nat) (r2 r12 : Nat → Nat), Cst D (adF LA LB r2 r12 sK sV a0 a1 b a3) cy (fun q => s.heap.size ≤ q) (L, xs) s s.heap := by
  have hnA : ∀ a : Nat, a < s.heap.size → ¬ (fun q => s.heap.size ≤ q) a := fun a h q => absurd h (Nat.not_lt.mpr q)
  have hstr : ∀ i : Nat, ∃ av : Nat × Nat, ∀ (q : String × Nat × String) (bs : List Int32), strL[i]? = some q → strB[i]? = some bs → (Term.string q.1 q.2.1).eval args s none [] s = some (.ref av.1) ∧ va_O "java/lang/String" av.1 (fun q => s.heap.size ≤ q) s s.heap ∧ va_OF "java/lang/String" "coder" "B" (.int 0) av.1 (fun q => s.heap.size ≤ q) s s.heap ∧ va_OF "java/lang/String" "value" "[B" (.ref av.2) av.1 (fun q => s.heap.size ≤ q) s s.heap ∧ va_T .byte av.2 bs.length (fun j => .int (bs.getD j 0)) (fun q => s.heap.size ≤ q) s s.heap := by
    intro i
    cases hi : strL[i]? with
    | none => exact ⟨(0, 0), fun q bs h _ => by cases h⟩
    | some q =>
      cases hb : strB[i]? with
      | none => exact ⟨(0, 0), fun q bs _ h => by cases h⟩
      | some bs =>
        obtain ⟨a, v, h⟩ := str_at hgv hnA hi hb
        exact ⟨(a, v), fun q' bs' h1 h2 => by cases h1; cases h2; exact h⟩
  obtain ⟨t0, hv0, hT0⟩ := ar_at hgv hnA (by decide) arW_lay
  obtain ⟨t1, hv1, hT1⟩ := ar_at hgv hnA (by decide) arW_blk
  obtain ⟨a3, hfm⟩ : ∃ a3 : Nat, va_Z "jdk/internal/util/Preconditions" "SIOOBE_FORMATTER" "Ljava/util/function/BiFunction;" (va_rf (match a3 with | 0 => none | n + 1 => some n)) (fun q => s.heap.size ≤ q) s s.heap := by
    rcases va_Zqof (hts _ lsFmt) (hts _ inPre) (flatG hgv fmtW) hnA with h | ⟨t, h⟩
    · exact ⟨0, h⟩
    · exact ⟨t + 1, h⟩
  have hlen : strL.length = 28 := rfl
  have hlenB : strB.length = 28 := rfl
  refine ⟨fun i => (Classical.choose (hstr i)).1, fun i => (Classical.choose (hstr i)).2, t0, t1, a3, fun LA LB r2 r12 => ?_⟩
  have eK : ∀ i, i < 28 → adF LA LB r2 r12 (fun i => (Classical.choose (hstr i)).1) (fun i => (Classical.choose (hstr i)).2) t0 t1 b a3 (1000 + i) = (Classical.choose (hstr i)).1 := by
    intro i hi
    unfold adF
    rw [if_neg (by omega), if_neg (by omega), if_neg (by omega), if_neg (by omega), if_pos (by omega), Nat.add_sub_cancel_left]
  have eV : ∀ i, i < 28 → adF LA LB r2 r12 (fun i => (Classical.choose (hstr i)).1) (fun i => (Classical.choose (hstr i)).2) t0 t1 b a3 (1500 + i) = (Classical.choose (hstr i)).2 := by
    intro i hi
    unfold adF
    rw [if_neg (by omega), if_neg (by omega), if_neg (by omega), if_neg (by omega), if_neg (by omega), if_pos (by omega), Nat.add_sub_cancel_left]
  refine ⟨hK, fun i bs hbs => ?_, fun i q hq => ?_, fun b' n f hbf => ?_, fun q hq => ?_, fun w hw => ?_⟩
  · have hi : i < 28 := by rw [← hlenB]; exact (List.getElem?_eq_some_iff.mp hbs).1
    have hq : strL[i]? = some strL[i] := List.getElem?_eq_getElem (by rw [hlen]; exact hi)
    obtain ⟨-, h⟩ := Classical.choose_spec (hstr i) _ bs hq hbs
    rw [eK i hi, eV i hi]
    exact h
  · have hi : i < 28 := by rw [← hlen]; exact (List.getElem?_eq_some_iff.mp hq).1
    have hbs : strB[i]? = some strB[i] := List.getElem?_eq_getElem (by rw [hlenB]; exact hi)
    obtain ⟨h, -⟩ := Classical.choose_spec (hstr i) q _ hq hbs
    rw [eK i hi]
    have hm : Cond.stringRef q.1 q.2.1 q.2.2 ∈ lw_tbl := by have := List.all_eq_true.mp strR_all q (List.mem_of_getElem? hq); simpa using this
    have h2 := hts _ hm
    exact ⟨by first | exact va_tabs rfl rfl h2 | exact h2 | (simp only [Cond.before, Cond.holds, Cond.value] at h2 ⊢; exact h2), by first | (rw [Term.string_eval_of_vm (args := #[]) (rfl : s.vm = s.vm)]; exact h) | exact h⟩
  · unfold cA at hbf
    by_cases e0 : b' = 2000
    · subst e0; rw [if_pos rfl] at hbf; cases hbf; exact hT0
    · rw [if_neg e0] at hbf
      by_cases e1 : b' = 2001
      · subst e1; rw [if_pos rfl] at hbf; cases hbf; exact hT1
      · rw [if_neg e1] at hbf
        by_cases e2 : b' = 2002
        · subst e2; rw [if_pos rfl] at hbf; cases hbf
          obtain ⟨scr, h1, h2, h3, h4, h5⟩ := hX
          exact ⟨scr, h1, h2, h3, (by omega), (by first | (rw [h4]; done) | (rw [h4]; rfl)), h5, hnA b hbl⟩
        · rw [if_neg e2] at hbf; cases hbf
  · simp only [statL, List.mem_cons, List.not_mem_nil, or_false] at hq
    rcases hq with rfl | rfl | rfl | rfl
    · exact va_Zof (hts _ lsLay) (hts _ inSeat) hv0 hnA
    · exact va_Zof (hts _ lsBlk) (hts _ inSeat) hv1 hnA
    · exact va_Zof (hts _ lsCmp) (hts _ inStr) (eq_ev (flatG hgv cmpW)) hnA
    · exact hfm
  · have hm : w ∈ lw_tbl := by have := List.all_eq_true.mp nestL_in w hw; simpa using this
    obtain ⟨a, i, b1, n, d, g, rfl⟩ := nest_ok hw
    exact va_Nw.of rfl (hts _ hm)
