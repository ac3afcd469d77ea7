/-! J: a method's contract out of its run, and calls -/
def rmD (d : Nat) : Room := { frames := d, cells := 0, slots := 0, locals := 70 * d }
def ent : List Value → List (Option Value)
  | [] => []
  | v :: vs => if v.category = 2 then some v :: none :: ent vs else some v :: ent vs
def entL (n : Nat) (av : List Value) : List (Option Value) := ent av ++ List.replicate (n - (ent av).length) none
theorem ent_len (ad : Nat → Nat) : ∀ av : List Value, (lg_sl (av.map (tv ad))).length = (ent av).length
  | [] => rfl
  | v :: vs => by
    have ih := ent_len ad vs
    unfold lg_sl at ih ⊢
    simp only [List.map_cons, List.flatMap_cons, List.length_append, ent, tv_cat]
    rw [ih]
    by_cases h : v.category = 2
    · rw [if_pos h, if_pos h]; simp; omega
    · rw [if_neg h, if_neg h]; simp; omega
theorem ent_arg (ad : Nat → Nat) : ∀ (av : List Value) (k i : Nat) (v : Value), (ent av)[i]? = some (some v) → (k + i, tv ad v) ∈ lv_args k (av.map (tv ad))
  | [], k, i, v, h => by simp [ent] at h
  | a :: vs, k, i, v, h => by
    simp only [List.map_cons, lv_args, tv_cat]
    simp only [ent] at h
    by_cases hc : a.category = 2
    · rw [if_pos hc] at h ⊢
      match i, h with
      | 0, h => cases h; exact List.mem_cons_self
      | 1, h => cases h
      | i + 2, h =>
        have h2 : (ent vs)[i]? = some (some v) := h
        have := ent_arg ad vs (k + 2) i v h2
        rw [show k + (i + 2) = k + 2 + i by omega]
        exact List.mem_cons_of_mem _ this
    · rw [if_neg hc] at h ⊢
      match i, h with
      | 0, h => cases h; exact List.mem_cons_self
      | i + 1, h =>
        have h2 : (ent vs)[i]? = some (some v) := h
        have := ent_arg ad vs (k + 1) i v h2
        rw [show k + (i + 1) = k + 1 + i by omega]
        exact List.mem_cons_of_mem _ this
theorem entL_arg (ad : Nat → Nat) {n : Nat} {av : List Value} {i : Nat} {v : Value} (h : (entL n av)[i]? = some (some v)) : (i, tv ad v) ∈ lv_args 0 (av.map (tv ad)) := by
  unfold entL at h
  by_cases hi : i < (ent av).length
  · rw [List.getElem?_append_left hi] at h
    have := ent_arg ad av 0 i v h
    rwa [Nat.zero_add] at this
  · rw [List.getElem?_append_right (by omega)] at h
    have h1 := List.getElem?_eq_some_iff.mp h
    obtain ⟨h2, h3⟩ := h1
    rw [List.getElem_replicate] at h3
    cases h3
def PcM (D : va_G) (ad : Nat → Nat) (cy : Nat → ClassId) (A : Nat → Prop) (X : Scr) (σ : Mem) (av : List Value) : Array Value → State → Prop := fun a U => a = (av.map (tv ad)).toArray ∧ Cst D ad cy A X U U.heap ∧ va_P D classes (lay ad cy σ) U.heap ∧ va_D A (lay ad cy σ)
def QcM (D : va_G) (ad : Nat → Nat) (cy : Nat → ClassId) (A : Nat → Prop) (v : Option Value) (σ' : Mem) : Array Value → State → Outcome → State → Prop := fun _ st oc t => oc = .returned (v.map (tv ad)) ∧ va_P D classes (lay ad cy σ') t.heap ∧ va_F A st t
theorem J_met {X : Scr} {M : MD} {d : Nat} {av : List Value} {L0 : List (Option Value)} {σ σ' : Mem} {v : Option Value} (hn : plainName M.1.cls = true) (hL : entL M.2.2.1 av = L0) (hlen : (ent av).length ≤ M.2.2.1) (h : J X M d 0 L0 [] σ v σ') (l : Launch) (D : va_G) (ad : Nat → Nat) (cy : Nat → ClassId) (A : Nat → Prop) :
    Met l M.1 (wsM M) (rmD d) (PcM D ad cy A X σ av) (QcM D ad cy A v σ') 0 0 A := by
  refine Met.ofW (cc := M.2.1) (maxL := M.2.2.1) (ret := M.2.2.2) hn rfl ?_
  intro p e s m args below meth c s₁ B hml hv
  obtain ⟨rfl, cs, hP, hD⟩ := hv
  have hts := atoms_spec (ws := wsM M) B.pre
  have hrt : meth.sig.returnType = M.2.2.2 := B.returns
  have cx : Cx M d p (headSpec (wsM M) (rmD d)).room s m (av.map (tv ad)).toArray c := ⟨B.exec, B.bytes, hml, findClass_of_methodNamed B.named, fun w hw => hts w (List.mem_cons_of_mem _ hw), Nat.le_refl _, Nat.le_refl _⟩
  have hl := lv_entry (av.map (tv ad)) (n := M.2.2.1) (by rw [ent_len]; exact hlen)
  rw [lg_entry_eq]
  have hlocks : meth.locks = false := B.notSynchronized
  refine h p l e _ s m _ below meth c s.heap [] 0 0 _ _ D ad cy A cx cs ⟨Nat.zero_le _, Nat.zero_le _⟩ ⟨hP, hD, va_S.rf⟩ ⟨hl.1, hl.2.1, ?_⟩ ?_
  · intro i x hi
    subst hL
    exact hl.2.2 (i, tv ad x) (entL_arg ad hi)
  · intro H' locs' ls' pc' hr hw
    have hq : ∀ t : State, t.heap = H' → s.WarmedH t.vm → QcM D ad cy A v σ' (av.map (tv ad)).toArray s (.returned (v.map (tv ad))) t := fun t ht _ => ⟨rfl, by rw [ht]; exact hw.1, hw.2.2.F ht⟩
    match v, hr, hq with
    | none, hr, hq => exact W.vret B.exec B.bytes (hrt.trans hr.2) hq hw.2.2.2.2 hr.1
    | some (.int x), hr, hq =>
      obtain ⟨h1, ty, h2, h3⟩ := hr
      exact W.zret B.exec B.bytes (hrt.trans h2) h3 hq hw.2.2.2.2 h1
    | some (.long x), hr, hq => exact W.lret B.exec B.bytes (hrt.trans hr.2) hq hw.2.2.2.2 hr.1
    | some (.ref x), hr, hq =>
      obtain ⟨h1, n, h2⟩ := hr
      exact W.aret (v := .ref (ad x)) B.exec B.bytes (hrt.trans h2) (Or.inl ⟨n, rfl⟩) (Or.inr ⟨_, rfl⟩) hq hw.2.2.2.2 h1
    | some .null, hr, _ => exact hr.elim
    | some (.float _), hr, _ => exact hr.elim
    | some (.double _), hr, _ => exact hr.elim
    | some (.retAddr _), hr, _ => exact hr.elim
def OKm (M : MD) (n : Nat) : Prop := Cond.code M.1 M.2.1 M.2.2.1 M.2.2.2 ∈ gw ∧ Cond.initialized M.1.cls ∈ gw ∧ plainName M.1.cls = true ∧ (M.1.cls ≠ "java/lang/invoke/MethodHandle" ∧ M.1.cls ≠ "java/lang/invoke/VarHandle" ∧ (parseMethodDescriptor M.1.desc).map (fun d => d.parameters.length) = some n) ∧ M.2.2.1 ≤ 51
def OKv (M : MD) : Prop := Cond.instanceMethod M.1 ∈ gw ∧ Cond.selects M.1.cls M.1 M.1 ∈ gw
theorem wsM_good {M : MD} {n : Nat} (h : OKm M n) : GoodIn gw (wsM M) := fun w hw => by
  rcases List.mem_cons.mp hw with rfl | hw
  · exact ⟨h.1, good_of_word (gw_good h.1)⟩
  · exact ⟨hw, good_of_word (gw_good hw)⟩
theorem PcM_blind {D : va_G} {ad : Nat → Nat} {cy : Nat → ClassId} {A : Nat → Prop} {X : Scr} {σ : Mem} {av : List Value} : FrameBlind (PcM D ad cy A X σ av) := fun _ _ _ _ q => ⟨q.1, q.2.1.same rfl, q.2.2.1, q.2.2.2⟩
section JC
variable {X : Scr} {M : MD} {d pc : Nat} {L : List (Option Value)} {st : List Value} {σ σ' σ1 : Mem} {w v : Option Value}
/-- behind a call -/
theorem J_back {p : Program} {l : Launch} {e : Env} {R : Room} {s : State} {m : MethodId} {args : Array Value} {below : List Frame} {meth : Method} {c : Code} {H : Heap} {locs : List Loc} {cells slots : Nat} {Q : State → Prop} {ls : Array Slot} {D : va_G} {ad : Nat → Nat} {cy : Nat → ClassId} {A : Nat → Prop} {rest st0 : List Value} {a : Array Value}
    (hr : va_Run p l e R s m args below meth c H locs cells slots 0 0 (F0 m pc ls st0) (rest.map (tv ad)) (QcM D ad cy A v σ1 a) A) (hw : Wd D ad cy A s σ H locs)
    (kk : ∀ (H1 : Heap) (locs1 : List Loc), Wd D ad cy A s σ1 H1 locs1 → W p l e R s m args below meth c H1 locs1 cells slots Q (F0 m (pc + 3) ls ((v.toList ++ rest).map (tv ad)))) : W p l e R s m args below meth c H locs cells slots Q (F0 m pc ls st0) := by
  intro T hT Xs
  obtain ⟨v', st₀, t, T', Lx, h0, X', hL', e1, e2, ⟨hv, hP1, hz, hk⟩, stp⟩ := hr T hT Xs
  have hv' : v' = v.map (tv ad) := by injection hv
  subst hv'
  rw [h0] at hz hk
  have hS := hw.2.2
  obtain ⟨t2, a1, b1⟩ := kk T'.heap (locs ++ Lx) ⟨by rw [e1]; exact hP1, lay_adr hw.2.1, ⟨Nat.le_trans hS.1 (by rw [e1]; exact hz), fun q h1 h2 => by rw [e1, hk q (Nat.lt_of_lt_of_le h1 hS.1) h2]; exact hS.2.1 q h1 h2, fun q hq => by
      rcases List.mem_append.mp hq with h | h
      · exact hS.2.2 q h
      · exact hL' q h⟩⟩ T' rfl X'
  refine ⟨t2, stp t2 ?_, b1⟩
  have e9 : (v.map (tv ad)).toList ++ rest.map (tv ad) = (v.toList ++ rest).map (tv ad) := by cases v <;> simp
  rw [e9]
  exact a1
theorem cat_tv {ad : Nat → Nat} {rest : List Value} (h : (rest.map Value.category).sum ≤ 8) : ((rest.map (tv ad)).map fun v => v.category).sum ≤ 8 := by
  rw [List.map_map]
  have : ((fun v => v.category) ∘ tv ad) = Value.category := by funext v; exact tv_cat ad v
  rw [this]
  exact h
theorem J_callB {M' : MD} {n idx : Nat} {R : Room} {s : State} {args : Array Value} (hm : OKm M' n) (hlk : Cond.methodLink M.1.cls idx M'.1 ∈ gw) (hts : ∀ w ∈ gw, w.before args s = true) (h1 : d + 1 ≤ R.frames) (h2 : 70 * (d + 1) ≤ R.locals) : CallB R s args M.1.cls idx M'.1 M'.2.1 M'.2.2.1 M'.2.2.2 (wsM M') (rmD d) 0 0 n :=
  callB_of n hts (wsM_good hm) rfl rfl rfl (hts _ hm.2.1) (hts _ hlk) hm.2.2.2.1 ⟨h1, by have := hm.2.2.2.2; show 8 + (_ + 11) + 70 * d ≤ _; omega⟩
theorem J_callV {M' : MD} {a idx ci n : Nat} {fks : List (Nat × Nat)} {As rest : List Value} {L0 : List (Option Value)} (hm : OKm M' n) (hv : OKv M') (hlk : Cond.methodLink M.1.cls idx M'.1 ∈ gw) (hcl : (classes[ci]?).map (fun q => q.1) = some M'.1.cls) (hs : shape[a]? = some (.inr (.inl (ci, fks)))) (hst : As.reverse ++ .ref a :: rest = st) (hn : As.length = n) (hr : (rest.map Value.category).sum ≤ 8) (hd : decode M.2.1 pc = .ok (.invokevirtual idx, 3)) (hL : entL M'.2.2.1 (.ref a :: As) = L0) (hlen : (ent (.ref a :: As)).length ≤ M'.2.2.1)
    (hc0 : J X M' d 0 L0 [] σ v σ1) (kk : J X M (d + 1) (pc + 3) L (v.toList ++ rest) σ1 w σ') : J X M (d + 1) pc L st σ w σ' := by
  intro p l e R s m args below meth c H locs cells slots Q ls D ad cy A cx cs hc hw hl k9
  subst hst
  have hM := J_met hm.2.2.1 hL hlen hc0 l D ad cy A
  obtain ⟨q, hq, hq1⟩ : ∃ q, classes[ci]? = some q ∧ q.1 = M'.1.cls := by
    cases hh : classes[ci]? with
    | none => rw [hh] at hcl; cases hcl
    | some q => rw [hh] at hcl; exact ⟨q, rfl, Option.some.inj hcl⟩
  refine J_back (v := v) (σ1 := σ1) (rest := rest) (va_runV (C := M'.1.cls) (b := ad a) (As := As.map (tv ad)) (g := F0 m pc ls ((As.reverse ++ .ref a :: rest).map (tv ad))) ⟨cx.1, cx.2.1, cx.2.2.1, cx.2.2.2.1, cx.2.2.2.2.1⟩ hM ⟨J_callB hm hlk cx.2.2.2.2.1 cx.2.2.2.2.2.1 cx.2.2.2.2.2.2, cx.2.2.2.2.1 _ hv.1, cx.2.2.2.2.1 _ hv.2⟩ ⟨PcM_blind, by rw [← hq1]; exact va_recv cs.1 hw.1 hq (lay_get hs), fun U hU hW => ⟨rfl, cs.warm hW (by rw [hU]; exact hw.2.2.2.1), by rw [hU]; exact hw.1, hw.2.1⟩⟩ rfl (by rw [List.length_map]; exact hn) hl.1 (by simp [tv]) (by have := cat_tv (ad := ad) hr; simpa [JFrame.monitorRoom] using this) hd ⟨hc.1, hc.2⟩) hw (fun H1 locs1 hw1 => kk p l e R s m args below meth c H1 locs1 cells slots Q ls D ad cy A cx cs hc hw1 hl k9)
theorem J_callS {M' : MD} {idx n : Nat} {As rest : List Value} {L0 : List (Option Value)} (hm : OKm M' n) (hv : Cond.static M'.1 ∈ gw) (hlk : Cond.methodLink M.1.cls idx M'.1 ∈ gw) (hst : As.reverse ++ rest = st) (hn : As.length = n) (hr : (rest.map Value.category).sum ≤ 8) (hd : decode M.2.1 pc = .ok (.invokestatic idx, 3)) (hL : entL M'.2.2.1 As = L0) (hlen : (ent As).length ≤ M'.2.2.1)
    (hc0 : J X M' d 0 L0 [] σ v σ1) (kk : J X M (d + 1) (pc + 3) L (v.toList ++ rest) σ1 w σ') : J X M (d + 1) pc L st σ w σ' := by
  intro p l e R s m args below meth c H locs cells slots Q ls D ad cy A cx cs hc hw hl k9
  subst hst
  have hM := J_met hm.2.2.1 hL hlen hc0 l D ad cy A
  refine J_back (v := v) (σ1 := σ1) (rest := rest) (va_runS (As := As.map (tv ad)) (g := F0 m pc ls ((As.reverse ++ rest).map (tv ad))) ⟨cx.1, cx.2.1, cx.2.2.1, cx.2.2.2.1, cx.2.2.2.2.1⟩ hM ⟨J_callB hm hlk cx.2.2.2.2.1 cx.2.2.2.2.2.1 cx.2.2.2.2.2.2, cx.2.2.2.2.1 _ hv⟩ ⟨PcM_blind, fun U hU hW => ⟨rfl, cs.warm hW (by rw [hU]; exact hw.2.2.2.1), by rw [hU]; exact hw.1, hw.2.1⟩⟩ rfl (by rw [List.length_map]; exact hn) hl.1 (by simp) (by have := cat_tv (ad := ad) hr; simpa [JFrame.monitorRoom] using this) hd ⟨hc.1, hc.2⟩) hw (fun H1 locs1 hw1 => kk p l e R s m args below meth c H1 locs1 cells slots Q ls D ad cy A cx cs hc hw1 hl k9)
/-- a method of a String constant -/
theorem J_callT {M' : MD} {b idx n : Nat} {bs : List Int32} {As rest : List Value} {L0 : List (Option Value)} (hm : OKm M' n) (hv : OKv M') (hcl : M'.1.cls = "java/lang/String") (hlk : Cond.methodLink M.1.cls idx M'.1 ∈ gw) (hb : strB[b]? = some bs) (hst : As.reverse ++ .ref (1000 + b) :: rest = st) (hn : As.length = n) (hr : (rest.map Value.category).sum ≤ 8) (hd : decode M.2.1 pc = .ok (.invokevirtual idx, 3)) (hL : entL M'.2.2.1 (.ref (1000 + b) :: As) = L0) (hlen : (ent (.ref (1000 + b) :: As)).length ≤ M'.2.2.1)
    (hc0 : J X M' d 0 L0 [] σ v σ1) (kk : J X M (d + 1) (pc + 3) L (v.toList ++ rest) σ1 w σ') : J X M (d + 1) pc L st σ w σ' := by
  intro p l e R s m args below meth c H locs cells slots Q ls D ad cy A cx cs hc hw hl k9
  subst hst
  have hM := J_met hm.2.2.1 hL hlen hc0 l D ad cy A
  have hrc : ∃ cell : Cell, H[ad (1000 + b)]? = some cell ∧ cell.vm.isStatics = false ∧ s.vm.findClass M'.1.cls = some cell.cls := by
    obtain ⟨cell, h1, h2, h3, -⟩ := (cs.2.1 b bs hb).1.kept hw.2.2.2.1
    exact ⟨cell, h1, h2, by rw [hcl]; exact h3⟩
  refine J_back (v := v) (σ1 := σ1) (rest := rest) (va_runV (C := M'.1.cls) (b := ad (1000 + b)) (As := As.map (tv ad)) (g := F0 m pc ls ((As.reverse ++ .ref (1000 + b) :: rest).map (tv ad))) ⟨cx.1, cx.2.1, cx.2.2.1, cx.2.2.2.1, cx.2.2.2.2.1⟩ hM ⟨J_callB hm hlk cx.2.2.2.2.1 cx.2.2.2.2.2.1 cx.2.2.2.2.2.2, cx.2.2.2.2.1 _ hv.1, cx.2.2.2.2.1 _ hv.2⟩ ⟨PcM_blind, hrc, fun U hU hW => ⟨rfl, cs.warm hW (by rw [hU]; exact hw.2.2.2.1), by rw [hU]; exact hw.1, hw.2.1⟩⟩ rfl (by rw [List.length_map]; exact hn) hl.1 (by simp [tv]) (by have := cat_tv (ad := ad) hr; simpa [JFrame.monitorRoom] using this) hd ⟨hc.1, hc.2⟩) hw (fun H1 locs1 hw1 => kk p l e R s m args below meth c H1 locs1 cells slots Q ls D ad cy A cx cs hc hw1 hl k9)
end JC
