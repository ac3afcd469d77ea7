/-! constructors: rules of making, over the tables' words gw -/
theorem va_AOA.moved {ty : FieldType} {u U : State} (hvm : u.vm.Alike U.vm) (h : va_AOA ty u) : va_AOA ty U := arrayOver_alikeB hvm h
def nestC : List Cond := [.methodLinkNest RX6 18 yX2_init RX6, .methodLinkNest RX6 25 yX3_init RX6, .methodLinkNest RX6 32 yX5_init RX6, .methodLinkNest RX6 39 yX4_init RX6]
theorem nestC_ok {w : Cond} (h : w ∈ nestC) : ∃ a i x g, w = .methodLinkNest a i x g := by
  simp only [nestC, List.mem_cons, List.not_mem_nil, or_false] at h
  rcases h with rfl | rfl | rfl | rfl <;> exact ⟨_, _, _, _, rfl⟩
/-- what constructors take of a state, cells apart -/
def Cs0 (D : va_G) (cy : Nat → ClassId) (U : State) : Prop := va_K D classes (tysOf cy) U ∧ va_AOA .int U ∧ va_AOA .long U ∧ (∀ w ∈ nestC, va_Nw w U)
theorem Cs0.warm {D : va_G} {cy : Nat → ClassId} {s U : State} (h : Cs0 D cy s) (hW : s.WarmedH U.vm) : Cs0 D cy U := by
  refine ⟨va_K.moved hW.alike h.1, h.2.1.moved hW.alike, h.2.2.1.moved hW.alike, fun w hw => ?_⟩
  obtain ⟨a, i, x, g, rfl⟩ := nestC_ok hw
  exact va_Nw.warmM hW (h.2.2.2 _ hw)
theorem Cs0.same {D : va_G} {cy : Nat → ClassId} {s U : State} (h : Cs0 D cy s) (hv : U.vm = s.vm) : Cs0 D cy U := by
  have hal : s.vm.Alike U.vm := by rw [hv]; exact Vm.Alike.refl _
  refine ⟨va_K.moved hal h.1, h.2.1.moved hal, h.2.2.1.moved hal, fun w hw => ?_⟩
  obtain ⟨a, i, x, g, rfl⟩ := nestC_ok hw
  exact va_Nw.same rfl hv.symm (h.2.2.2 _ hw)
def rmI (d mc ms : Nat) : Room := { frames := d, cells := mc, slots := ms, locals := 70 * d }
def PcI (D : va_G) (cy : Nat → ClassId) (W0 : va_W) (h0 sz : Nat) : Array Value → State → Prop := fun a U => a = #[.ref h0] ∧ U.heap.size = sz ∧ va_P D classes W0 U.heap ∧ va_D (fun _ => True) W0 ∧ Cs0 D cy U
theorem PcI_blind {D : va_G} {cy : Nat → ClassId} {W0 : va_W} {h0 sz : Nat} : FrameBlind (PcI D cy W0 h0 sz) := fun _ _ _ _ q => ⟨q.1, q.2.1, q.2.2.1, q.2.2.2.1, q.2.2.2.2.same rfl⟩
def QcI (D : va_G) {S : Type} (W1 : S → va_W) (A : Nat → Prop) : Array Value → State → Outcome → State → Prop := va_Qv (fun _ : S => True) (fun u t => va_P D classes (W1 u) t.heap ∧ va_D A (W1 u)) A
def FPF (own : String) (idx ci k : Nat) (ty : FieldType) : Prop := ∃ (C : String) (T : u_T) (N : Nat) (ty0 : Nat → FieldType), classes[ci]? = some (C, T, N) ∧ k < N ∧ (∀ z ∈ u_ws C T N, z ∈ gw) ∧ Cond.fieldLink own idx (T k).1 (T k).2.1 (T k).2.2.1 ∈ gw ∧ (∀ j, j < N → parseFieldDescriptor (T j).2.2.1 = some (ty0 j)) ∧ (∀ a, a < N → ∀ b, b < N → a ≠ b → (T a).2.1 ≠ (T b).2.1) ∧ (T k).2.2.2 = true ∧ ty0 k = ty ∧ (T k).1 = own
def NW (own : String) (idx ci N : Nat) (fs : List Value) : Prop := ∃ (C : String) (T : u_T) (ty0 : Nat → FieldType), classes[ci]? = some (C, T, N) ∧ (∀ z ∈ u_ws C T N, z ∈ gw) ∧ (∀ j, j < N → parseFieldDescriptor (T j).2.2.1 = some (ty0 j)) ∧ Cond.classLink own idx C ∈ gw ∧ Cond.instantiable C N ∈ gw ∧ Cond.initialized C ∈ gw ∧ ∀ j, j < N → defaultValue (ty0 j) = vp_V fs j
section AL
variable {p : Program} {l : Launch} {e : Env} {R : Room} {s : State} {m : MethodId} {args : Array Value} {below : List Frame} {meth : Method} {c : Code} {H : Heap} {locs : List Loc} {cells slots : Nat} {Q : State → Prop}
variable {M : MD} {d pc : Nat} {ls : Array Slot} {rest : List Value} {D : va_G} {cy : Nat → ClassId} {A : Nat → Prop} {ws : va_W} {H0 : Heap}
theorem A_newa (cx : Cx M d p R s m args c) (hK : va_K D classes (tysOf cy) s) (hP : va_P D classes ws H) (hD : va_D A ws) (hS : va_S A H0 H locs) (hA : ∀ q, H0.size ≤ q → A q) (t : Nat) {atype : ArrayType} {ty : FieldType} (ht : (tysOf cy)[t]? = some (cy t, ty)) (hat : newarray.typeOf atype = ty) (hra : ∀ cA, va_RA s cA ty → s.vm.findClass ("[" ++ ty.toString) = some cA) (harr : Cond.arrayClass (newarray.typeOf atype) ∈ gw)
    {n : Int32} {N : Nat} {z : vp_A} (ha : ∀ cA : ClassId, vp_cell cA z = arrV cA N (fun _ => defaultValue ty)) (hn : ¬ n < 0) (hN : n.toNatClampNeg = N) (hb : N * componentBytes ty ≤ 536870912) (hc : cells + 1 ≤ R.cells) (hs : slots + N ≤ R.slots) (hd : decode M.2.1 pc = .ok (.newarray atype, 2))
    (kk : ∀ (q : Nat) (H1 : Heap), va_P D classes (ws ++ [(q, .inl (cy t, z))]) H1 → va_D A (ws ++ [(q, .inl (cy t, z))]) → va_S A H0 H1 locs → W p l e R s m args below meth c H1 locs (cells + 1) (slots + N) Q (F0 m (pc + 2) ls (.ref q :: rest))) : W p l e R s m args below meth c H locs cells slots Q (F0 m pc ls (.int n :: rest)) := by
  refine va_newa (atype := atype) cx.1 cx.2.1 (cx.2.2.2.2.1 _ harr) hat hK hP hD hS hA (a0 := z) ha hn hN hb hc hs hd (fun q cA H1 hK1 hP1 hD1 hS1 => ?_)
  have e1 := hra _ (hK1.2 (tysOf cy).length (cA, ty) (by rw [List.getElem?_append_right (Nat.le_refl _), Nat.sub_self]; rfl)).2
  have e2 := hra _ (hK.2 t _ ht).2
  have e3 : cA = cy t := Option.some.inj (e1.symm.trans e2)
  subst e3
  exact kk q H1 hP1 hD1 hS1
theorem A_put (cx : Cx M d p R s m args c) (hK : va_K D classes (tysOf cy) s) (hP : va_P D classes ws H) (hD : va_D A ws) (hS : va_S A H0 H locs) (q0 : Nat) {a idx ci k : Nat} {fs : List Value} {ty : FieldType} {v : Value} (hf : FP M.1.cls idx ci k ty) (he : ws[q0]? = some (a, .inr (ci, fs))) (hn : narrow ty v = v) (hfit : fits ty v = true) (hl : k < fs.length) (hd : decode M.2.1 pc = .ok (.putfield idx, 3))
    (kk : ∀ (H1 : Heap) (locs1 : List Loc), va_P D classes (ws.set q0 (a, .inr (ci, fs.set k v))) H1 → va_D A (ws.set q0 (a, .inr (ci, fs.set k v))) → va_S A H0 H1 locs1 → W p l e R s m args below meth c H1 locs1 cells slots Q (F0 m (pc + 3) ls rest)) : W p l e R s m args below meth c H locs cells slots Q (F0 m pc ls (v :: .ref a :: rest)) := by
  obtain ⟨C, T, N, ty0, h1, h2, h3, h4, h5, h6, h7, h8⟩ := hf
  exact va_put cx.1 cx.2.1 cx.2.2.2.2.1 h3 ty0 h5 h6 cx.2.2.2.1 hK hP hD hS q0 he h1 k h2 (cx.2.2.2.2.1 _ h4) (fun _ q => q) h7 (ty := ty) (by rw [← h8]; exact h5 k h2) hn hfit hl hd kk
theorem A_putF (cx : Cx M d p R s m args c) (hi : meth.name = "<init>") (hK : va_K D classes (tysOf cy) s) (hP : va_P D classes ws H) (hD : va_D A ws) (hS : va_S A H0 H locs) (q0 : Nat) {a idx ci k : Nat} {fs : List Value} {ty : FieldType} {v : Value} (hf : FPF M.1.cls idx ci k ty) (he : ws[q0]? = some (a, .inr (ci, fs))) (hn : narrow ty v = v) (hfit : fits ty v = true) (hl : k < fs.length) (hd : decode M.2.1 pc = .ok (.putfield idx, 3))
    (kk : ∀ (H1 : Heap) (locs1 : List Loc), va_P D classes (ws.set q0 (a, .inr (ci, fs.set k v))) H1 → va_D A (ws.set q0 (a, .inr (ci, fs.set k v))) → va_S A H0 H1 locs1 → W p l e R s m args below meth c H1 locs1 cells slots Q (F0 m (pc + 3) ls rest)) : W p l e R s m args below meth c H locs cells slots Q (F0 m pc ls (v :: .ref a :: rest)) := by
  obtain ⟨C, T, N, ty0, h1, h2, h3, h4, h5, h6, h7, h8, h9⟩ := hf
  exact va_putF cx.1 cx.2.1 cx.2.2.2.2.1 h3 ty0 h5 h6 cx.2.2.2.1 hK hP hD hS q0 he h1 k h2 (cx.2.2.2.2.1 _ h4) (fun _ q => q) h7 hi h9 (ty := ty) (by rw [← h8]; exact h5 k h2) hn hfit hl hd kk
theorem A_iast (cx : Cx M d p R s m args c) (hK : va_K D classes (tysOf cy) s) (hP : va_P D classes ws H) (hD : va_D A ws) (hS : va_S A H0 H locs) (q0 : Nat) {a n : Nat} {f : Nat → Int32} {i x : Int32} (he : ws[q0]? = some (a, .inl (cy 0, n, .inl f))) (hin : vp_in i n) (hd : decode M.2.1 pc = .ok (.iastore, 1))
    (kk : ∀ (H1 : Heap) (locs1 : List Loc), va_P D classes (ws.set q0 (a, .inl (cy 0, n, .inl (upd f i.toNatClampNeg x)))) H1 → va_D A (ws.set q0 (a, .inl (cy 0, n, .inl (upd f i.toNatClampNeg x)))) → va_S A H0 H1 locs1 → W p l e R s m args below meth c H1 locs1 cells slots Q (F0 m (pc + 1) ls rest)) : W p l e R s m args below meth c H locs cells slots Q (F0 m pc ls (.int x :: .int i :: .ref a :: rest)) :=
  va_iast cx.1 cx.2.1 hK hP hD hS q0 0 he rfl hin hd kk
theorem A_new (cx : Cx M d p R s m args c) (hK : va_K D classes (tysOf cy) s) (hP : va_P D classes ws H) (hD : va_D A ws) (hS : va_S A H0 H locs) (hA : ∀ q, H0.size ≤ q → A q) {idx ci N : Nat} {fs : List Value} (hw : NW M.1.cls idx ci N fs) (hc : cells + 1 ≤ R.cells) (hs : slots + N ≤ R.slots) (hd : decode M.2.1 pc = .ok (.new idx, 3))
    (kk : ∀ (q : Nat) (H1 : Heap), va_P D classes (ws ++ [(q, .inr (ci, fs))]) H1 → va_D A (ws ++ [(q, .inr (ci, fs))]) → va_S A H0 H1 locs → W p l e R s m args below meth c H1 locs (cells + 1) (slots + N) Q (F0 m (pc + 3) ls (.ref q :: rest))) : W p l e R s m args below meth c H locs cells slots Q (F0 m pc ls rest) := by
  obtain ⟨C, T, ty0, h1, h2, h3, h4, h5, h6, h7⟩ := hw
  exact va_new cx.1 cx.2.1 cx.2.2.2.2.1 h2 ty0 h3 cx.2.2.2.1 (cx.2.2.2.2.1 _ h4) (cx.2.2.2.2.1 _ h5) (cx.2.2.2.2.1 _ h6) hK hP hD hS hA h1 h7 hc hs hd kk
/-- Object's own constructor -/
def OKobj (own : String) (idx : Nat) : Prop := Cond.methodLink own idx objectInit ∈ gw ∧ Cond.instanceMethod objectInit ∈ gw ∧ Cond.code objectInit ⟨#[0xb1]⟩ 1 none ∈ gw
theorem A_obj (cx : Cx M (d + 1) p R s m args c) (hl : ls.size = M.2.2.1) {idx a : Nat} (ho : OKobj M.1.cls idx) (hr : (rest.map fun v => v.category).sum ≤ 8) (hd : decode M.2.1 pc = .ok (.invokespecial idx, 3)) (kk : W p l e R s m args below meth c H locs cells slots Q (F0 m (pc + 3) ls rest)) : W p l e R s m args below meth c H locs cells slots Q (F0 m pc ls (.ref a :: rest)) := by
  have hf := cx.2.2.2.2.2.1
  have hlo := cx.2.2.2.2.2.2
  refine W.objInit cx.1 cx.2.1 cx.2.2.2.1 (cx.2.2.2.2.1 _ ho.1) (cx.2.2.2.2.1 _ ho.2.1) (cx.2.2.2.2.1 _ ho.2.2) rfl (by rw [cx.2.2.1]; exact hl) rfl hd (by omega) ?_ kk
  have : (F0 m pc ls (Value.ref a :: rest)).monitorRoom = 0 := rfl
  rw [this]
  omega
/-- a constructor's call -/
theorem A_call {S : Type} {M' : MD} {idx a mc ms : Nat} {wc ws' : va_W} {W1 : S → va_W} (cx : Cx M (d + 1) p R s m args c) (c0 : Cs0 D cy s) (hl : ls.size = M.2.2.1) (hP : va_P D classes ws H) (hD : va_D A ws) (hS : va_S A H0 H locs) (hA : ∀ q, H0.size ≤ q → A q) (isC isR : List Nat) (hC : isC.map (fun i => ws[i]?) = wc.map some) (hR : isR.map (fun i => ws[i]?) = ws'.map some) (hnC : va_nd isC = true) (hn : va_nd isR = true) (hdis : ∀ i ∈ isR, i ∉ isC)
    (hM : Met l M'.1 (wsM M') (rmI d mc ms) (PcI D cy wc a H.size) (QcI D W1 (va_A wc H.size)) mc ms (va_A wc H.size)) (hrun : ∀ (hp : PreS s H (PcI D cy wc a H.size) (.ref a :: [])), va_Run p l e R s m args below meth c H locs cells slots mc ms (F0 m pc ls (.ref a :: rest)) rest (QcI D W1 (va_A wc H.size) (Value.ref a :: []).toArray) (va_A wc H.size))
    (kk : ∀ (u : S) (H1 : Heap) (locs1 : List Loc), va_P D classes (ws' ++ W1 u) H1 → va_D A (ws' ++ W1 u) → va_S A H0 H1 locs1 → W p l e R s m args below meth c H1 locs1 (cells + mc) (slots + ms) Q (F0 m (pc + 3) ls rest)) : W p l e R s m args below meth c H locs cells slots Q (F0 m pc ls (.ref a :: rest)) := by
  have hFc := va_free (wc := wc) hD hS hA isC hC
  have hPc : va_P D classes wc H := fun k q hk => by
    have h1 : (isC.map (fun i => ws[i]?))[k]? = some (some q) := by rw [hC, List.getElem?_map, hk]; rfl
    rw [List.getElem?_map] at h1
    cases hi : isC[k]? with
    | none => rw [hi] at h1; cases h1
    | some i => rw [hi] at h1; exact hP i q (Option.some.inj h1)
  have hDc : va_D A wc := hD.sub isC hnC hC
  refine va_callv (hrun ⟨PcI_blind, fun U hU hW => ⟨rfl, by rw [hU], by rw [hU]; exact hPc, hDc.weaken (fun _ _ _ _ => trivial), c0.warm hW⟩⟩) hS (fun q _ h => hFc q h) hFc (fun u t H1 locs1 ht hvm _ hB hz1 hk1 hS1 => ?_)
  obtain ⟨hP1, hD1⟩ := hB
  rw [ht] at hP1
  obtain ⟨hP2, hD2⟩ := va_join (wr := ws') (w1 := W1 u) hP hD isC isR hC hR hn hdis hk1 hFc hP1 hD1
  exact kk u H1 locs1 hP2 hD2 hS1
end AL
