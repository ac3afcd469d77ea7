/-! J: a method walked over a plain memory (rows of ints, rows of longs), the machine's own state put away -/
def gw : List Cond := lw_tbl.filter goodWord
theorem gw_in {w : Cond} (i : Nat) (h : lw_tbl[i]? = some w) (g : goodWord w = true) : w ∈ gw := List.mem_filter.mpr ⟨List.mem_of_getElem? h, g⟩
theorem gw_good {w : Cond} (h : w ∈ gw) : goodWord w = true := (List.mem_filter.mp h).2
abbrev MD : Type := MethodName × ByteArray × Nat × Option FieldType
def wsM (M : MD) : List Cond := Cond.code M.1 M.2.1 M.2.2.1 M.2.2.2 :: gw
abbrev Mem : Type := (Nat → Nat → Int32) × (Nat → Nat → Int64)
def up2 (σ : Mem) (k i : Nat) (x : Int32) : Mem := (fun a => if a = k then upd (σ.1 k) i x else σ.1 a, σ.2)
def upL (σ : Mem) (k i : Nat) (x : Int64) : Mem := (σ.1, fun a => if a = k then vp_updL (σ.2 k) i x else σ.2 a)
def upR (σ : Mem) (k : Nat) (f : Nat → Int32) : Mem := (fun a => if a = k then f else σ.1 a, σ.2)
def upRL (σ : Mem) (k : Nat) (f : Nat → Int64) : Mem := (σ.1, fun a => if a = k then f else σ.2 a)
/-- a shape: an array (type, length), an object (class, fields: 0 int, 1 long, 2 a cell), an array of n rows from k0 on -/
abbrev Sh : Type := (Nat × Nat) ⊕ (Nat × List (Nat × Nat)) ⊕ (Nat × Nat × Nat)
abbrev classes : List vw_C := [(RX0, TX0, 1), (RX2, TX2, 3), (RX3, TX3, 12), (RX4, TX4, 3), (RX5, TX5, 14), (RX6, TX6, 7), (RX7, TX7, 29)]
def shape : List Sh := [
  .inr (.inl (5, [(2, 1), (2, 3), (2, 5), (2, 12), (2, 14), (2, 18), (0, 0)])),
  .inr (.inl (0, [(2, 2)])), .inl (0, 171),
  .inr (.inl (1, [(2, 4), (0, 0), (0, 0)])), .inl (0, 5301),
  .inr (.inl (2, [(2, 6), (2, 7), (2, 8), (2, 9), (2, 10), (2, 11), (0, 0), (0, 0), (0, 0), (0, 0), (0, 0), (0, 0)])),
  .inl (0, 1596), .inl (0, 6), .inl (0, 6), .inl (0, 6), .inl (0, 6), .inl (2, 3),
  .inr (.inl (4, [(2, 13), (0, 0), (0, 0), (0, 0), (0, 0), (0, 0), (0, 0), (0, 0), (0, 0), (0, 0), (0, 0), (0, 0), (0, 0), (0, 0)])), .inl (1, 120),
  .inr (.inl (3, [(2, 15), (2, 16), (2, 17)])), .inl (3, 160), .inl (0, 4), .inl (0, 4), .inl (0, 8),
  .inr (.inl (6, [(2, 20), (2, 21), (0, 0), (0, 0), (0, 0), (2, 22), (2, 23), (2, 24), (2, 25), (2, 26), (2, 27), (1, 0), (0, 0), (0, 0), (0, 0), (0, 0), (0, 0), (0, 0), (2, 28), (0, 0), (0, 0), (0, 0), (0, 0), (0, 0), (0, 0), (2, 29), (2, 30), (2, 31), (2, 32)])),
  .inl (0, 139), .inr (.inr (4, 30, 37)), .inl (0, 8), .inl (0, 139), .inl (0, 6), .inl (0, 6), .inl (0, 6), .inl (0, 6), .inl (0, 120), .inl (0, 4), .inl (0, 4), .inr (.inr (5, 4, 33)), .inl (3, 40),
  .inl (3, 40), .inl (3, 40), .inl (3, 40), .inl (3, 40)] ++ List.replicate 30 (.inl (0, 139))
def tysOf (cy : Nat → ClassId) : List (ClassId × FieldType) := [(cy 0, .int), (cy 1, .byte), (cy 2, .boolean), (cy 3, .long), (cy 4, .array .int), (cy 5, .array .long)]
/-- virtual values: a cell by its number, the formatter of the JDK's index checks as retAddr -/
def tv (ad : Nat → Nat) : Value → Value
  | .ref k => .ref (ad k)
  | .retAddr _ => va_rf (match ad 2003 with | 0 => none | n + 1 => some n)
  | v => v
theorem tv_cat (ad : Nat → Nat) (v : Value) : (tv ad v).category = v.category := by
  cases v <;> try rfl
  show (va_rf _).category = 1
  generalize (match ad 2003 with | 0 => none | n + 1 => some n) = o
  cases o <;> rfl
def fv (ad : Nat → Nat) (σ : Mem) (k j : Nat) (q : Nat × Nat) : Value := match q.1 with
  | 0 => .int (σ.1 k j)
  | 1 => .long (σ.2 k j)
  | _ => .ref (ad q.2)
def we (ad : Nat → Nat) (cy : Nat → ClassId) (σ : Mem) (k : Nat) : Sh → va_E
  | .inl (t, n) => .inl (cy t, n, if t = 3 then .inr (.inl (σ.2 k)) else .inl (σ.1 k))
  | .inr (.inl (ci, fks)) => .inr (ci, fks.mapIdx (fun j q => fv ad σ k j q))
  | .inr (.inr (t, n, k0)) => .inl (cy t, n, .inr (.inr (.inr (.inr (fun i => if i < n then some (ad (k0 + i)) else none)))))
def lay (ad : Nat → Nat) (cy : Nat → ClassId) (σ : Mem) : va_W := shape.mapIdx (fun k sh => (ad k, we ad cy σ k sh))
theorem lay_get {ad : Nat → Nat} {cy : Nat → ClassId} {σ : Mem} {k : Nat} {sh : Sh} (h : shape[k]? = some sh) : (lay ad cy σ)[k]? = some (ad k, we ad cy σ k sh) := by
  unfold lay
  rw [List.getElem?_mapIdx, h]
  rfl
theorem we_row {ad : Nat → Nat} {cy : Nat → ClassId} {σ σ' : Mem} {k : Nat} (h1 : σ'.1 k = σ.1 k) (h2 : σ'.2 k = σ.2 k) (sh : Sh) : we ad cy σ' k sh = we ad cy σ k sh := by
  rcases sh with ⟨t, n⟩ | ⟨ci, fks⟩ | ⟨t, n, k0⟩
  · simp only [we, h1, h2]
  · simp only [we, fv, h1, h2]
  · rfl
theorem lay_set {ad : Nat → Nat} {cy : Nat → ClassId} {σ σ' : Mem} {k : Nat} {sh : Sh} {e : va_E} (h : shape[k]? = some sh) (he : we ad cy σ' k sh = e) (ho : ∀ j, j ≠ k → σ'.1 j = σ.1 j ∧ σ'.2 j = σ.2 j) : (lay ad cy σ).set k (ad k, e) = lay ad cy σ' := by
  apply List.ext_getElem?
  intro j
  unfold lay
  by_cases hj : j = k
  · subst hj
    have hl : j < (shape.mapIdx (fun k sh => (ad k, we ad cy σ k sh))).length := by
      rw [List.length_mapIdx]; exact (List.getElem?_eq_some_iff.mp h).1
    rw [List.getElem?_set_self hl, List.getElem?_mapIdx, h]
    simp only [Option.map_some, he]
  · rw [List.getElem?_set_ne (Ne.symm hj), List.getElem?_mapIdx, List.getElem?_mapIdx]
    cases hs : shape[j]? with
    | none => rfl
    | some sh' =>
      simp only [Option.map_some]
      rw [we_row (ho j hj).1 (ho j hj).2]
theorem lay_adr {ad : Nat → Nat} {cy : Nat → ClassId} {σ σ' : Mem} {A : Nat → Prop} (h : va_D A (lay ad cy σ)) : va_D A (lay ad cy σ') := by
  have key : ∀ (k : Nat) (q : Nat × va_E), (lay ad cy σ')[k]? = some q → ∃ q0, (lay ad cy σ)[k]? = some q0 ∧ q0.1 = q.1 := by
    intro k q hq
    unfold lay at hq ⊢
    rw [List.getElem?_mapIdx] at hq ⊢
    cases hs : shape[k]? with
    | none => rw [hs] at hq; cases hq
    | some sh =>
      rw [hs] at hq
      simp only [Option.map_some, Option.some.injEq] at hq ⊢
      exact ⟨_, rfl, by rw [← hq]⟩
  refine ⟨fun i j x y hi hj hxy => ?_, fun k q hk => ?_⟩
  · obtain ⟨x0, a1, a2⟩ := key i x hi
    obtain ⟨y0, b1, b2⟩ := key j y hj
    exact h.1 i j x0 y0 a1 b1 (a2.trans (hxy.trans b2.symm))
  · obtain ⟨q0, a1, a2⟩ := key k q hk
    rw [← a2]
    exact h.2 k q0 a1
-- constants outside the memory
def strL : List (String × Nat × String) := [(RX1, 9, "pupil"), (RX1, 11, "early"), (RX1, 13, "late"), (RX1, 15, "athlete"), (RX1, 17, "night"), (RX1, 19, "free"), (RX5, 84, "away"), (RX5, 93, "wish"), (RX5, 63, "lecture"), (RX5, 65, "lab"), (RX5, 67, "drill"), (RX5, 104, "cap"), (RX5, 111, "with"), (RX5, 44, ";"), (RX7, 360, "pupil"), (RX7, 362, "early"), (RX7, 364, "late"), (RX7, 366, "athlete"), (RX7, 368, "night"), (RX7, 370, "free"), (RX7, 371, "away"), (RX7, 378, "wish"), (RX7, 397, "lecture"), (RX7, 399, "lab"), (RX7, 401, "drill"), (RX7, 386, "cap"), (RX7, 388, "with"), (RX7, 409, ";")]
def strB : List (List Int32) := [[112, 117, 112, 105, 108], [101, 97, 114, 108, 121], [108, 97, 116, 101], [97, 116, 104, 108, 101, 116, 101], [110, 105, 103, 104, 116], [102, 114, 101, 101], [97, 119, 97, 121], [119, 105, 115, 104], [108, 101, 99, 116, 117, 114, 101], [108, 97, 98], [100, 114, 105, 108, 108], [99, 97, 112], [119, 105, 116, 104], [59], [112, 117, 112, 105, 108], [101, 97, 114, 108, 121], [108, 97, 116, 101], [97, 116, 104, 108, 101, 116, 101], [110, 105, 103, 104, 116], [102, 114, 101, 101], [97, 119, 97, 121], [119, 105, 115, 104], [108, 101, 99, 116, 117, 114, 101], [108, 97, 98], [100, 114, 105, 108, 108], [99, 97, 112], [119, 105, 116, 104], [59]]
def statL : List (String × String × String × Value) := [(RX3, "LAYER", "[I", .ref 2000), (RX3, "BLOCK", "[I", .ref 2001), ("java/lang/String", "COMPACT_STRINGS", "Z", .int 1), ("jdk/internal/util/Preconditions", "SIOOBE_FORMATTER", "Ljava/util/function/BiFunction;", .retAddr 0)]
def nestL : List Cond := [.fieldLinkNest RX6 323 RX5 "kind" "I" RX6, .fieldLinkNest RX6 329 RX5 "wishes" "I" RX6, .fieldLinkNest RX6 334 RX5 "sort" "I" RX6, .fieldLinkNest RX6 331 RX5 "course" "I" RX6, .fieldLinkNest RX6 337 RX5 "which" "I" RX6, .fieldLinkNest RX6 326 RX5 "hours" "I" RX6, .fieldLinkNest RX6 340 RX5 "cap" "I" RX6, .fieldLinkNest RX6 343 RX5 "link" "I" RX6]
abbrev Scr : Type := Nat × (Nat → Int32)
def cA (X : Scr) (b : Nat) : Option Scr := if b = 2000 then some (7, fun j => [0, 1, 10, 46, 146, 371, 812].getD j 0) else if b = 2001 then some (7, fun j => [0, 1, 9, 36, 100, 225, 441].getD j 0) else if b = 2002 then some X else none
def Cst (D : va_G) (ad : Nat → Nat) (cy : Nat → ClassId) (A : Nat → Prop) (X : Scr) (U : State) (H : Heap) : Prop :=
  va_K D classes (tysOf cy) U ∧
  (∀ (i : Nat) (b : List Int32), strB[i]? = some b → va_O "java/lang/String" (ad (1000 + i)) A U H ∧ va_OF "java/lang/String" "coder" "B" (.int 0) (ad (1000 + i)) A U H ∧ va_OF "java/lang/String" "value" "[B" (.ref (ad (1500 + i))) (ad (1000 + i)) A U H ∧ va_T .byte (ad (1500 + i)) b.length (fun j => .int (b.getD j 0)) A U H) ∧
  (∀ (i : Nat) (q : String × Nat × String), strL[i]? = some q → vk_R q.1 q.2.1 q.2.2 (ad (1000 + i)) U) ∧
  (∀ (b n : Nat) (f : Nat → Int32), cA X b = some (n, f) → va_T .int (ad b) n (fun j => .int (f j)) A U H) ∧
  (∀ q ∈ statL, va_Z q.1 q.2.1 q.2.2.1 (tv ad q.2.2.2) A U H) ∧
  ∀ w ∈ nestL, va_Nw w U
theorem nest_ok {w : Cond} (h : w ∈ nestL) : ∃ a i b n d g, w = .fieldLinkNest a i b n d g := by
  simp only [nestL, List.mem_cons, List.not_mem_nil, or_false] at h
  rcases h with rfl | rfl | rfl | rfl | rfl | rfl | rfl | rfl <;> exact ⟨_, _, _, _, _, _, rfl⟩
theorem Cst.warm {D : va_G} {ad : Nat → Nat} {cy : Nat → ClassId} {A : Nat → Prop} {X : Scr} {s U : State} {H H1 : Heap} (h : Cst D ad cy A X s H) (hW : s.WarmedH U.vm) (hq : ∀ a : Nat, a < H.size → ¬ A a → H1[a]? = H[a]?) : Cst D ad cy A X U H1 := by
  obtain ⟨h1, h2, h3, h4, h5, h6⟩ := h
  have hv := hW.alike
  refine ⟨va_K.moved hv h1, fun i b hb => ?_, fun i q hi => vk_R.warm hW (h3 i q hi), fun b n f hb => (va_T.moved hv (h4 b n f hb)).kept hq, fun q hm => (va_Z.moved hv (h5 q hm)).kept hq, fun w hw => ?_⟩
  · obtain ⟨a1, a2, a3, a4⟩ := h2 i b hb
    exact ⟨(va_O.moved hv a1).kept hq, (va_OF.moved hv a2).kept hq, (va_OF.moved hv a3).kept hq, (va_T.moved hv a4).kept hq⟩
  · obtain ⟨a, i, b, n, d, g, rfl⟩ := nest_ok hw
    exact va_Nw.warmF hW (h6 _ hw)
theorem Cst.same {D : va_G} {ad : Nat → Nat} {cy : Nat → ClassId} {A : Nat → Prop} {X : Scr} {s U : State} {H : Heap} (h : Cst D ad cy A X s H) (hv : U.vm = s.vm) : Cst D ad cy A X U H := by
  obtain ⟨h1, h2, h3, h4, h5, h6⟩ := h
  have hal : s.vm.Alike U.vm := by rw [hv]; exact Vm.Alike.refl _
  refine ⟨va_K.moved hal h1, fun i b hb => ?_, fun i q hi => vk_R.same hv (h3 i q hi), fun b n f hb => va_T.moved hal (h4 b n f hb), fun q hm => va_Z.moved hal (h5 q hm), fun w hw => ?_⟩
  · obtain ⟨a1, a2, a3, a4⟩ := h2 i b hb
    exact ⟨va_O.moved hal a1, va_OF.moved hal a2, va_OF.moved hal a3, va_T.moved hal a4⟩
  · obtain ⟨a, i, b, n, d, g, rfl⟩ := nest_ok hw
    exact va_Nw.same rfl hv.symm (h6 _ hw)
def Cx (M : MD) (d : Nat) (p : Program) (R : Room) (s : State) (m : MethodId) (args : Array Value) (c : Code) : Prop :=
  p.tables.exec = Jvm.exec ∧ c.code = M.2.1 ∧ c.maxLocals = M.2.2.1 ∧ s.vm.findClass M.1.cls = some m.cls ∧ (∀ w ∈ gw, w.before args s = true) ∧ d ≤ R.frames ∧ 70 * d ≤ R.locals
def Wd (D : va_G) (ad : Nat → Nat) (cy : Nat → ClassId) (A : Nat → Prop) (s : State) (σ : Mem) (H : Heap) (locs : List Loc) : Prop :=
  va_P D classes (lay ad cy σ) H ∧ va_D A (lay ad cy σ) ∧ va_S A s.heap H locs
def Lo (ad : Nat → Nat) (ls : Array Slot) (n : Nat) (L : List (Option Value)) : Prop := ls.size = n ∧ lv_wf ls ∧ ∀ (i : Nat) (v : Value), L[i]? = some (some v) → ls[i]? = some (.val (tv ad v))
/-- a return instruction that fits the value -/
def Rt (M : MD) (pc : Nat) : Option Value → Prop
  | none => decode M.2.1 pc = .ok (.return_, 1) ∧ M.2.2.2 = none
  | some (.int x) => decode M.2.1 pc = .ok (.ireturn, 1) ∧ ∃ ty, M.2.2.2 = some ty ∧ narrow ty (.int x) = .int x
  | some (.long _) => decode M.2.1 pc = .ok (.lreturn, 1) ∧ M.2.2.2 = some .long
  | some (.ref _) => decode M.2.1 pc = .ok (.areturn, 1) ∧ ∃ n, M.2.2.2 = some (.object n)
  | _ => False
def J (X : Scr) (M : MD) (d pc : Nat) (L : List (Option Value)) (st : List Value) (σ : Mem) (v : Option Value) (σ' : Mem) : Prop :=
  ∀ (p : Program) (l : Launch) (e : Env) (R : Room) (s : State) (m : MethodId) (args : Array Value) (below : List Frame) (meth : Method) (c : Code) (H : Heap) (locs : List Loc) (cells slots : Nat) (Q : State → Prop) (ls : Array Slot) (D : va_G) (ad : Nat → Nat) (cy : Nat → ClassId) (A : Nat → Prop),
    Cx M d p R s m args c → Cst D ad cy A X s s.heap → cells ≤ R.cells ∧ slots ≤ R.slots → Wd D ad cy A s σ H locs → Lo ad ls M.2.2.1 L →
    (∀ (H' : Heap) (locs' : List Loc) (ls' : Array Slot) (pc' : Nat), Rt M pc' v → Wd D ad cy A s σ' H' locs' → W p l e R s m args below meth c H' locs' cells slots Q (F0 m pc' ls' (v.toList.map (tv ad)))) →
    W p l e R s m args below meth c H locs cells slots Q (F0 m pc ls (st.map (tv ad)))
section JR
variable {X : Scr} {M : MD} {d pc : Nat} {L : List (Option Value)} {st : List Value} {σ σ' : Mem} {w : Option Value}
theorem J_mono {d' : Nat} (h : d ≤ d') (k : J X M d pc L st σ w σ') : J X M d' pc L st σ w σ' := by
  intro p l e R s m args below meth c H locs cells slots Q ls D ad cy A cx
  exact k p l e R s m args below meth c H locs cells slots Q ls D ad cy A ⟨cx.1, cx.2.1, cx.2.2.1, cx.2.2.2.1, cx.2.2.2.2.1, Nat.le_trans h cx.2.2.2.2.2.1, Nat.le_trans (Nat.mul_le_mul_left 70 h) cx.2.2.2.2.2.2⟩
/-- the end -/
theorem J_ret (h : Rt M pc w) : J X M d pc L w.toList σ w σ := by
  intro p l e R s m args below meth c H locs cells slots Q ls D ad cy A _ _ _ hw _ k
  exact k H locs ls pc h hw

theorem J_iconst {n : Int} {v : Int32} (hd : decode M.2.1 pc = .ok (.iconst n, 1)) (hv : Int32.ofInt n = v) (k : J X M d (pc + 1) L (.int v :: st) σ w σ') : J X M d pc L (st) σ w σ' := by
  intro p l e R s m args below meth c H locs cells slots Q ls D ad cy A cx cs hc hw hl k9
  exact lv_iconst cx.1 cx.2.1 hd hv (k p l e R s m args below meth c H locs cells slots Q ls D ad cy A cx cs hc hw hl k9)
theorem J_bipush {n : Int} {v : Int32} (hd : decode M.2.1 pc = .ok (.bipush n, 2)) (hv : (Int8.ofInt n).toInt32 = v) (k : J X M d (pc + 2) L (.int v :: st) σ w σ') : J X M d pc L (st) σ w σ' := by
  intro p l e R s m args below meth c H locs cells slots Q ls D ad cy A cx cs hc hw hl k9
  exact lv_bipush cx.1 cx.2.1 hd hv (k p l e R s m args below meth c H locs cells slots Q ls D ad cy A cx cs hc hw hl k9)
theorem J_sipush {n : Int} {v : Int32} (hd : decode M.2.1 pc = .ok (.sipush n, 3)) (hv : (Int16.ofInt n).toInt32 = v) (k : J X M d (pc + 3) L (.int v :: st) σ w σ') : J X M d pc L (st) σ w σ' := by
  intro p l e R s m args below meth c H locs cells slots Q ls D ad cy A cx cs hc hw hl k9
  exact lv_sipush cx.1 cx.2.1 hd hv (k p l e R s m args below meth c H locs cells slots Q ls D ad cy A cx cs hc hw hl k9)
theorem J_lconst {n : Fin 2} {v : Int64} (hd : decode M.2.1 pc = .ok (.lconst n, 1)) (hv : Int64.ofNat (n : Nat) = v) (k : J X M d (pc + 1) L (.long v :: st) σ w σ') : J X M d pc L (st) σ w σ' := by
  intro p l e R s m args below meth c H locs cells slots Q ls D ad cy A cx cs hc hw hl k9
  exact lv_lconst cx.1 cx.2.1 hd hv (k p l e R s m args below meth c H locs cells slots Q ls D ad cy A cx cs hc hw hl k9)
theorem J_ldc {n : Nat} {v : Int32} (hc0 : Cond.constant M.1.cls n v ∈ gw) (hd : decode M.2.1 pc = .ok (.ldc n, 2)) (k : J X M d (pc + 2) L (.int v :: st) σ w σ') : J X M d pc L (st) σ w σ' := by
  intro p l e R s m args below meth c H locs cells slots Q ls D ad cy A cx cs hc hw hl k9
  exact lv_ldc cx.1 cx.2.1 cx.2.2.2.1 (cx.2.2.2.2.1 _ hc0) hd (k p l e R s m args below meth c H locs cells slots Q ls D ad cy A cx cs hc hw hl k9)
theorem J_ldcw {n : Nat} {v : Int32} (hc0 : Cond.constant M.1.cls n v ∈ gw) (hd : decode M.2.1 pc = .ok (.ldc_w n, 3)) (k : J X M d (pc + 3) L (.int v :: st) σ w σ') : J X M d pc L (st) σ w σ' := by
  intro p l e R s m args below meth c H locs cells slots Q ls D ad cy A cx cs hc hw hl k9
  exact lv_ldcw cx.1 cx.2.1 cx.2.2.2.1 (cx.2.2.2.2.1 _ hc0) hd (k p l e R s m args below meth c H locs cells slots Q ls D ad cy A cx cs hc hw hl k9)
theorem J_ldc2 {n : Nat} {v : Int64} (hc0 : Cond.constantLong M.1.cls n v ∈ gw) (hd : decode M.2.1 pc = .ok (.ldc2_w n, 3)) (k : J X M d (pc + 3) L (.long v :: st) σ w σ') : J X M d pc L (st) σ w σ' := by
  intro p l e R s m args below meth c H locs cells slots Q ls D ad cy A cx cs hc hw hl k9
  exact lv_ldc2 cx.1 cx.2.1 cx.2.2.2.1 (cx.2.2.2.2.1 _ hc0) hd (k p l e R s m args below meth c H locs cells slots Q ls D ad cy A cx cs hc hw hl k9)
theorem J_ldcS {n i : Nat} {tx : String} (hi : strL[i]? = some (M.1.cls, n, tx)) (hd : decode M.2.1 pc = .ok (.ldc n, 2)) (k : J X M d (pc + 2) L (.ref (1000 + i) :: st) σ w σ') : J X M d pc L (st) σ w σ' := by
  intro p l e R s m args below meth c H locs cells slots Q ls D ad cy A cx cs hc hw hl k9
  exact va_ldcS cx.1 cx.2.1 cx.2.2.2.1 (cs.2.2.1 i _ hi) hd (k p l e R s m args below meth c H locs cells slots Q ls D ad cy A cx cs hc hw hl k9)
theorem J_iload_n {k0 : Fin 4} {x : Int32} (hd : decode M.2.1 pc = .ok (.iload_n k0, 1)) (hx : L[(k0 : Nat)]? = some (some (.int x))) (k : J X M d (pc + 1) L (.int x :: st) σ w σ') : J X M d pc L (st) σ w σ' := by
  intro p l e R s m args below meth c H locs cells slots Q ls D ad cy A cx cs hc hw hl k9
  exact lv_iload_n cx.1 cx.2.1 hd rfl (hl.2.2 _ _ hx) (k p l e R s m args below meth c H locs cells slots Q ls D ad cy A cx cs hc hw hl k9)
theorem J_iload {i : Nat} {x : Int32} (hd : decode M.2.1 pc = .ok (.iload i, 2)) (hx : L[i]? = some (some (.int x))) (k : J X M d (pc + 2) L (.int x :: st) σ w σ') : J X M d pc L (st) σ w σ' := by
  intro p l e R s m args below meth c H locs cells slots Q ls D ad cy A cx cs hc hw hl k9
  exact lv_iload cx.1 cx.2.1 hd (hl.2.2 _ _ hx) (k p l e R s m args below meth c H locs cells slots Q ls D ad cy A cx cs hc hw hl k9)
theorem J_lload_n {k0 : Fin 4} {x : Int64} (hd : decode M.2.1 pc = .ok (.lload_n k0, 1)) (hx : L[(k0 : Nat)]? = some (some (.long x))) (k : J X M d (pc + 1) L (.long x :: st) σ w σ') : J X M d pc L (st) σ w σ' := by
  intro p l e R s m args below meth c H locs cells slots Q ls D ad cy A cx cs hc hw hl k9
  exact lv_lload_n cx.1 cx.2.1 hd rfl (hl.2.2 _ _ hx) (k p l e R s m args below meth c H locs cells slots Q ls D ad cy A cx cs hc hw hl k9)
theorem J_lload {i : Nat} {x : Int64} (hd : decode M.2.1 pc = .ok (.lload i, 2)) (hx : L[i]? = some (some (.long x))) (k : J X M d (pc + 2) L (.long x :: st) σ w σ') : J X M d pc L (st) σ w σ' := by
  intro p l e R s m args below meth c H locs cells slots Q ls D ad cy A cx cs hc hw hl k9
  exact lv_lload cx.1 cx.2.1 hd (hl.2.2 _ _ hx) (k p l e R s m args below meth c H locs cells slots Q ls D ad cy A cx cs hc hw hl k9)
theorem J_aload_n {k0 : Fin 4} {x : Nat} (hd : decode M.2.1 pc = .ok (.aload_n k0, 1)) (hx : L[(k0 : Nat)]? = some (some (.ref x))) (k : J X M d (pc + 1) L (.ref x :: st) σ w σ') : J X M d pc L (st) σ w σ' := by
  intro p l e R s m args below meth c H locs cells slots Q ls D ad cy A cx cs hc hw hl k9
  exact lv_aload_n cx.1 cx.2.1 hd rfl (hl.2.2 _ _ hx) (k p l e R s m args below meth c H locs cells slots Q ls D ad cy A cx cs hc hw hl k9)
theorem J_aload {i : Nat} {x : Nat} (hd : decode M.2.1 pc = .ok (.aload i, 2)) (hx : L[i]? = some (some (.ref x))) (k : J X M d (pc + 2) L (.ref x :: st) σ w σ') : J X M d pc L (st) σ w σ' := by
  intro p l e R s m args below meth c H locs cells slots Q ls D ad cy A cx cs hc hw hl k9
  exact lv_aload cx.1 cx.2.1 hd (hl.2.2 _ _ hx) (k p l e R s m args below meth c H locs cells slots Q ls D ad cy A cx cs hc hw hl k9)
/-- the place ahead of i holds no long -/
def okp (L : List (Option Value)) (i : Nat) : Bool := match i with
  | 0 => true
  | j + 1 => match L[j]? with
    | some (some (.long _)) => false
    | some (some (.double _)) => false
    | _ => true
def lst (ad : Nat → Nat) (L : List (Option Value)) : List (Nat × Value) := (List.range L.length).filterMap (fun i => match L[i]? with | some (some v) => some (i, tv ad v) | _ => none)
theorem lst_mem {ad : Nat → Nat} {L : List (Option Value)} {i : Nat} {x : Value} : (i, x) ∈ lst ad L ↔ ∃ v, L[i]? = some (some v) ∧ x = tv ad v := by
  unfold lst
  rw [List.mem_filterMap]
  constructor
  · rintro ⟨j, -, hj⟩
    cases hL : L[j]? with
    | none => rw [hL] at hj; cases hj
    | some o =>
      cases o with
      | none => rw [hL] at hj; cases hj
      | some v => rw [hL] at hj; cases hj; exact ⟨v, hL, rfl⟩
  · rintro ⟨v, hv, rfl⟩
    exact ⟨i, List.mem_range.mpr (List.getElem?_eq_some_iff.mp hv).1, by rw [hv]⟩
theorem Lo.has {ad : Nat → Nat} {ls : Array Slot} {n : Nat} {L : List (Option Value)} (h : Lo ad ls n L) : lv_has ls n (lst ad L) := ⟨h.1, h.2.1, fun q hq => by
  obtain ⟨i, x⟩ := q
  obtain ⟨v, h1, rfl⟩ := lst_mem.mp hq
  exact h.2.2 i v h1⟩
theorem Lo.st1 {ad : Nat → Nat} {ls' : Array Slot} {n i : Nat} {L : List (Option Value)} {v : Value} (hp : okp L i = true)
    (h : lv_has ls' n ((i, tv ad v) :: (lst ad L).filter (fun q => !(q.1 == i) && !(q.1 + 1 == i && q.2.category == 2)))) : Lo ad ls' n (L.set i (some v)) := by
  refine ⟨h.1, h.2.1, fun j x hj => ?_⟩
  by_cases e : i = j
  · subst e
    rw [List.getElem?_set] at hj
    simp only [if_true] at hj
    split at hj
    · cases hj
      exact h.2.2 (i, tv ad v) List.mem_cons_self
    · cases hj
  · rw [List.getElem?_set_ne e] at hj
    refine h.2.2 (j, tv ad x) (List.mem_cons_of_mem _ (List.mem_filter.mpr ⟨lst_mem.mpr ⟨x, hj, rfl⟩, ?_⟩))
    have e1 : (j == i) = false := by simp only [beq_eq_false_iff_ne, ne_eq]; exact fun q => e q.symm
    simp only [e1, Bool.not_false, Bool.true_and, Bool.not_eq_true', Bool.and_eq_false_iff]
    by_cases e2 : j + 1 = i
    · right
      subst e2
      simp only [okp, hj] at hp
      simp only [tv_cat, beq_eq_false_iff_ne, ne_eq]
      intro hc
      cases x <;> simp [Value.category] at hc hp
    · left
      simp only [beq_eq_false_iff_ne, ne_eq]; exact e2
theorem Lo.st2 {ad : Nat → Nat} {ls' : Array Slot} {n i : Nat} {L : List (Option Value)} {v : Value} (hp : okp L i = true)
    (h : lv_has ls' n ((i, tv ad v) :: (lst ad L).filter (fun q => !(q.1 == i) && (!(q.1 == i + 1) && !(q.1 + 1 == i && q.2.category == 2))))) : Lo ad ls' n ((L.set i (some v)).set (i + 1) none) := by
  refine ⟨h.1, h.2.1, fun j x hj => ?_⟩
  by_cases e0 : i + 1 = j
  · subst e0
    rw [List.getElem?_set] at hj
    simp only [if_true] at hj
    split at hj <;> cases hj
  rw [List.getElem?_set_ne e0] at hj
  by_cases e : i = j
  · subst e
    rw [List.getElem?_set] at hj
    simp only [if_true] at hj
    split at hj
    · cases hj
      exact h.2.2 (i, tv ad v) List.mem_cons_self
    · cases hj
  · rw [List.getElem?_set_ne e] at hj
    refine h.2.2 (j, tv ad x) (List.mem_cons_of_mem _ (List.mem_filter.mpr ⟨lst_mem.mpr ⟨x, hj, rfl⟩, ?_⟩))
    have e1 : (j == i) = false := by simp only [beq_eq_false_iff_ne, ne_eq]; exact fun q => e q.symm
    have e3 : (j == i + 1) = false := by simp only [beq_eq_false_iff_ne, ne_eq]; exact fun q => e0 q.symm
    simp only [e1, e3, Bool.not_false, Bool.true_and, Bool.not_eq_true', Bool.and_eq_false_iff]
    by_cases e2 : j + 1 = i
    · right
      subst e2
      simp only [okp, hj] at hp
      simp only [tv_cat, beq_eq_false_iff_ne, ne_eq]
      intro hc
      cases x <;> simp [Value.category] at hc hp
    · left
      simp only [beq_eq_false_iff_ne, ne_eq]; exact e2
/-- a local forgotten -/
theorem J_drop (i : Nat) {L' : List (Option Value)} (hL : L.set i none = L') (k : J X M d pc L' st σ w σ') : J X M d pc L st σ w σ' := by
  intro p l e R s m args below meth c H locs cells slots Q ls D ad cy A cx cs hc hw hl k9
  refine k p l e R s m args below meth c H locs cells slots Q ls D ad cy A cx cs hc hw ⟨hl.1, hl.2.1, fun j v hj => hl.2.2 j v ?_⟩ k9
  subst hL
  by_cases e : i = j
  · subst e
    rw [List.getElem?_set] at hj
    simp only [if_true] at hj
    split at hj <;> cases hj
  · rwa [List.getElem?_set_ne e] at hj
theorem J_istore_n {k0 : Fin 4} {x : Int32} {L' : List (Option Value)} (hd : decode M.2.1 pc = .ok (.istore_n k0, 1)) (hp : okp L (k0 : Nat) = true) (hn : (k0 : Nat) < M.2.2.1) (hL : L.set (k0 : Nat) (some (.int x)) = L') (k : J X M d (pc + 1) L' st σ w σ') : J X M d pc L (.int x :: st) σ w σ' := by
  intro p l e R s m args below meth c H locs cells slots Q ls D ad cy A cx cs hc hw hl k9
  subst hL
  exact lv_istore_n cx.1 cx.2.1 hd rfl hl.has hn rfl (fun ls' hls => k p l e R s m args below meth c H locs cells slots Q ls' D ad cy A cx cs hc hw (Lo.st1 (v := .int x) hp hls) k9)
theorem J_istore {i : Nat} {x : Int32} {L' : List (Option Value)} (hd : decode M.2.1 pc = .ok (.istore i, 2)) (hp : okp L i = true) (hn : i < M.2.2.1) (hL : L.set i (some (.int x)) = L') (k : J X M d (pc + 2) L' st σ w σ') : J X M d pc L (.int x :: st) σ w σ' := by
  intro p l e R s m args below meth c H locs cells slots Q ls D ad cy A cx cs hc hw hl k9
  subst hL
  exact lv_istore cx.1 cx.2.1 hd hl.has hn rfl (fun ls' hls => k p l e R s m args below meth c H locs cells slots Q ls' D ad cy A cx cs hc hw (Lo.st1 (v := .int x) hp hls) k9)
theorem J_astore_n {k0 : Fin 4} {x : Nat} {L' : List (Option Value)} (hd : decode M.2.1 pc = .ok (.astore_n k0, 1)) (hp : okp L (k0 : Nat) = true) (hn : (k0 : Nat) < M.2.2.1) (hL : L.set (k0 : Nat) (some (.ref x)) = L') (k : J X M d (pc + 1) L' st σ w σ') : J X M d pc L (.ref x :: st) σ w σ' := by
  intro p l e R s m args below meth c H locs cells slots Q ls D ad cy A cx cs hc hw hl k9
  subst hL
  exact lv_astore_n cx.1 cx.2.1 hd rfl hl.has hn rfl (fun ls' hls => k p l e R s m args below meth c H locs cells slots Q ls' D ad cy A cx cs hc hw (Lo.st1 (v := .ref x) hp hls) k9)
theorem J_astore {i : Nat} {x : Nat} {L' : List (Option Value)} (hd : decode M.2.1 pc = .ok (.astore i, 2)) (hp : okp L i = true) (hn : i < M.2.2.1) (hL : L.set i (some (.ref x)) = L') (k : J X M d (pc + 2) L' st σ w σ') : J X M d pc L (.ref x :: st) σ w σ' := by
  intro p l e R s m args below meth c H locs cells slots Q ls D ad cy A cx cs hc hw hl k9
  subst hL
  exact lv_astore cx.1 cx.2.1 hd hl.has hn rfl (fun ls' hls => k p l e R s m args below meth c H locs cells slots Q ls' D ad cy A cx cs hc hw (Lo.st1 (v := .ref x) hp hls) k9)
theorem J_lstore_n {k0 : Fin 4} {x : Int64} {L' : List (Option Value)} (hd : decode M.2.1 pc = .ok (.lstore_n k0, 1)) (hp : okp L (k0 : Nat) = true) (hn : (k0 : Nat) + 1 < M.2.2.1) (hL : (L.set (k0 : Nat) (some (.long x))).set ((k0 : Nat) + 1) none = L') (k : J X M d (pc + 1) L' st σ w σ') : J X M d pc L (.long x :: st) σ w σ' := by
  intro p l e R s m args below meth c H locs cells slots Q ls D ad cy A cx cs hc hw hl k9
  subst hL
  exact lv_lstore_n cx.1 cx.2.1 hd rfl hl.has hn rfl (fun ls' hls => k p l e R s m args below meth c H locs cells slots Q ls' D ad cy A cx cs hc hw (Lo.st2 (v := .long x) hp hls) k9)
theorem J_lstore {i : Nat} {x : Int64} {L' : List (Option Value)} (hd : decode M.2.1 pc = .ok (.lstore i, 2)) (hp : okp L i = true) (hn : i + 1 < M.2.2.1) (hL : (L.set i (some (.long x))).set (i + 1) none = L') (k : J X M d (pc + 2) L' st σ w σ') : J X M d pc L (.long x :: st) σ w σ' := by
  intro p l e R s m args below meth c H locs cells slots Q ls D ad cy A cx cs hc hw hl k9
  subst hL
  exact lv_lstore cx.1 cx.2.1 hd hl.has hn rfl (fun ls' hls => k p l e R s m args below meth c H locs cells slots Q ls' D ad cy A cx cs hc hw (Lo.st2 (v := .long x) hp hls) k9)
theorem J_iinc {i : Nat} {n : Int} {x v : Int32} {L' : List (Option Value)} (hd : decode M.2.1 pc = .ok (.iinc i n, 3)) (hx : L[i]? = some (some (.int x))) (hp : okp L i = true) (hn : i < M.2.2.1) (hv : x + Int32.ofInt n = v) (hL : L.set i (some (.int v)) = L') (k : J X M d (pc + 3) L' st σ w σ') : J X M d pc L st σ w σ' := by
  intro p l e R s m args below meth c H locs cells slots Q ls D ad cy A cx cs hc hw hl k9
  subst hL
  obtain ⟨j, hj⟩ := List.getElem?_of_mem (lst_mem.mpr ⟨_, hx, rfl⟩ : (i, tv ad (.int x)) ∈ lst ad L)
  exact lv_iinc cx.1 cx.2.1 hd hl.has (k := j) hj hv hn rfl (fun ls' hls => k p l e R s m args below meth c H locs cells slots Q ls' D ad cy A cx cs hc hw (Lo.st1 (v := .int v) hp hls) k9)
theorem J_dup {va : Value} (hd : decode M.2.1 pc = .ok (.dup, 1)) (hva : va.category = 1) (k : J X M d (pc + 1) L (va :: va :: st) σ w σ') : J X M d pc L (va :: st) σ w σ' := by
  intro p l e R s m args below meth c H locs cells slots Q ls D ad cy A cx cs hc hw hl k9
  exact lv_dup cx.1 cx.2.1 hd (by rw [tv_cat]; exact hva) (k p l e R s m args below meth c H locs cells slots Q ls D ad cy A cx cs hc hw hl k9)
theorem J_pop {va : Value} (hd : decode M.2.1 pc = .ok (.pop, 1)) (hva : va.category = 1) (k : J X M d (pc + 1) L st σ w σ') : J X M d pc L (va :: st) σ w σ' := by
  intro p l e R s m args below meth c H locs cells slots Q ls D ad cy A cx cs hc hw hl k9
  exact lv_pop cx.1 cx.2.1 hd (va := tv ad va) (by rw [tv_cat]; exact hva) (k p l e R s m args below meth c H locs cells slots Q ls D ad cy A cx cs hc hw hl k9)
theorem J_dup2 {va vb : Value} (hd : decode M.2.1 pc = .ok (.dup2, 1)) (hva : va.category = 1) (hvb : vb.category = 1) (k : J X M d (pc + 1) L (va :: vb :: va :: vb :: st) σ w σ') : J X M d pc L (va :: vb :: st) σ w σ' := by
  intro p l e R s m args below meth c H locs cells slots Q ls D ad cy A cx cs hc hw hl k9
  exact lv_dup2_11 cx.1 cx.2.1 hd (by rw [tv_cat]; exact hva) (by rw [tv_cat]; exact hvb) (k p l e R s m args below meth c H locs cells slots Q ls D ad cy A cx cs hc hw hl k9)
theorem J_iadd {x y : Int32} (hd : decode M.2.1 pc = .ok (.iadd, 1)) (k : J X M d (pc + 1) L (.int (x + y) :: st) σ w σ') : J X M d pc L (.int y :: .int x :: st) σ w σ' := by
  intro p l e R s m args below meth c H locs cells slots Q ls D ad cy A cx cs hc hw hl k9
  exact lv_iadd cx.1 cx.2.1 hd (k p l e R s m args below meth c H locs cells slots Q ls D ad cy A cx cs hc hw hl k9)
theorem J_isub {x y : Int32} (hd : decode M.2.1 pc = .ok (.isub, 1)) (k : J X M d (pc + 1) L (.int (x - y) :: st) σ w σ') : J X M d pc L (.int y :: .int x :: st) σ w σ' := by
  intro p l e R s m args below meth c H locs cells slots Q ls D ad cy A cx cs hc hw hl k9
  exact lv_isub cx.1 cx.2.1 hd (k p l e R s m args below meth c H locs cells slots Q ls D ad cy A cx cs hc hw hl k9)
theorem J_imul {x y : Int32} (hd : decode M.2.1 pc = .ok (.imul, 1)) (k : J X M d (pc + 1) L (.int (x * y) :: st) σ w σ') : J X M d pc L (.int y :: .int x :: st) σ w σ' := by
  intro p l e R s m args below meth c H locs cells slots Q ls D ad cy A cx cs hc hw hl k9
  exact lv_imul cx.1 cx.2.1 hd (k p l e R s m args below meth c H locs cells slots Q ls D ad cy A cx cs hc hw hl k9)
theorem J_iand {x y : Int32} (hd : decode M.2.1 pc = .ok (.iand, 1)) (k : J X M d (pc + 1) L (.int (x &&& y) :: st) σ w σ') : J X M d pc L (.int y :: .int x :: st) σ w σ' := by
  intro p l e R s m args below meth c H locs cells slots Q ls D ad cy A cx cs hc hw hl k9
  exact lv_iand cx.1 cx.2.1 hd (k p l e R s m args below meth c H locs cells slots Q ls D ad cy A cx cs hc hw hl k9)
theorem J_ior {x y : Int32} (hd : decode M.2.1 pc = .ok (.ior, 1)) (k : J X M d (pc + 1) L (.int (x ||| y) :: st) σ w σ') : J X M d pc L (.int y :: .int x :: st) σ w σ' := by
  intro p l e R s m args below meth c H locs cells slots Q ls D ad cy A cx cs hc hw hl k9
  exact lv_ior cx.1 cx.2.1 hd (k p l e R s m args below meth c H locs cells slots Q ls D ad cy A cx cs hc hw hl k9)
theorem J_ixor {x y : Int32} (hd : decode M.2.1 pc = .ok (.ixor, 1)) (k : J X M d (pc + 1) L (.int (x ^^^ y) :: st) σ w σ') : J X M d pc L (.int y :: .int x :: st) σ w σ' := by
  intro p l e R s m args below meth c H locs cells slots Q ls D ad cy A cx cs hc hw hl k9
  exact lv_ixor cx.1 cx.2.1 hd (k p l e R s m args below meth c H locs cells slots Q ls D ad cy A cx cs hc hw hl k9)
theorem J_ishl {x y : Int32} (hd : decode M.2.1 pc = .ok (.ishl, 1)) (k : J X M d (pc + 1) L (.int (x <<< (y &&& 31)) :: st) σ w σ') : J X M d pc L (.int y :: .int x :: st) σ w σ' := by
  intro p l e R s m args below meth c H locs cells slots Q ls D ad cy A cx cs hc hw hl k9
  exact lv_ishl cx.1 cx.2.1 hd (k p l e R s m args below meth c H locs cells slots Q ls D ad cy A cx cs hc hw hl k9)
theorem J_ishr {x y : Int32} (hd : decode M.2.1 pc = .ok (.ishr, 1)) (k : J X M d (pc + 1) L (.int (x >>> (y &&& 31)) :: st) σ w σ') : J X M d pc L (.int y :: .int x :: st) σ w σ' := by
  intro p l e R s m args below meth c H locs cells slots Q ls D ad cy A cx cs hc hw hl k9
  exact lv_ishr cx.1 cx.2.1 hd (k p l e R s m args below meth c H locs cells slots Q ls D ad cy A cx cs hc hw hl k9)
theorem J_iushr {x y : Int32} (hd : decode M.2.1 pc = .ok (.iushr, 1)) (k : J X M d (pc + 1) L (.int ((x.toUInt32 >>> (y.toUInt32 &&& Int32.toUInt32 31)).toInt32) :: st) σ w σ') : J X M d pc L (.int y :: .int x :: st) σ w σ' := by
  intro p l e R s m args below meth c H locs cells slots Q ls D ad cy A cx cs hc hw hl k9
  exact lv_iushr cx.1 cx.2.1 hd rfl (k p l e R s m args below meth c H locs cells slots Q ls D ad cy A cx cs hc hw hl k9)
theorem J_idiv {x y : Int32} (hd : decode M.2.1 pc = .ok (.idiv, 1)) (hne : ¬ y = 0) (k : J X M d (pc + 1) L (.int (x / y) :: st) σ w σ') : J X M d pc L (.int y :: .int x :: st) σ w σ' := by
  intro p l e R s m args below meth c H locs cells slots Q ls D ad cy A cx cs hc hw hl k9
  exact lv_idiv cx.1 cx.2.1 hd hne (k p l e R s m args below meth c H locs cells slots Q ls D ad cy A cx cs hc hw hl k9)
theorem J_irem {x y : Int32} (hd : decode M.2.1 pc = .ok (.irem, 1)) (hne : ¬ y = 0) (k : J X M d (pc + 1) L (.int (x - x / y * y) :: st) σ w σ') : J X M d pc L (.int y :: .int x :: st) σ w σ' := by
  intro p l e R s m args below meth c H locs cells slots Q ls D ad cy A cx cs hc hw hl k9
  exact lv_irem cx.1 cx.2.1 hd hne (k p l e R s m args below meth c H locs cells slots Q ls D ad cy A cx cs hc hw hl k9)
theorem J_ineg {x : Int32} (hd : decode M.2.1 pc = .ok (.ineg, 1)) (k : J X M d (pc + 1) L (.int (-x) :: st) σ w σ') : J X M d pc L (.int x :: st) σ w σ' := by
  intro p l e R s m args below meth c H locs cells slots Q ls D ad cy A cx cs hc hw hl k9
  exact lv_ineg cx.1 cx.2.1 hd (k p l e R s m args below meth c H locs cells slots Q ls D ad cy A cx cs hc hw hl k9)
theorem J_ladd {x y : Int64} (hd : decode M.2.1 pc = .ok (.ladd, 1)) (k : J X M d (pc + 1) L (.long (x + y) :: st) σ w σ') : J X M d pc L (.long y :: .long x :: st) σ w σ' := by
  intro p l e R s m args below meth c H locs cells slots Q ls D ad cy A cx cs hc hw hl k9
  exact lv_ladd cx.1 cx.2.1 hd (k p l e R s m args below meth c H locs cells slots Q ls D ad cy A cx cs hc hw hl k9)
theorem J_lsub {x y : Int64} (hd : decode M.2.1 pc = .ok (.lsub, 1)) (k : J X M d (pc + 1) L (.long (x - y) :: st) σ w σ') : J X M d pc L (.long y :: .long x :: st) σ w σ' := by
  intro p l e R s m args below meth c H locs cells slots Q ls D ad cy A cx cs hc hw hl k9
  exact lv_lsub cx.1 cx.2.1 hd (k p l e R s m args below meth c H locs cells slots Q ls D ad cy A cx cs hc hw hl k9)
theorem J_land {x y : Int64} (hd : decode M.2.1 pc = .ok (.land, 1)) (k : J X M d (pc + 1) L (.long (x &&& y) :: st) σ w σ') : J X M d pc L (.long y :: .long x :: st) σ w σ' := by
  intro p l e R s m args below meth c H locs cells slots Q ls D ad cy A cx cs hc hw hl k9
  exact lv_land cx.1 cx.2.1 hd (k p l e R s m args below meth c H locs cells slots Q ls D ad cy A cx cs hc hw hl k9)
theorem J_lor {x y : Int64} (hd : decode M.2.1 pc = .ok (.lor, 1)) (k : J X M d (pc + 1) L (.long (x ||| y) :: st) σ w σ') : J X M d pc L (.long y :: .long x :: st) σ w σ' := by
  intro p l e R s m args below meth c H locs cells slots Q ls D ad cy A cx cs hc hw hl k9
  exact lv_lor cx.1 cx.2.1 hd (k p l e R s m args below meth c H locs cells slots Q ls D ad cy A cx cs hc hw hl k9)
theorem J_lshl {x : Int64} {y : Int32} (hd : decode M.2.1 pc = .ok (.lshl, 1)) (k : J X M d (pc + 1) L (.long (x <<< (y.toInt64 &&& 63)) :: st) σ w σ') : J X M d pc L (.int y :: .long x :: st) σ w σ' := by
  intro p l e R s m args below meth c H locs cells slots Q ls D ad cy A cx cs hc hw hl k9
  exact lv_lshl cx.1 cx.2.1 hd rfl (k p l e R s m args below meth c H locs cells slots Q ls D ad cy A cx cs hc hw hl k9)
theorem J_lcmp {x y : Int64} (hd : decode M.2.1 pc = .ok (.lcmp, 1)) (k : J X M d (pc + 1) L (.int (lg_cmp x y) :: st) σ w σ') : J X M d pc L (.long y :: .long x :: st) σ w σ' := by
  intro p l e R s m args below meth c H locs cells slots Q ls D ad cy A cx cs hc hw hl k9
  exact W.lcmp cx.1 cx.2.1 hd (k p l e R s m args below meth c H locs cells slots Q ls D ad cy A cx cs hc hw hl k9)
theorem J_i2l {x : Int32} (hd : decode M.2.1 pc = .ok (.i2l, 1)) (k : J X M d (pc + 1) L (.long x.toInt64 :: st) σ w σ') : J X M d pc L (.int x :: st) σ w σ' := by
  intro p l e R s m args below meth c H locs cells slots Q ls D ad cy A cx cs hc hw hl k9
  exact lv_i2l cx.1 cx.2.1 hd rfl (k p l e R s m args below meth c H locs cells slots Q ls D ad cy A cx cs hc hw hl k9)
theorem J_l2i {x : Int64} (hd : decode M.2.1 pc = .ok (.l2i, 1)) (k : J X M d (pc + 1) L (.int x.toInt32 :: st) σ w σ') : J X M d pc L (.long x :: st) σ w σ' := by
  intro p l e R s m args below meth c H locs cells slots Q ls D ad cy A cx cs hc hw hl k9
  exact lv_l2i cx.1 cx.2.1 hd rfl (k p l e R s m args below meth c H locs cells slots Q ls D ad cy A cx cs hc hw hl k9)
theorem J_i2b {x : Int32} (hd : decode M.2.1 pc = .ok (.i2b, 1)) (k : J X M d (pc + 1) L (.int x.toInt8.toInt32 :: st) σ w σ') : J X M d pc L (.int x :: st) σ w σ' := by
  intro p l e R s m args below meth c H locs cells slots Q ls D ad cy A cx cs hc hw hl k9
  exact lv_i2b cx.1 cx.2.1 hd rfl (k p l e R s m args below meth c H locs cells slots Q ls D ad cy A cx cs hc hw hl k9)
theorem J_i2c {x : Int32} (hd : decode M.2.1 pc = .ok (.i2c, 1)) (k : J X M d (pc + 1) L (.int (x.toUInt32 % 65536).toInt32 :: st) σ w σ') : J X M d pc L (.int x :: st) σ w σ' := by
  intro p l e R s m args below meth c H locs cells slots Q ls D ad cy A cx cs hc hw hl k9
  exact lv_i2c cx.1 cx.2.1 hd rfl (k p l e R s m args below meth c H locs cells slots Q ls D ad cy A cx cs hc hw hl k9)
theorem J_if_eq {x : Int32} {off : Int} (tgt : Nat) (hd : decode M.2.1 pc = .ok (.ifCond .eq off, 3)) (ht : (pc : Int) + off = (tgt : Int)) (kt : x = 0 → J X M d tgt L st σ w σ') (kf : ¬ x = 0 → J X M d (pc + 3) L st σ w σ') : J X M d pc L (.int x :: st) σ w σ' := by
  intro p l e R s m args below meth c H locs cells slots Q ls D ad cy A cx cs hc hw hl k9
  exact lv_if_eq cx.1 cx.2.1 hd ht (fun c0 => kt c0 p l e R s m args below meth c H locs cells slots Q ls D ad cy A cx cs hc hw hl k9) (fun c0 => kf c0 p l e R s m args below meth c H locs cells slots Q ls D ad cy A cx cs hc hw hl k9)
theorem J_icmp_eq {x y : Int32} {off : Int} (tgt : Nat) (hd : decode M.2.1 pc = .ok (.if_icmp .eq off, 3)) (ht : (pc : Int) + off = (tgt : Int)) (kt : x = y → J X M d tgt L st σ w σ') (kf : ¬ x = y → J X M d (pc + 3) L st σ w σ') : J X M d pc L (.int y :: .int x :: st) σ w σ' := by
  intro p l e R s m args below meth c H locs cells slots Q ls D ad cy A cx cs hc hw hl k9
  exact lv_icmp_eq cx.1 cx.2.1 hd ht (fun c0 => kt c0 p l e R s m args below meth c H locs cells slots Q ls D ad cy A cx cs hc hw hl k9) (fun c0 => kf c0 p l e R s m args below meth c H locs cells slots Q ls D ad cy A cx cs hc hw hl k9)
theorem J_if_ne {x : Int32} {off : Int} (tgt : Nat) (hd : decode M.2.1 pc = .ok (.ifCond .ne off, 3)) (ht : (pc : Int) + off = (tgt : Int)) (kt : ¬ x = 0 → J X M d tgt L st σ w σ') (kf : x = 0 → J X M d (pc + 3) L st σ w σ') : J X M d pc L (.int x :: st) σ w σ' := by
  intro p l e R s m args below meth c H locs cells slots Q ls D ad cy A cx cs hc hw hl k9
  exact lv_if_ne cx.1 cx.2.1 hd ht (fun c0 => kt c0 p l e R s m args below meth c H locs cells slots Q ls D ad cy A cx cs hc hw hl k9) (fun c0 => kf c0 p l e R s m args below meth c H locs cells slots Q ls D ad cy A cx cs hc hw hl k9)
theorem J_icmp_ne {x y : Int32} {off : Int} (tgt : Nat) (hd : decode M.2.1 pc = .ok (.if_icmp .ne off, 3)) (ht : (pc : Int) + off = (tgt : Int)) (kt : ¬ x = y → J X M d tgt L st σ w σ') (kf : x = y → J X M d (pc + 3) L st σ w σ') : J X M d pc L (.int y :: .int x :: st) σ w σ' := by
  intro p l e R s m args below meth c H locs cells slots Q ls D ad cy A cx cs hc hw hl k9
  exact lv_icmp_ne cx.1 cx.2.1 hd ht (fun c0 => kt c0 p l e R s m args below meth c H locs cells slots Q ls D ad cy A cx cs hc hw hl k9) (fun c0 => kf c0 p l e R s m args below meth c H locs cells slots Q ls D ad cy A cx cs hc hw hl k9)
theorem J_if_lt {x : Int32} {off : Int} (tgt : Nat) (hd : decode M.2.1 pc = .ok (.ifCond .lt off, 3)) (ht : (pc : Int) + off = (tgt : Int)) (kt : x < 0 → J X M d tgt L st σ w σ') (kf : ¬ x < 0 → J X M d (pc + 3) L st σ w σ') : J X M d pc L (.int x :: st) σ w σ' := by
  intro p l e R s m args below meth c H locs cells slots Q ls D ad cy A cx cs hc hw hl k9
  exact lv_if_lt cx.1 cx.2.1 hd ht (fun c0 => kt c0 p l e R s m args below meth c H locs cells slots Q ls D ad cy A cx cs hc hw hl k9) (fun c0 => kf c0 p l e R s m args below meth c H locs cells slots Q ls D ad cy A cx cs hc hw hl k9)
theorem J_icmp_lt {x y : Int32} {off : Int} (tgt : Nat) (hd : decode M.2.1 pc = .ok (.if_icmp .lt off, 3)) (ht : (pc : Int) + off = (tgt : Int)) (kt : x < y → J X M d tgt L st σ w σ') (kf : ¬ x < y → J X M d (pc + 3) L st σ w σ') : J X M d pc L (.int y :: .int x :: st) σ w σ' := by
  intro p l e R s m args below meth c H locs cells slots Q ls D ad cy A cx cs hc hw hl k9
  exact lv_icmp_lt cx.1 cx.2.1 hd ht (fun c0 => kt c0 p l e R s m args below meth c H locs cells slots Q ls D ad cy A cx cs hc hw hl k9) (fun c0 => kf c0 p l e R s m args below meth c H locs cells slots Q ls D ad cy A cx cs hc hw hl k9)
theorem J_if_ge {x : Int32} {off : Int} (tgt : Nat) (hd : decode M.2.1 pc = .ok (.ifCond .ge off, 3)) (ht : (pc : Int) + off = (tgt : Int)) (kt : 0 ≤ x → J X M d tgt L st σ w σ') (kf : ¬ 0 ≤ x → J X M d (pc + 3) L st σ w σ') : J X M d pc L (.int x :: st) σ w σ' := by
  intro p l e R s m args below meth c H locs cells slots Q ls D ad cy A cx cs hc hw hl k9
  exact lv_if_ge cx.1 cx.2.1 hd ht (fun c0 => kt c0 p l e R s m args below meth c H locs cells slots Q ls D ad cy A cx cs hc hw hl k9) (fun c0 => kf c0 p l e R s m args below meth c H locs cells slots Q ls D ad cy A cx cs hc hw hl k9)
theorem J_icmp_ge {x y : Int32} {off : Int} (tgt : Nat) (hd : decode M.2.1 pc = .ok (.if_icmp .ge off, 3)) (ht : (pc : Int) + off = (tgt : Int)) (kt : y ≤ x → J X M d tgt L st σ w σ') (kf : ¬ y ≤ x → J X M d (pc + 3) L st σ w σ') : J X M d pc L (.int y :: .int x :: st) σ w σ' := by
  intro p l e R s m args below meth c H locs cells slots Q ls D ad cy A cx cs hc hw hl k9
  exact lv_icmp_ge cx.1 cx.2.1 hd ht (fun c0 => kt c0 p l e R s m args below meth c H locs cells slots Q ls D ad cy A cx cs hc hw hl k9) (fun c0 => kf c0 p l e R s m args below meth c H locs cells slots Q ls D ad cy A cx cs hc hw hl k9)
theorem J_if_gt {x : Int32} {off : Int} (tgt : Nat) (hd : decode M.2.1 pc = .ok (.ifCond .gt off, 3)) (ht : (pc : Int) + off = (tgt : Int)) (kt : 0 < x → J X M d tgt L st σ w σ') (kf : ¬ 0 < x → J X M d (pc + 3) L st σ w σ') : J X M d pc L (.int x :: st) σ w σ' := by
  intro p l e R s m args below meth c H locs cells slots Q ls D ad cy A cx cs hc hw hl k9
  exact lv_if_gt cx.1 cx.2.1 hd ht (fun c0 => kt c0 p l e R s m args below meth c H locs cells slots Q ls D ad cy A cx cs hc hw hl k9) (fun c0 => kf c0 p l e R s m args below meth c H locs cells slots Q ls D ad cy A cx cs hc hw hl k9)
theorem J_icmp_gt {x y : Int32} {off : Int} (tgt : Nat) (hd : decode M.2.1 pc = .ok (.if_icmp .gt off, 3)) (ht : (pc : Int) + off = (tgt : Int)) (kt : y < x → J X M d tgt L st σ w σ') (kf : ¬ y < x → J X M d (pc + 3) L st σ w σ') : J X M d pc L (.int y :: .int x :: st) σ w σ' := by
  intro p l e R s m args below meth c H locs cells slots Q ls D ad cy A cx cs hc hw hl k9
  exact lv_icmp_gt cx.1 cx.2.1 hd ht (fun c0 => kt c0 p l e R s m args below meth c H locs cells slots Q ls D ad cy A cx cs hc hw hl k9) (fun c0 => kf c0 p l e R s m args below meth c H locs cells slots Q ls D ad cy A cx cs hc hw hl k9)
theorem J_if_le {x : Int32} {off : Int} (tgt : Nat) (hd : decode M.2.1 pc = .ok (.ifCond .le off, 3)) (ht : (pc : Int) + off = (tgt : Int)) (kt : x ≤ 0 → J X M d tgt L st σ w σ') (kf : ¬ x ≤ 0 → J X M d (pc + 3) L st σ w σ') : J X M d pc L (.int x :: st) σ w σ' := by
  intro p l e R s m args below meth c H locs cells slots Q ls D ad cy A cx cs hc hw hl k9
  exact lv_if_le cx.1 cx.2.1 hd ht (fun c0 => kt c0 p l e R s m args below meth c H locs cells slots Q ls D ad cy A cx cs hc hw hl k9) (fun c0 => kf c0 p l e R s m args below meth c H locs cells slots Q ls D ad cy A cx cs hc hw hl k9)
theorem J_icmp_le {x y : Int32} {off : Int} (tgt : Nat) (hd : decode M.2.1 pc = .ok (.if_icmp .le off, 3)) (ht : (pc : Int) + off = (tgt : Int)) (kt : x ≤ y → J X M d tgt L st σ w σ') (kf : ¬ x ≤ y → J X M d (pc + 3) L st σ w σ') : J X M d pc L (.int y :: .int x :: st) σ w σ' := by
  intro p l e R s m args below meth c H locs cells slots Q ls D ad cy A cx cs hc hw hl k9
  exact lv_icmp_le cx.1 cx.2.1 hd ht (fun c0 => kt c0 p l e R s m args below meth c H locs cells slots Q ls D ad cy A cx cs hc hw hl k9) (fun c0 => kf c0 p l e R s m args below meth c H locs cells slots Q ls D ad cy A cx cs hc hw hl k9)
theorem J_goto {off : Int} (tgt : Nat) (hd : decode M.2.1 pc = .ok (.goto off, 3)) (ht : (pc : Int) + off = (tgt : Int)) (k : J X M d tgt L st σ w σ') : J X M d pc L st σ w σ' := by
  intro p l e R s m args below meth c H locs cells slots Q ls D ad cy A cx cs hc hw hl k9
  exact lv_goto cx.1 cx.2.1 hd ht (k p l e R s m args below meth c H locs cells slots Q ls D ad cy A cx cs hc hw hl k9)
theorem J_swIn {dflt lo hi : Int} {offs : Array Int} {len : Nat} {x : Int32} {off : Int} (tgt : Nat) (hd : decode M.2.1 pc = .ok (.tableswitch dflt lo hi offs, len)) (h1 : ¬ x.toInt < lo) (h2 : ¬ hi < x.toInt) (ho : offs[(x.toInt - lo).toNat]? = some off) (ht : (pc : Int) + off = (tgt : Int)) (k : J X M d tgt L st σ w σ') : J X M d pc L (.int x :: st) σ w σ' := by
  intro p l e R s m args below meth c H locs cells slots Q ls D ad cy A cx cs hc hw hl k9
  exact lv_tableIn cx.1 cx.2.1 hd h1 h2 ho ht (k p l e R s m args below meth c H locs cells slots Q ls D ad cy A cx cs hc hw hl k9)
theorem J_swOut {dflt lo hi : Int} {offs : Array Int} {len : Nat} {x : Int32} (tgt : Nat) (hd : decode M.2.1 pc = .ok (.tableswitch dflt lo hi offs, len)) (h : x.toInt < lo ∨ hi < x.toInt) (ht : (pc : Int) + dflt = (tgt : Int)) (k : J X M d tgt L st σ w σ') : J X M d pc L (.int x :: st) σ w σ' := by
  intro p l e R s m args below meth c H locs cells slots Q ls D ad cy A cx cs hc hw hl k9
  exact lv_tableOut cx.1 cx.2.1 hd h ht (k p l e R s m args below meth c H locs cells slots Q ls D ad cy A cx cs hc hw hl k9)
end JR
