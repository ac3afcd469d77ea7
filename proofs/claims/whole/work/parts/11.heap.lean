/-! J: rules of arrays, fields, statics -/
theorem up2_o {σ : Mem} {k i : Nat} {x : Int32} : ∀ j, j ≠ k → (up2 σ k i x).1 j = σ.1 j ∧ (up2 σ k i x).2 j = σ.2 j := fun _ h => ⟨if_neg h, rfl⟩
theorem upL_o {σ : Mem} {k i : Nat} {x : Int64} : ∀ j, j ≠ k → (upL σ k i x).1 j = σ.1 j ∧ (upL σ k i x).2 j = σ.2 j := fun _ h => ⟨rfl, if_neg h⟩
theorem upR_o {σ : Mem} {k : Nat} {f : Nat → Int32} : ∀ j, j ≠ k → (upR σ k f).1 j = σ.1 j ∧ (upR σ k f).2 j = σ.2 j := fun _ h => ⟨if_neg h, rfl⟩
theorem upRL_o {σ : Mem} {k : Nat} {f : Nat → Int64} : ∀ j, j ≠ k → (upRL σ k f).1 j = σ.1 j ∧ (upRL σ k f).2 j = σ.2 j := fun _ h => ⟨rfl, if_neg h⟩
theorem up2_s {σ : Mem} {k i : Nat} {x : Int32} : (up2 σ k i x).1 k = upd (σ.1 k) i x := if_pos rfl
theorem upL_s {σ : Mem} {k i : Nat} {x : Int64} : (upL σ k i x).2 k = vp_updL (σ.2 k) i x := if_pos rfl
theorem upR_s {σ : Mem} {k : Nat} {f : Nat → Int32} : (upR σ k f).1 k = f := if_pos rfl
theorem upRL_s {σ : Mem} {k : Nat} {f : Nat → Int64} : (upRL σ k f).2 k = f := if_pos rfl
theorem we_i {ad : Nat → Nat} {cy : Nat → ClassId} {σ : Mem} {k t n : Nat} (h : t ≠ 3) : we ad cy σ k (.inl (t, n)) = .inl (cy t, n, .inl (σ.1 k)) := by simp only [we, if_neg h]
theorem we_l {ad : Nat → Nat} {cy : Nat → ClassId} {σ : Mem} {k n : Nat} : we ad cy σ k (.inl (3, n)) = .inl (cy 3, n, .inr (.inl (σ.2 k))) := rfl
theorem tys_i (cy : Nat → ClassId) : (tysOf cy)[0]? = some (cy 0, .int) := rfl
theorem Wd.go {D : va_G} {ad : Nat → Nat} {cy : Nat → ClassId} {A : Nat → Prop} {s : State} {σ σ' : Mem} {k : Nat} {sh : Sh} {e : va_E} (h : shape[k]? = some sh) (he : we ad cy σ' k sh = e) (ho : ∀ j, j ≠ k → σ'.1 j = σ.1 j ∧ σ'.2 j = σ.2 j) {H1 : Heap} {locs1 : List Loc}
    (hP : va_P D classes ((lay ad cy σ).set k (ad k, e)) H1) (hD : va_D A ((lay ad cy σ).set k (ad k, e))) (hS : va_S A s.heap H1 locs1) : Wd D ad cy A s σ' H1 locs1 := by
  rw [lay_set h he ho] at hP hD
  exact ⟨hP, hD, hS⟩
section JH
variable {X : Scr} {M : MD} {d pc : Nat} {L : List (Option Value)} {st : List Value} {σ σ' : Mem} {w : Option Value}
theorem J_iald {b n : Nat} {i : Int32} (hd : decode M.2.1 pc = .ok (.iaload, 1)) (hs : shape[b]? = some (.inl (0, n))) (hin : vp_in i n) (k : J X M d (pc + 1) L (.int (σ.1 b i.toNatClampNeg) :: st) σ w σ') : J X M d pc L (.int i :: .ref b :: st) σ w σ' := by
  intro p l e R s m args below meth c H locs cells slots Q ls D ad cy A cx cs hc hw hl k9
  exact va_iald cx.1 cx.2.1 cs.1 hw.1 b 0 (f := σ.1 b) (by rw [lay_get hs, we_i (by decide)]) rfl hin hd (k p l e R s m args below meth c H locs cells slots Q ls D ad cy A cx cs hc hw hl k9)
theorem J_bald {b n : Nat} {i : Int32} (hd : decode M.2.1 pc = .ok (.baload, 1)) (hs : shape[b]? = some (.inl (1, n))) (hin : vp_in i n) (k : J X M d (pc + 1) L (.int (σ.1 b i.toNatClampNeg) :: st) σ w σ') : J X M d pc L (.int i :: .ref b :: st) σ w σ' := by
  intro p l e R s m args below meth c H locs cells slots Q ls D ad cy A cx cs hc hw hl k9
  exact va_bald cx.1 cx.2.1 cs.1 hw.1 b 1 (f := σ.1 b) (by rw [lay_get hs, we_i (by decide)]) rfl hin hd (k p l e R s m args below meth c H locs cells slots Q ls D ad cy A cx cs hc hw hl k9)
theorem J_zald {b n : Nat} {i : Int32} (hd : decode M.2.1 pc = .ok (.baload, 1)) (hs : shape[b]? = some (.inl (2, n))) (hin : vp_in i n) (k : J X M d (pc + 1) L (.int (σ.1 b i.toNatClampNeg) :: st) σ w σ') : J X M d pc L (.int i :: .ref b :: st) σ w σ' := by
  intro p l e R s m args below meth c H locs cells slots Q ls D ad cy A cx cs hc hw hl k9
  exact va_zald cx.1 cx.2.1 cs.1 hw.1 b 2 (f := σ.1 b) (by rw [lay_get hs, we_i (by decide)]) rfl hin hd (k p l e R s m args below meth c H locs cells slots Q ls D ad cy A cx cs hc hw hl k9)
theorem J_lald {b n : Nat} {i : Int32} (hd : decode M.2.1 pc = .ok (.laload, 1)) (hs : shape[b]? = some (.inl (3, n))) (hin : vp_in i n) (k : J X M d (pc + 1) L (.long (σ.2 b i.toNatClampNeg) :: st) σ w σ') : J X M d pc L (.int i :: .ref b :: st) σ w σ' := by
  intro p l e R s m args below meth c H locs cells slots Q ls D ad cy A cx cs hc hw hl k9
  exact va_lald cx.1 cx.2.1 cs.1 hw.1 b 3 (f := σ.2 b) (by rw [lay_get hs, we_l]) rfl hin hd (k p l e R s m args below meth c H locs cells slots Q ls D ad cy A cx cs hc hw hl k9)
theorem J_iast {b n : Nat} {i x : Int32} (hd : decode M.2.1 pc = .ok (.iastore, 1)) (hs : shape[b]? = some (.inl (0, n))) (hin : vp_in i n) (k : J X M d (pc + 1) L st (up2 σ b i.toNatClampNeg (x)) w σ') : J X M d pc L (.int x :: .int i :: .ref b :: st) σ w σ' := by
  intro p l e R s m args below meth c H locs cells slots Q ls D ad cy A cx cs hc hw hl k9
  exact va_iast cx.1 cx.2.1 cs.1 hw.1 hw.2.1 hw.2.2 b 0 (f := σ.1 b) (by rw [lay_get hs, we_i (by decide)]) rfl hin hd (fun H1 locs1 hP hD hS => k p l e R s m args below meth c H1 locs1 cells slots Q ls D ad cy A cx cs hc (Wd.go hs (by rw [we_i (by decide), up2_s]) up2_o hP hD hS) hl k9)
theorem J_bast {b n : Nat} {i x : Int32} (hd : decode M.2.1 pc = .ok (.bastore, 1)) (hs : shape[b]? = some (.inl (1, n))) (hin : vp_in i n) (k : J X M d (pc + 1) L st (up2 σ b i.toNatClampNeg (vp_nar .byte x)) w σ') : J X M d pc L (.int x :: .int i :: .ref b :: st) σ w σ' := by
  intro p l e R s m args below meth c H locs cells slots Q ls D ad cy A cx cs hc hw hl k9
  exact va_bast cx.1 cx.2.1 cs.1 hw.1 hw.2.1 hw.2.2 b 1 (f := σ.1 b) (by rw [lay_get hs, we_i (by decide)]) rfl hin hd (fun H1 locs1 hP hD hS => k p l e R s m args below meth c H1 locs1 cells slots Q ls D ad cy A cx cs hc (Wd.go hs (by rw [we_i (by decide), up2_s]) up2_o hP hD hS) hl k9)
theorem J_zast {b n : Nat} {i x : Int32} (hd : decode M.2.1 pc = .ok (.bastore, 1)) (hs : shape[b]? = some (.inl (2, n))) (hin : vp_in i n) (k : J X M d (pc + 1) L st (up2 σ b i.toNatClampNeg (vp_nar .boolean x)) w σ') : J X M d pc L (.int x :: .int i :: .ref b :: st) σ w σ' := by
  intro p l e R s m args below meth c H locs cells slots Q ls D ad cy A cx cs hc hw hl k9
  exact va_zast cx.1 cx.2.1 cs.1 hw.1 hw.2.1 hw.2.2 b 2 (f := σ.1 b) (by rw [lay_get hs, we_i (by decide)]) rfl hin hd (fun H1 locs1 hP hD hS => k p l e R s m args below meth c H1 locs1 cells slots Q ls D ad cy A cx cs hc (Wd.go hs (by rw [we_i (by decide), up2_s]) up2_o hP hD hS) hl k9)
theorem J_last {b n : Nat} {i : Int32} {x : Int64} (hd : decode M.2.1 pc = .ok (.lastore, 1)) (hs : shape[b]? = some (.inl (3, n))) (hin : vp_in i n) (k : J X M d (pc + 1) L st (upL σ b i.toNatClampNeg x) w σ') : J X M d pc L (.long x :: .int i :: .ref b :: st) σ w σ' := by
  intro p l e R s m args below meth c H locs cells slots Q ls D ad cy A cx cs hc hw hl k9
  exact va_last cx.1 cx.2.1 cs.1 hw.1 hw.2.1 hw.2.2 b 3 (f := σ.2 b) (by rw [lay_get hs, we_l]) rfl hin hd (fun H1 locs1 hP hD hS => k p l e R s m args below meth c H1 locs1 cells slots Q ls D ad cy A cx cs hc (Wd.go hs (by rw [we_l, upL_s]) upL_o hP hD hS) hl k9)
theorem J_aald {b t n k0 : Nat} {i : Int32} (hd : decode M.2.1 pc = .ok (.aaload, 1)) (ht : t = 4 ∨ t = 5) (hs : shape[b]? = some (.inr (.inr (t, n, k0)))) (hin : vp_in i n) (k : J X M d (pc + 1) L (.ref (k0 + i.toNatClampNeg) :: st) σ w σ') : J X M d pc L (.int i :: .ref b :: st) σ w σ' := by
  intro p l e R s m args below meth c H locs cells slots Q ls D ad cy A cx cs hc hw hl k9
  have hlt : i.toNatClampNeg < n := Nat.not_le.mp fun q => hin (Or.inr q)
  obtain ⟨ty, hty, hr⟩ : ∃ ty, (tysOf cy)[t]? = some (cy t, ty) ∧ ty.isReference = true := by
    rcases ht with rfl | rfl
    · exact ⟨_, rfl, rfl⟩
    · exact ⟨_, rfl, rfl⟩
  have hg := hw.1 b _ (lay_get hs)
  have he9 : H[ad b]? = some (arrV (cy t) n (fun j => va_rf (if j < n then some (ad (k0 + j)) else none))) := hg
  exact W.aald (v := .ref (ad (k0 + i.toNatClampNeg))) (ty := ty) cx.1 cx.2.1 he9 ((cs.1.2 t _ hty).1 n _) hr (fun q => by cases q) (by rw [arrV_size]; exact hin) (by rw [arrV_read _ _ hlt, if_pos hlt]; rfl) rfl rfl hd (k p l e R s m args below meth c H locs cells slots Q ls D ad cy A cx cs hc hw hl k9)
theorem J_cald {b n : Nat} {f : Nat → Int32} {i : Int32} (hd : decode M.2.1 pc = .ok (.iaload, 1)) (hb : cA X b = some (n, f)) (hin : vp_in i n) (k : J X M d (pc + 1) L (.int (f i.toNatClampNeg) :: st) σ w σ') : J X M d pc L (.int i :: .ref b :: st) σ w σ' := by
  intro p l e R s m args below meth c H locs cells slots Q ls D ad cy A cx cs hc hw hl k9
  exact va_ti cx.1 cx.2.1 (cs.2.2.2.1 b n f hb) hw.2.2 hin rfl hd (k p l e R s m args below meth c H locs cells slots Q ls D ad cy A cx cs hc hw hl k9)
theorem J_clen {b n : Nat} {f : Nat → Int32} (hd : decode M.2.1 pc = .ok (.arraylength, 1)) (hb : cA X b = some (n, f)) (k : J X M d (pc + 1) L (.int (Int32.ofNat n) :: st) σ w σ') : J X M d pc L (.ref b :: st) σ w σ' := by
  intro p l e R s m args below meth c H locs cells slots Q ls D ad cy A cx cs hc hw hl k9
  exact va_tlen cx.1 cx.2.1 (cs.2.2.2.1 b n f hb) hw.2.2 rfl hd (k p l e R s m args below meth c H locs cells slots Q ls D ad cy A cx cs hc hw hl k9)
theorem J_sald {b : Nat} {bs : List Int32} {i : Int32} (hd : decode M.2.1 pc = .ok (.baload, 1)) (hb : strB[b]? = some bs) (hin : vp_in i bs.length) (k : J X M d (pc + 1) L (.int (bs.getD i.toNatClampNeg 0) :: st) σ w σ') : J X M d pc L (.int i :: .ref (1500 + b) :: st) σ w σ' := by
  intro p l e R s m args below meth c H locs cells slots Q ls D ad cy A cx cs hc hw hl k9
  exact va_tb cx.1 cx.2.1 (cs.2.1 b bs hb).2.2.2 hw.2.2 hin rfl hd (k p l e R s m args below meth c H locs cells slots Q ls D ad cy A cx cs hc hw hl k9)
theorem J_slen {b : Nat} {bs : List Int32} (hd : decode M.2.1 pc = .ok (.arraylength, 1)) (hb : strB[b]? = some bs) (k : J X M d (pc + 1) L (.int (Int32.ofNat bs.length) :: st) σ w σ') : J X M d pc L (.ref (1500 + b) :: st) σ w σ' := by
  intro p l e R s m args below meth c H locs cells slots Q ls D ad cy A cx cs hc hw hl k9
  exact va_tlen cx.1 cx.2.1 (cs.2.1 b bs hb).2.2.2 hw.2.2 rfl hd (k p l e R s m args below meth c H locs cells slots Q ls D ad cy A cx cs hc hw hl k9)
/-- a field's link: class ci, field k -/
def FL (own : String) (idx ci k : Nat) : Prop := ∃ (C : String) (T : u_T) (N : Nat), classes[ci]? = some (C, T, N) ∧ k < N ∧ (∀ z ∈ u_ws C T N, z ∈ gw) ∧ Cond.fieldLink own idx (T k).1 (T k).2.1 (T k).2.2.1 ∈ gw
def FN (own : String) (idx ci k : Nat) : Prop := ∃ (C : String) (T : u_T) (N : Nat) (host : String), classes[ci]? = some (C, T, N) ∧ k < N ∧ (∀ z ∈ u_ws C T N, z ∈ gw) ∧ Cond.fieldLinkNest own idx (T k).1 (T k).2.1 (T k).2.2.1 host ∈ nestL
def FP (own : String) (idx ci k : Nat) (ty : FieldType) : Prop := ∃ (C : String) (T : u_T) (N : Nat) (ty0 : Nat → FieldType), classes[ci]? = some (C, T, N) ∧ k < N ∧ (∀ z ∈ u_ws C T N, z ∈ gw) ∧ Cond.fieldLink own idx (T k).1 (T k).2.1 (T k).2.2.1 ∈ gw ∧ (∀ j, j < N → parseFieldDescriptor (T j).2.2.1 = some (ty0 j)) ∧ (∀ a, a < N → ∀ b, b < N → a ≠ b → (T a).2.1 ≠ (T b).2.1) ∧ (T k).2.2.2 = false ∧ ty0 k = ty
theorem fks_get {ad : Nat → Nat} {a j : Nat} {fks : List (Nat × Nat)} {q : Nat × Nat} (h : fks[j]? = some q) : (fks.mapIdx (fun j q => fv ad σ a j q))[j]? = some (fv ad σ a j q) := by
  rw [List.getElem?_mapIdx, h]; rfl
theorem fks_set {ad : Nat → Nat} {a j : Nat} {fks : List (Nat × Nat)} {q : Nat × Nat} {v : Value} (h : fks[j]? = some q) (hv : fv ad σ' a j q = v) (ho : ∀ i, i ≠ j → σ'.1 a i = σ.1 a i ∧ σ'.2 a i = σ.2 a i) : fks.mapIdx (fun j q => fv ad σ' a j q) = (fks.mapIdx (fun j q => fv ad σ a j q)).set j v := by
  apply List.ext_getElem?
  intro i
  by_cases e : i = j
  · subst e
    have hl : i < (fks.mapIdx (fun j q => fv ad σ a j q)).length := by rw [List.length_mapIdx]; exact (List.getElem?_eq_some_iff.mp h).1
    rw [List.getElem?_set_self hl, List.getElem?_mapIdx, h]
    simp only [Option.map_some, hv]
  · rw [List.getElem?_set_ne (Ne.symm e), List.getElem?_mapIdx, List.getElem?_mapIdx]
    cases fks[i]? with
    | none => rfl
    | some q' => simp only [Option.map_some, fv, (ho i e).1, (ho i e).2]
theorem J_getI {a idx ci k : Nat} {fks : List (Nat × Nat)} (hf : FL M.1.cls idx ci k) (hs : shape[a]? = some (.inr (.inl (ci, fks)))) (hk : fks[k]? = some (0, 0)) (hd : decode M.2.1 pc = .ok (.getfield idx, 3)) (kk : J X M d (pc + 3) L (.int (σ.1 a k) :: st) σ w σ') : J X M d pc L (.ref a :: st) σ w σ' := by
  intro p l e R s m args below meth c H locs cells slots Q ls D ad cy A cx cs hc hw hl k9
  obtain ⟨C, T, N, h1, h2, h3, h4⟩ := hf
  exact va_get cx.1 cx.2.1 cx.2.2.2.2.1 h3 cx.2.2.2.1 cs.1 hw.1 a (lay_get hs) h1 k h2 (cx.2.2.2.2.1 _ h4) (fun _ q => q) (fks_get hk) hd (kk p l e R s m args below meth c H locs cells slots Q ls D ad cy A cx cs hc hw hl k9)
theorem J_getJ {a idx ci k : Nat} {fks : List (Nat × Nat)} (hf : FL M.1.cls idx ci k) (hs : shape[a]? = some (.inr (.inl (ci, fks)))) (hk : fks[k]? = some (1, 0)) (hd : decode M.2.1 pc = .ok (.getfield idx, 3)) (kk : J X M d (pc + 3) L (.long (σ.2 a k) :: st) σ w σ') : J X M d pc L (.ref a :: st) σ w σ' := by
  intro p l e R s m args below meth c H locs cells slots Q ls D ad cy A cx cs hc hw hl k9
  obtain ⟨C, T, N, h1, h2, h3, h4⟩ := hf
  exact va_get cx.1 cx.2.1 cx.2.2.2.2.1 h3 cx.2.2.2.1 cs.1 hw.1 a (lay_get hs) h1 k h2 (cx.2.2.2.2.1 _ h4) (fun _ q => q) (fks_get hk) hd (kk p l e R s m args below meth c H locs cells slots Q ls D ad cy A cx cs hc hw hl k9)
theorem J_getR {a idx ci k : Nat} {b : Nat} {fks : List (Nat × Nat)} (hf : FL M.1.cls idx ci k) (hs : shape[a]? = some (.inr (.inl (ci, fks)))) (hk : fks[k]? = some (2, b)) (hd : decode M.2.1 pc = .ok (.getfield idx, 3)) (kk : J X M d (pc + 3) L (.ref b :: st) σ w σ') : J X M d pc L (.ref a :: st) σ w σ' := by
  intro p l e R s m args below meth c H locs cells slots Q ls D ad cy A cx cs hc hw hl k9
  obtain ⟨C, T, N, h1, h2, h3, h4⟩ := hf
  exact va_get cx.1 cx.2.1 cx.2.2.2.2.1 h3 cx.2.2.2.1 cs.1 hw.1 a (lay_get hs) h1 k h2 (cx.2.2.2.2.1 _ h4) (fun _ q => q) (fks_get hk) hd (kk p l e R s m args below meth c H locs cells slots Q ls D ad cy A cx cs hc hw hl k9)
theorem J_getN {a idx ci k : Nat} {fks : List (Nat × Nat)} (hf : FN M.1.cls idx ci k) (hs : shape[a]? = some (.inr (.inl (ci, fks)))) (hk : fks[k]? = some (0, 0)) (hd : decode M.2.1 pc = .ok (.getfield idx, 3)) (kk : J X M d (pc + 3) L (.int (σ.1 a k) :: st) σ w σ') : J X M d pc L (.ref a :: st) σ w σ' := by
  intro p l e R s m args below meth c H locs cells slots Q ls D ad cy A cx cs hc hw hl k9
  obtain ⟨C, T, N, host, h1, h2, h3, h4⟩ := hf
  exact va_getN (host := host) cx.1 cx.2.1 cx.2.2.2.2.1 h3 cx.2.2.2.1 cs.1 hw.1 a (lay_get hs) h1 k h2 (va_Nw.use rfl (cs.2.2.2.2.2 _ h4)) (fun _ q => q) (fks_get hk) hd (kk p l e R s m args below meth c H locs cells slots Q ls D ad cy A cx cs hc hw hl k9)
theorem J_putI {a idx ci k : Nat} {x : Int32} {fty : FieldType} {fks : List (Nat × Nat)} (hf : FP M.1.cls idx ci k fty) (hs : shape[a]? = some (.inr (.inl (ci, fks)))) (hk : fks[k]? = some (0, 0)) (hn : narrow fty (.int x) = .int x) (hfit : fits fty (.int x) = true) (hd : decode M.2.1 pc = .ok (.putfield idx, 3)) (kk : J X M d (pc + 3) L st (up2 σ a k x) w σ') : J X M d pc L (.int x :: .ref a :: st) σ w σ' := by
  intro p l e R s m args below meth c H locs cells slots Q ls D ad cy A cx cs hc hw hl k9
  obtain ⟨C, T, N, ty0, h1, h2, h3, h4, h5, h6, h7, h8⟩ := hf
  have hkl : k < (fks.mapIdx (fun j q => fv ad σ a j q)).length := by rw [List.length_mapIdx]; exact (List.getElem?_eq_some_iff.mp hk).1
  refine va_put cx.1 cx.2.1 cx.2.2.2.2.1 h3 ty0 h5 h6 cx.2.2.2.1 cs.1 hw.1 hw.2.1 hw.2.2 a (lay_get hs) h1 k h2 (cx.2.2.2.2.1 _ h4) (fun _ q => q) h7 (ty := fty) (by rw [← h8]; exact h5 k h2) hn hfit hkl hd (fun H1 locs1 hP hD hS => kk p l e R s m args below meth c H1 locs1 cells slots Q ls D ad cy A cx cs hc (Wd.go hs ?_ up2_o hP hD hS) hl k9)
  refine congrArg (fun l => (Sum.inr (ci, l) : va_E)) (fks_set (σ := σ) (v := .int x) hk ?_ ?_)
  · show Value.int _ = _
    rw [up2_s]
    exact congrArg Value.int (if_pos rfl)
  · intro i hi
    rw [(up2_s : (up2 σ a k x).1 a = _)]
    exact ⟨if_neg hi, rfl⟩
theorem J_putJ {a idx ci k : Nat} {x : Int64} {fty : FieldType} {fks : List (Nat × Nat)} (hf : FP M.1.cls idx ci k fty) (hs : shape[a]? = some (.inr (.inl (ci, fks)))) (hk : fks[k]? = some (1, 0)) (hn : narrow fty (.long x) = .long x) (hfit : fits fty (.long x) = true) (hd : decode M.2.1 pc = .ok (.putfield idx, 3)) (kk : J X M d (pc + 3) L st (upL σ a k x) w σ') : J X M d pc L (.long x :: .ref a :: st) σ w σ' := by
  intro p l e R s m args below meth c H locs cells slots Q ls D ad cy A cx cs hc hw hl k9
  obtain ⟨C, T, N, ty0, h1, h2, h3, h4, h5, h6, h7, h8⟩ := hf
  have hkl : k < (fks.mapIdx (fun j q => fv ad σ a j q)).length := by rw [List.length_mapIdx]; exact (List.getElem?_eq_some_iff.mp hk).1
  refine va_put cx.1 cx.2.1 cx.2.2.2.2.1 h3 ty0 h5 h6 cx.2.2.2.1 cs.1 hw.1 hw.2.1 hw.2.2 a (lay_get hs) h1 k h2 (cx.2.2.2.2.1 _ h4) (fun _ q => q) h7 (ty := fty) (by rw [← h8]; exact h5 k h2) hn hfit hkl hd (fun H1 locs1 hP hD hS => kk p l e R s m args below meth c H1 locs1 cells slots Q ls D ad cy A cx cs hc (Wd.go hs ?_ upL_o hP hD hS) hl k9)
  refine congrArg (fun l => (Sum.inr (ci, l) : va_E)) (fks_set (σ := σ) (v := .long x) hk ?_ ?_)
  · show Value.long _ = _
    rw [upL_s]
    exact congrArg Value.long (if_pos rfl)
  · intro i hi
    rw [(upL_s : (upL σ a k x).2 a = _)]
    exact ⟨rfl, if_neg hi⟩
theorem J_gets {idx : Nat} {q : String × String × String × Value} (hq : q ∈ statL) (hf : Cond.fieldLink M.1.cls idx q.1 q.2.1 q.2.2.1 ∈ gw) (hd : decode M.2.1 pc = .ok (.getstatic idx, 3)) (kk : J X M d (pc + 3) L (q.2.2.2 :: st) σ w σ') : J X M d pc L st σ w σ' := by
  intro p l e R s m args below meth c H locs cells slots Q ls D ad cy A cx cs hc hw hl k9
  exact va_gets cx.1 cx.2.1 (cs.2.2.2.2.1 q hq) hw.2.2 cx.2.2.2.1 (cx.2.2.2.2.1 _ hf) (fun _ z => z) hd (kk p l e R s m args below meth c H locs cells slots Q ls D ad cy A cx cs hc hw hl k9)
theorem J_getSv {idx b : Nat} {bs : List Int32} (hb : strB[b]? = some bs) (hf : Cond.fieldLink M.1.cls idx "java/lang/String" "value" "[B" ∈ gw) (hd : decode M.2.1 pc = .ok (.getfield idx, 3)) (kk : J X M d (pc + 3) L (.ref (1500 + b) :: st) σ w σ') : J X M d pc L (.ref (1000 + b) :: st) σ w σ' := by
  intro p l e R s m args below meth c H locs cells slots Q ls D ad cy A cx cs hc hw hl k9
  exact vk_getf cx.1 cx.2.1 (cs.2.1 b bs hb).2.2.1 hw.2.2 cx.2.2.2.1 (cx.2.2.2.2.1 _ hf) (fun _ z => z) hd (kk p l e R s m args below meth c H locs cells slots Q ls D ad cy A cx cs hc hw hl k9)
theorem J_getSc {idx b : Nat} {bs : List Int32} (hb : strB[b]? = some bs) (hf : Cond.fieldLink M.1.cls idx "java/lang/String" "coder" "B" ∈ gw) (hd : decode M.2.1 pc = .ok (.getfield idx, 3)) (kk : J X M d (pc + 3) L (.int 0 :: st) σ w σ') : J X M d pc L (.ref (1000 + b) :: st) σ w σ' := by
  intro p l e R s m args below meth c H locs cells slots Q ls D ad cy A cx cs hc hw hl k9
  exact vk_getf cx.1 cx.2.1 (cs.2.1 b bs hb).2.1 hw.2.2 cx.2.2.2.1 (cx.2.2.2.2.1 _ hf) (fun _ z => z) hd (kk p l e R s m args below meth c H locs cells slots Q ls D ad cy A cx cs hc hw hl k9)
end JH
