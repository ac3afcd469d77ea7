/-! J: Math.max, min, abs; words by their places in the tables' pieces -/
def mxI (x y : Int32) : Int32 := if x < y then y else x
def mnI (x y : Int32) : Int32 := if y < x then y else x
def abI (x : Int32) : Int32 := if 0 ≤ x then x else 0 - x
def OKmt (own : String) (idx : Nat) (y : MethodName) (b : ByteArray) (n : Nat) : Prop := Cond.methodLink own idx y ∈ gw ∧ Cond.static y ∈ gw ∧ Cond.initialized "java/lang/Math" ∈ gw ∧ Cond.code y b n (some .int) ∈ gw
section JMT
variable {X : Scr} {M : MD} {d pc idx : Nat} {L : List (Option Value)} {st : List Value} {σ σ' : Mem} {w : Option Value}
theorem J_mmax {x y : Int32} (hk : OKmt M.1.cls idx Lib.Math.max.name Lib.Math.max.code 2) (hr : (st.map Value.category).sum ≤ 8) (hd : decode M.2.1 pc = .ok (.invokestatic idx, 3)) (k : J X M (d + 1) (pc + 3) L (.int (mxI x y) :: st) σ w σ') : J X M (d + 1) pc L (.int y :: .int x :: st) σ w σ' := by
  intro p l e R s m args below meth c H locs cells slots Q ls D ad cy A cx cs hc hw hl k9
  have hts := cx.2.2.2.2.1
  have hf := cx.2.2.2.2.2.1
  have hlo := cx.2.2.2.2.2.2
  exact va_mmax cx.1 cx.2.1 (cx.2.2.1.trans hl.1.symm) cx.2.2.2.1 (hts _ hk.1) (hts _ hk.2.1) (hts _ hk.2.2.1) (hts _ hk.2.2.2) (by omega) (by have := cat_tv (ad := ad) hr; omega) hc.1 hc.2 hd (k p l e R s m args below meth c H locs cells slots Q ls D ad cy A cx cs hc hw hl k9)
theorem J_mmin {x y : Int32} (hk : OKmt M.1.cls idx Lib.Math.min.name Lib.Math.min.code 2) (hr : (st.map Value.category).sum ≤ 8) (hd : decode M.2.1 pc = .ok (.invokestatic idx, 3)) (k : J X M (d + 1) (pc + 3) L (.int (mnI x y) :: st) σ w σ') : J X M (d + 1) pc L (.int y :: .int x :: st) σ w σ' := by
  intro p l e R s m args below meth c H locs cells slots Q ls D ad cy A cx cs hc hw hl k9
  have hts := cx.2.2.2.2.1
  have hf := cx.2.2.2.2.2.1
  have hlo := cx.2.2.2.2.2.2
  exact va_mmin cx.1 cx.2.1 (cx.2.2.1.trans hl.1.symm) cx.2.2.2.1 (hts _ hk.1) (hts _ hk.2.1) (hts _ hk.2.2.1) (hts _ hk.2.2.2) (by omega) (by have := cat_tv (ad := ad) hr; omega) hc.1 hc.2 hd (k p l e R s m args below meth c H locs cells slots Q ls D ad cy A cx cs hc hw hl k9)
theorem J_mabs {x : Int32} (hk : OKmt M.1.cls idx Lib.Math.abs.name Lib.Math.abs.code 1) (hr : (st.map Value.category).sum ≤ 8) (hd : decode M.2.1 pc = .ok (.invokestatic idx, 3)) (k : J X M (d + 1) (pc + 3) L (.int (abI x) :: st) σ w σ') : J X M (d + 1) pc L (.int x :: st) σ w σ' := by
  intro p l e R s m args below meth c H locs cells slots Q ls D ad cy A cx cs hc hw hl k9
  have hts := cx.2.2.2.2.1
  have hf := cx.2.2.2.2.2.1
  have hlo := cx.2.2.2.2.2.2
  exact va_mabs cx.1 cx.2.1 (cx.2.2.1.trans hl.1.symm) cx.2.2.2.1 (hts _ hk.1) (hts _ hk.2.1) (hts _ hk.2.2.1) (hts _ hk.2.2.2) (by omega) (by have := cat_tv (ad := ad) hr; omega) hc.1 hc.2 hd (k p l e R s m args below meth c H locs cells slots Q ls D ad cy A cx cs hc hw hl k9)
end JMT
theorem gw_t {w : Cond} (h : w ∈ tables_1) (g : goodWord w = true) : w ∈ gw := List.mem_filter.mpr ⟨List.mem_append_right _ h, g⟩
theorem gw_0 {w : Cond} (i : Nat) (h : (k2_sels lw_privs)[i]? = some w) (g : goodWord w = true) : w ∈ gw := List.mem_filter.mpr ⟨List.mem_append_left _ (List.mem_of_getElem? h), g⟩
theorem gw_1 {w : Cond} (i : Nat) (h : tables_1_1[i]? = some w) (g : goodWord w = true) : w ∈ gw := gw_t (List.mem_append_left _ (List.mem_of_getElem? h)) g
theorem gw_2 {w : Cond} (i : Nat) (h : tables_1_2[i]? = some w) (g : goodWord w = true) : w ∈ gw := gw_t (List.mem_append_right _ (List.mem_append_left _ (List.mem_of_getElem? h))) g
theorem gw_3 {w : Cond} (i : Nat) (h : tables_1_3[i]? = some w) (g : goodWord w = true) : w ∈ gw := gw_t (List.mem_append_right _ (List.mem_append_right _ (List.mem_append_left _ (List.mem_of_getElem? h)))) g
theorem gw_4 {w : Cond} (i : Nat) (h : tables_1_4[i]? = some w) (g : goodWord w = true) : w ∈ gw := gw_t (List.mem_append_right _ (List.mem_append_right _ (List.mem_append_right _ (List.mem_append_left _ (List.mem_of_getElem? h))))) g
theorem gw_5 {w : Cond} (i : Nat) (h : tables_1_5[i]? = some w) (g : goodWord w = true) : w ∈ gw := gw_t (List.mem_append_right _ (List.mem_append_right _ (List.mem_append_right _ (List.mem_append_right _ (List.mem_append_left _ (List.mem_of_getElem? h)))))) g
theorem gw_6 {w : Cond} (i : Nat) (h : tables_1_6[i]? = some w) (g : goodWord w = true) : w ∈ gw := gw_t (List.mem_append_right _ (List.mem_append_right _ (List.mem_append_right _ (List.mem_append_right _ (List.mem_append_right _ (List.mem_append_left _ (List.mem_of_getElem? h))))))) g
theorem gw_7 {w : Cond} (i : Nat) (h : tables_1_7[i]? = some w) (g : goodWord w = true) : w ∈ gw := gw_t (List.mem_append_right _ (List.mem_append_right _ (List.mem_append_right _ (List.mem_append_right _ (List.mem_append_right _ (List.mem_append_right _ (List.mem_of_getElem? h))))))) g
