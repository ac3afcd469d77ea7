/-! J: System.arraycopy; what a mirror is made of -/
theorem nat_words : 8 + (nativeFrameWords "java/lang/System" "arraycopy" 5 + 11) ≤ 70 := by decide +kernel
def OKcp (own : String) (idx : Nat) : Prop := Cond.methodLink own idx arraycopyName ∈ gw ∧ Cond.native arraycopyName ∈ gw ∧ Cond.static arraycopyName ∈ gw ∧ Cond.initialized "java/lang/System" ∈ gw
section JN
variable {X : Scr} {M : MD} {d pc : Nat} {L : List (Option Value)} {st : List Value} {σ σ' σ1 : Mem} {w v : Option Value}
theorem J_copyI {b0 b1 n0 n1 idx : Nat} {sp dp n : Int32} (hk : OKcp M.1.cls idx) (hs0 : shape[b0]? = some (.inl (0, n0))) (hs1 : shape[b1]? = some (.inl (0, n1))) (hr : (st.map Value.category).sum ≤ 8) (h1 : ¬ sp < 0) (h2 : ¬ dp < 0) (h3 : ¬ n < 0) (h4 : sp.toNatClampNeg + n.toNatClampNeg ≤ n0) (h5 : dp.toNatClampNeg + n.toNatClampNeg ≤ n1) (hd : decode M.2.1 pc = .ok (.invokestatic idx, 3))
    (k : J X M (d + 1) (pc + 3) L st (upR σ b1 (va_cpy (σ.1 b0) (σ.1 b1) sp.toNatClampNeg dp.toNatClampNeg n.toNatClampNeg)) w σ') : J X M (d + 1) pc L (.int n :: .int dp :: .ref b1 :: .int sp :: .ref b0 :: st) σ w σ' := by
  intro p l e R s m args below meth c H locs cells slots Q ls D ad cy A cx cs hc hw hl k9
  have hts := cx.2.2.2.2.1
  have hf := cx.2.2.2.2.2.1
  have hlo := cx.2.2.2.2.2.2
  have hn9 := nat_words
  exact va_copyi cx.1 cx.2.1 (cx.2.2.1.trans hl.1.symm) cx.2.2.2.1 (hts _ hk.1) (hts _ hk.2.1) (hts _ hk.2.2.1) (hts _ hk.2.2.2) cs.1 hw.1 hw.2.1 hw.2.2 b0 b1 0 0 (f := σ.1 b0) (g := σ.1 b1) (by rw [lay_get hs0, we_i (by decide)]) (by rw [lay_get hs1, we_i (by decide)]) rfl rfl rfl h1 h2 h3 h4 h5 (fun _ _ => rfl) (by omega) (by have := cat_tv (ad := ad) hr; omega) hd (fun H1 locs1 hP hD hS => k p l e R s m args below meth c H1 locs1 cells slots Q ls D ad cy A cx cs hc (Wd.go hs1 (by rw [we_i (by decide), upR_s]) upR_o hP hD hS) hl k9)
theorem J_copyL {b0 b1 n0 n1 idx : Nat} {sp dp n : Int32} (hk : OKcp M.1.cls idx) (hs0 : shape[b0]? = some (.inl (3, n0))) (hs1 : shape[b1]? = some (.inl (3, n1))) (hr : (st.map Value.category).sum ≤ 8) (h1 : ¬ sp < 0) (h2 : ¬ dp < 0) (h3 : ¬ n < 0) (h4 : sp.toNatClampNeg + n.toNatClampNeg ≤ n0) (h5 : dp.toNatClampNeg + n.toNatClampNeg ≤ n1) (hd : decode M.2.1 pc = .ok (.invokestatic idx, 3))
    (k : J X M (d + 1) (pc + 3) L st (upRL σ b1 (va_cpy (σ.2 b0) (σ.2 b1) sp.toNatClampNeg dp.toNatClampNeg n.toNatClampNeg)) w σ') : J X M (d + 1) pc L (.int n :: .int dp :: .ref b1 :: .int sp :: .ref b0 :: st) σ w σ' := by
  intro p l e R s m args below meth c H locs cells slots Q ls D ad cy A cx cs hc hw hl k9
  have hts := cx.2.2.2.2.1
  have hf := cx.2.2.2.2.2.1
  have hlo := cx.2.2.2.2.2.2
  have hn9 := nat_words
  exact va_copyl cx.1 cx.2.1 (cx.2.2.1.trans hl.1.symm) cx.2.2.2.1 (hts _ hk.1) (hts _ hk.2.1) (hts _ hk.2.2.1) (hts _ hk.2.2.2) cs.1 hw.1 hw.2.1 hw.2.2 b0 b1 3 3 (f := σ.2 b0) (g := σ.2 b1) (by rw [lay_get hs0, we_l]) (by rw [lay_get hs1, we_l]) rfl rfl rfl h1 h2 h3 h4 h5 (fun _ _ => rfl) (by omega) (by have := cat_tv (ad := ad) hr; omega) hd (fun H1 locs1 hP hD hS => k p l e R s m args below meth c H1 locs1 cells slots Q ls D ad cy A cx cs hc (Wd.go hs1 (by rw [we_l, upRL_s]) upRL_o hP hD hS) hl k9)
end JN
/-- an index within, or nothing -/
def gd {α : Type} (i : Int32) (n : Nat) (x : Option α) : Option α := if i < 0 ∨ n ≤ i.toNatClampNeg then none else x
/-- 0 or 1, or nothing -/
def gz {α : Type} (i : Int32) (x : Option α) : Option α := if i = 0 ∨ i = 1 then x else none
def gn {α : Type} (i : Int32) (x : Option α) : Option α := if i = 0 then none else x
def gcp {α : Type} (sp dp n : Int32) (n0 n1 : Nat) (x : Option α) : Option α := if sp < 0 ∨ dp < 0 ∨ n < 0 ∨ n0 < sp.toNatClampNeg + n.toNatClampNeg ∨ n1 < dp.toNatClampNeg + n.toNatClampNeg then none else x
theorem gd_some {α : Type} {i : Int32} {n : Nat} {x : Option α} {r : α} (h : gd i n x = some r) : vp_in i n ∧ x = some r := by
  unfold gd at h
  by_cases c : i < 0 ∨ n ≤ i.toNatClampNeg
  · rw [if_pos c] at h; cases h
  · rw [if_neg c] at h; exact ⟨c, h⟩
theorem gz_some {α : Type} {i : Int32} {x : Option α} {r : α} (h : gz i x = some r) : (i = 0 ∨ i = 1) ∧ x = some r := by
  unfold gz at h
  by_cases c : i = 0 ∨ i = 1
  · rw [if_pos c] at h; exact ⟨c, h⟩
  · rw [if_neg c] at h; cases h
theorem gn_some {α : Type} {i : Int32} {x : Option α} {r : α} (h : gn i x = some r) : (¬ i = 0) ∧ x = some r := by
  unfold gn at h
  by_cases c : i = 0
  · rw [if_pos c] at h; cases h
  · rw [if_neg c] at h; exact ⟨c, h⟩
theorem gcp_some {α : Type} {sp dp n : Int32} {n0 n1 : Nat} {x : Option α} {r : α} (h : gcp sp dp n n0 n1 x = some r) : (¬ sp < 0 ∧ ¬ dp < 0 ∧ ¬ n < 0 ∧ sp.toNatClampNeg + n.toNatClampNeg ≤ n0 ∧ dp.toNatClampNeg + n.toNatClampNeg ≤ n1) ∧ x = some r := by
  unfold gcp at h
  by_cases c : sp < 0 ∨ dp < 0 ∨ n < 0 ∨ n0 < sp.toNatClampNeg + n.toNatClampNeg ∨ n1 < dp.toNatClampNeg + n.toNatClampNeg
  · rw [if_pos c] at h; cases h
  · rw [if_neg c] at h
    simp only [not_or] at c
    exact ⟨⟨c.1, c.2.1, c.2.2.1, by omega, by omega⟩, h⟩
theorem bd_some {α β : Type} {x : Option α} {f : α → Option β} {r : β} (h : x.bind f = some r) : ∃ y, x = some y ∧ f y = some r := by
  cases x with
  | none => cases h
  | some y => exact ⟨y, rfl, h⟩
theorem nz_bool {x : Int32} (h : x = 0 ∨ x = 1) : narrow .boolean (.int x) = .int x := by rcases h with rfl | rfl <;> rfl
