/-! what a mirror is made of: names and loops -/
def lt {α β : Type} (e : α) (f : α → Option β) : Option β := f e
def lp {α β : Type} (body : α → Option (β ⊕ α)) : Nat → α → Option β
  | 0, _ => none
  | k + 1, a => (body a).bind (Sum.elim some (lp body k))
theorem J_lp {α β : Type} {body : α → Option (β ⊕ α)} (K : α → Prop) (E : β → Prop) (hb : ∀ a r, body a = some r → Sum.elim E K r → K a) : ∀ {k : Nat} {a : α} {b : β}, lp body k a = some b → E b → K a
  | 0, _, _, h, _ => by cases h
  | k + 1, a, b, h, he => by
    obtain ⟨r, h1, h2⟩ := bd_some h
    refine hb a r h1 ?_
    cases r with
    | inl b' => cases h2; exact he
    | inr a' => exact J_lp K E hb h2 he
section JL
variable {X : Scr} {M : MD} {d pc : Nat} {L : List (Option Value)} {st : List Value} {σ σ' : Mem} {w : Option Value} {β : Type} {r : β}
theorem J_istoreL_n {k0 : Fin 4} {x : Int32} {f : Int32 → Option β} (L' : Int32 → List (Option Value)) (hd : decode M.2.1 pc = .ok (.istore_n k0, 1)) (hp : okp L (k0 : Nat) = true) (hn : (k0 : Nat) < M.2.2.1) (hL : ∀ y, L.set (k0 : Nat) (some (.int y)) = L' y) (hh : lt x f = some r) (k : ∀ y, f y = some r → J X M d (pc + 1) (L' y) st σ w σ') : J X M d pc L (.int x :: st) σ w σ' := J_istore_n hd hp hn (hL x) (k x hh)
theorem J_istoreL {i : Nat} {x : Int32} {f : Int32 → Option β} (L' : Int32 → List (Option Value)) (hd : decode M.2.1 pc = .ok (.istore i, 2)) (hp : okp L i = true) (hn : i < M.2.2.1) (hL : ∀ y, L.set i (some (.int y)) = L' y) (hh : lt x f = some r) (k : ∀ y, f y = some r → J X M d (pc + 2) (L' y) st σ w σ') : J X M d pc L (.int x :: st) σ w σ' := J_istore hd hp hn (hL x) (k x hh)
theorem J_lstoreL_n {k0 : Fin 4} {x : Int64} {f : Int64 → Option β} (L' : Int64 → List (Option Value)) (hd : decode M.2.1 pc = .ok (.lstore_n k0, 1)) (hp : okp L (k0 : Nat) = true) (hn : (k0 : Nat) + 1 < M.2.2.1) (hL : ∀ y, (L.set (k0 : Nat) (some (.long y))).set ((k0 : Nat) + 1) none = L' y) (hh : lt x f = some r) (k : ∀ y, f y = some r → J X M d (pc + 1) (L' y) st σ w σ') : J X M d pc L (.long x :: st) σ w σ' := J_lstore_n hd hp hn (hL x) (k x hh)
theorem J_lstoreL {i : Nat} {x : Int64} {f : Int64 → Option β} (L' : Int64 → List (Option Value)) (hd : decode M.2.1 pc = .ok (.lstore i, 2)) (hp : okp L i = true) (hn : i + 1 < M.2.2.1) (hL : ∀ y, (L.set i (some (.long y))).set (i + 1) none = L' y) (hh : lt x f = some r) (k : ∀ y, f y = some r → J X M d (pc + 2) (L' y) st σ w σ') : J X M d pc L (.long x :: st) σ w σ' := J_lstore hd hp hn (hL x) (k x hh)
theorem J_iincL {i : Nat} {n : Int} {x v : Int32} {f : Int32 → Option β} (L' : Int32 → List (Option Value)) (hd : decode M.2.1 pc = .ok (.iinc i n, 3)) (hx : L[i]? = some (some (.int x))) (hp : okp L i = true) (hn : i < M.2.2.1) (hv : x + Int32.ofInt n = v) (hL : ∀ y, L.set i (some (.int y)) = L' y) (hh : lt v f = some r) (k : ∀ y, f y = some r → J X M d (pc + 3) (L' y) st σ w σ') : J X M d pc L st σ w σ' := J_iinc hd hx hp hn hv (hL v) (k v hh)
theorem J_iastL {b n : Nat} {i x : Int32} {f : Mem → Option β} (hd : decode M.2.1 pc = .ok (.iastore, 1)) (hs : shape[b]? = some (.inl (0, n))) (hin : vp_in i n) (hh : lt (up2 σ b i.toNatClampNeg x) f = some r) (k : ∀ s1, f s1 = some r → J X M d (pc + 1) L st s1 w σ') : J X M d pc L (.int x :: .int i :: .ref b :: st) σ w σ' := J_iast hd hs hin (k _ hh)
theorem J_bastL {b n : Nat} {i x : Int32} {f : Mem → Option β} (hd : decode M.2.1 pc = .ok (.bastore, 1)) (hs : shape[b]? = some (.inl (1, n))) (hin : vp_in i n) (hh : lt (up2 σ b i.toNatClampNeg (vp_nar .byte x)) f = some r) (k : ∀ s1, f s1 = some r → J X M d (pc + 1) L st s1 w σ') : J X M d pc L (.int x :: .int i :: .ref b :: st) σ w σ' := J_bast hd hs hin (k _ hh)
theorem J_zastL {b n : Nat} {i x : Int32} {f : Mem → Option β} (hd : decode M.2.1 pc = .ok (.bastore, 1)) (hs : shape[b]? = some (.inl (2, n))) (hin : vp_in i n) (hh : lt (up2 σ b i.toNatClampNeg (vp_nar .boolean x)) f = some r) (k : ∀ s1, f s1 = some r → J X M d (pc + 1) L st s1 w σ') : J X M d pc L (.int x :: .int i :: .ref b :: st) σ w σ' := J_zast hd hs hin (k _ hh)
theorem J_lastL {b n : Nat} {i : Int32} {x : Int64} {f : Mem → Option β} (hd : decode M.2.1 pc = .ok (.lastore, 1)) (hs : shape[b]? = some (.inl (3, n))) (hin : vp_in i n) (hh : lt (upL σ b i.toNatClampNeg x) f = some r) (k : ∀ s1, f s1 = some r → J X M d (pc + 1) L st s1 w σ') : J X M d pc L (.long x :: .int i :: .ref b :: st) σ w σ' := J_last hd hs hin (k _ hh)
theorem J_putIL {a idx ci k : Nat} {x : Int32} {fty : FieldType} {fks : List (Nat × Nat)} {f : Mem → Option β} (hf : FP M.1.cls idx ci k fty) (hs : shape[a]? = some (.inr (.inl (ci, fks)))) (hk : fks[k]? = some (0, 0)) (hn : narrow fty (.int x) = .int x) (hfit : fits fty (.int x) = true) (hd : decode M.2.1 pc = .ok (.putfield idx, 3)) (hh : lt (up2 σ a k x) f = some r) (kk : ∀ s1, f s1 = some r → J X M d (pc + 3) L st s1 w σ') : J X M d pc L (.int x :: .ref a :: st) σ w σ' := J_putI hf hs hk hn hfit hd (kk _ hh)
theorem J_putJL {a idx ci k : Nat} {x : Int64} {fty : FieldType} {fks : List (Nat × Nat)} {f : Mem → Option β} (hf : FP M.1.cls idx ci k fty) (hs : shape[a]? = some (.inr (.inl (ci, fks)))) (hk : fks[k]? = some (1, 0)) (hn : narrow fty (.long x) = .long x) (hfit : fits fty (.long x) = true) (hd : decode M.2.1 pc = .ok (.putfield idx, 3)) (hh : lt (upL σ a k x) f = some r) (kk : ∀ s1, f s1 = some r → J X M d (pc + 3) L st s1 w σ') : J X M d pc L (.long x :: .ref a :: st) σ w σ' := J_putJ hf hs hk hn hfit hd (kk _ hh)
theorem J_copyIL {b0 b1 n0 n1 idx : Nat} {sp dp n : Int32} {f : Mem → Option β} (hk : OKcp M.1.cls idx) (hs0 : shape[b0]? = some (.inl (0, n0))) (hs1 : shape[b1]? = some (.inl (0, n1))) (hr : (st.map Value.category).sum ≤ 8) (hg : ¬ sp < 0 ∧ ¬ dp < 0 ∧ ¬ n < 0 ∧ sp.toNatClampNeg + n.toNatClampNeg ≤ n0 ∧ dp.toNatClampNeg + n.toNatClampNeg ≤ n1) (hd : decode M.2.1 pc = .ok (.invokestatic idx, 3))
    (hh : lt (upR σ b1 (va_cpy (σ.1 b0) (σ.1 b1) sp.toNatClampNeg dp.toNatClampNeg n.toNatClampNeg)) f = some r) (k : ∀ s1, f s1 = some r → J X M (d + 1) (pc + 3) L st s1 w σ') : J X M (d + 1) pc L (.int n :: .int dp :: .ref b1 :: .int sp :: .ref b0 :: st) σ w σ' := J_copyI hk hs0 hs1 hr hg.1 hg.2.1 hg.2.2.1 hg.2.2.2.1 hg.2.2.2.2 hd (k _ hh)
theorem J_copyLL {b0 b1 n0 n1 idx : Nat} {sp dp n : Int32} {f : Mem → Option β} (hk : OKcp M.1.cls idx) (hs0 : shape[b0]? = some (.inl (3, n0))) (hs1 : shape[b1]? = some (.inl (3, n1))) (hr : (st.map Value.category).sum ≤ 8) (hg : ¬ sp < 0 ∧ ¬ dp < 0 ∧ ¬ n < 0 ∧ sp.toNatClampNeg + n.toNatClampNeg ≤ n0 ∧ dp.toNatClampNeg + n.toNatClampNeg ≤ n1) (hd : decode M.2.1 pc = .ok (.invokestatic idx, 3))
    (hh : lt (upRL σ b1 (va_cpy (σ.2 b0) (σ.2 b1) sp.toNatClampNeg dp.toNatClampNeg n.toNatClampNeg)) f = some r) (k : ∀ s1, f s1 = some r → J X M (d + 1) (pc + 3) L st s1 w σ') : J X M (d + 1) pc L (.int n :: .int dp :: .ref b1 :: .int sp :: .ref b0 :: st) σ w σ' := J_copyL hk hs0 hs1 hr hg.1 hg.2.1 hg.2.2.1 hg.2.2.2.1 hg.2.2.2.2 hd (k _ hh)
end JL
theorem sh_cells {i : Int32} (h : vp_in i 4) : shape[33 + i.toNatClampNeg]? = some (.inl (3, 40)) := by
  have h1 : i.toNatClampNeg < 4 := Nat.not_le.mp fun q => h (Or.inr q)
  have key : ∀ k, k < 4 → shape[33 + k]? = some (.inl (3, 40)) := fun k hk => by
    obtain rfl | rfl | rfl | rfl : k = 0 ∨ k = 1 ∨ k = 2 ∨ k = 3 := by omega
    all_goals rfl
  exact key _ h1
theorem sh_kept {i : Int32} (h : vp_in i 30) : shape[37 + i.toNatClampNeg]? = some (.inl (0, 139)) := by
  have h1 : i.toNatClampNeg < 30 := Nat.not_le.mp fun q => h (Or.inr q)
  have key : ∀ k, k < 30 → shape[37 + k]? = some (.inl (0, 139)) := fun k hk => by
    unfold shape
    rw [List.getElem?_append_right (Nat.le_add_right 37 k)]
    show (List.replicate 30 _)[37 + k - 37]? = _
    rw [Nat.add_sub_cancel_left, List.getElem?_replicate, if_pos hk]
  exact key _ h1
theorem sw_out {x : Int32} {lo hi : Int} (h : ∀ k : Int, lo ≤ k → k ≤ hi → ¬ x.toInt = k) : x.toInt < lo ∨ hi < x.toInt := by
  by_cases h1 : x.toInt < lo
  · exact Or.inl h1
  · by_cases h2 : hi < x.toInt
    · exact Or.inr h2
    · exact absurd rfl (h x.toInt (by omega) (by omega))
