/-! text: sets of hours and of courses -/
def stS (L : Nat) (b : Nat → Nat) (nm : Nat → Nat → Option Nat) (x : Nat × Nat × Nat) : Nat × Nat × Nat := match nm x.2.1 x.2.2 with
  | none => x
  | some v => (x.1 ||| 2 ^ v, nxS L b x.2.2, nxE L b x.2.2)
def sqS (L : Nat) (b : Nat → Nat) (nm : Nat → Nat → Option Nat) (x : Nat × Nat × Nat) : Nat → Nat × Nat × Nat := itr (fun _ y => stS L b nm y) x
theorem sqS_s (L : Nat) (b : Nat → Nat) (nm : Nat → Nat → Option Nat) (x : Nat × Nat × Nat) (i : Nat) : sqS L b nm x (i + 1) = stS L b nm (sqS L b nm x i) := rfl
theorem stS_some {L : Nat} {b : Nat → Nat} {nm : Nat → Nat → Option Nat} {x : Nat × Nat × Nat} {v : Nat} (h : nm x.2.1 x.2.2 = some v) : stS L b nm x = (x.1 ||| 2 ^ v, nxS L b x.2.2, nxE L b x.2.2) := by
  unfold stS; rw [h]
theorem stS_none {L : Nat} {b : Nat → Nat} {nm : Nat → Nat → Option Nat} {x : Nat × Nat × Nat} (h : nm x.2.1 x.2.2 = none) : stS L b nm x = x := by
  unfold stS; rw [h]
def rdS (L : Nat) (b : Nat → Nat) (nm : Nat → Nat → Option Nat) (st en : Nat) : Nat × Nat × Nat := sqS L b nm (0, st, en) 121
theorem sq_end {L : Nat} {b : Nat → Nat} (hB : Bt L b) {nm : Nat → Nat → Option Nat} {B : Nat} (hv : ∀ st en v, nm st en = some v → v < B ∧ st < en) {st en : Nat} (hs : st ≤ en) (he : en ≤ L) : ∃ n, n ≤ 120 ∧ (∀ i, i < n → ∃ v, nm (sqS L b nm (0, st, en) i).2.1 (sqS L b nm (0, st, en) i).2.2 = some v) ∧ nm (sqS L b nm (0, st, en) n).2.1 (sqS L b nm (0, st, en) n).2.2 = none ∧ rdS L b nm st en = sqS L b nm (0, st, en) n := by
  have hL := hB.1
  generalize hx : sqS L b nm (0, st, en) = S
  have hs1 : ∀ i, S (i + 1) = stS L b nm (S i) := fun i => by rw [← hx]; exact sqS_s L b nm _ i
  have h0 : S 0 = (0, st, en) := by rw [← hx]; rfl
  have cl : ∀ k, (∃ n, n < k ∧ (∀ i, i < n → ∃ v, nm (S i).2.1 (S i).2.2 = some v) ∧ nm (S n).2.1 (S n).2.2 = none) ∨ ((∀ i, i < k → ∃ v, nm (S i).2.1 (S i).2.2 = some v) ∧ (S k).2.1 ≤ (S k).2.2 ∧ (S k).2.2 ≤ L ∧ k ≤ (S k).2.2 ∧ ((S k).2.1 < (S k).2.2 → k < (S k).2.2)) := by
    intro k
    induction k with
    | zero => rw [h0]; exact Or.inr ⟨fun i hi => by omega, hs, he, Nat.zero_le _, fun h => by show 0 < en; have : st < en := h; omega⟩
    | succ k ih =>
      rcases ih with ⟨n, q1, q2, q3⟩ | ⟨q1, q2, q3, q4, q5⟩
      · exact Or.inl ⟨n, by omega, q2, q3⟩
      · cases e : nm (S k).2.1 (S k).2.2 with
        | none => exact Or.inl ⟨k, by omega, q1, e⟩
        | some v =>
          right
          rw [hs1, stS_some e]
          have hv1 := (hv _ _ _ e).2
          have := q5 hv1
          have w1 := nxS_sp L b (S k).2.2 q3
          have w2 := nxE_sp L b (S k).2.2 q3
          refine ⟨fun i hi => ?_, w2.1, w2.2.1, ?_, fun h => ?_⟩
          · by_cases e1 : i = k
            · rw [e1]; exact ⟨v, e⟩
            · exact q1 i (by omega)
          · show k + 1 ≤ nxE L b (S k).2.2; omega
          · show k + 1 < nxE L b (S k).2.2
            have h : nxS L b (S k).2.2 < nxE L b (S k).2.2 := h
            omega
  rcases cl 121 with ⟨n, q1, q2, q3⟩ | ⟨q1, q2, q3, q4, q5⟩
  · refine ⟨n, by omega, q2, q3, ?_⟩
    have hc : ∀ j, S (n + j) = S n := by
      intro j
      induction j with
      | zero => rfl
      | succ j ih => rw [← Nat.add_assoc, hs1, ih, stS_none q3]
    have : S 121 = S n := by rw [show 121 = n + (121 - n) from by omega]; exact hc _
    unfold rdS; rw [hx]; exact this
  · omega
theorem sq_inv {L : Nat} {b : Nat → Nat} {nm : Nat → Nat → Option Nat} {B : Nat} (hv : ∀ st en v, nm st en = some v → v < B ∧ st < en) {st en : Nat} (hs : st ≤ en) (he : en ≤ L) : ∀ i, (sqS L b nm (0, st, en) i).2.1 ≤ (sqS L b nm (0, st, en) i).2.2 ∧ (sqS L b nm (0, st, en) i).2.2 ≤ L ∧ (sqS L b nm (0, st, en) i).1 < 2 ^ B ∧ en ≤ (sqS L b nm (0, st, en) i).2.2
  | 0 => ⟨hs, he, Nat.pow_pos (by omega), Nat.le_refl en⟩
  | i + 1 => by
    have ih := sq_inv (L := L) (b := b) hv hs he i
    rw [sqS_s]
    cases e : nm (sqS L b nm (0, st, en) i).2.1 (sqS L b nm (0, st, en) i).2.2 with
    | none => rw [stS_none e]; exact ih
    | some v =>
      rw [stS_some e]
      have w1 := nxS_sp L b (sqS L b nm (0, st, en) i).2.2 ih.2.1
      have w2 := nxE_sp L b (sqS L b nm (0, st, en) i).2.2 ih.2.1
      refine ⟨w2.1, w2.2.1, Nat.or_lt_two_pow ih.2.2.1 (Nat.pow_lt_pow_right (by omega) (hv _ _ _ e).1), ?_⟩
      show en ≤ nxE L b (sqS L b nm (0, st, en) i).2.2
      omega
theorem sq_pos {L : Nat} {b : Nat → Nat} {nm : Nat → Nat → Option Nat} {st en v : Nat} (h : nm st en = some v) : ∀ i, 0 < (sqS L b nm (0, st, en) (i + 1)).1
  | 0 => by
    rw [sqS_s, stS_some (show nm (sqS L b nm (0, st, en) 0).2.1 (sqS L b nm (0, st, en) 0).2.2 = some v from h)]
    show 0 < 0 ||| 2 ^ v
    rw [Nat.zero_or]; exact Nat.pow_pos (by omega)
  | i + 1 => by
    have ih := sq_pos (L := L) (b := b) h i
    rw [sqS_s]
    cases e : nm (sqS L b nm (0, st, en) (i + 1)).2.1 (sqS L b nm (0, st, en) (i + 1)).2.2 with
    | none => rw [stS_none e]; exact ih
    | some w =>
      rw [stS_some e]
      exact Nat.lt_of_lt_of_le ih Nat.left_le_or
theorem sh_bit : ∀ v, v < 20 → (1 : Int32) <<< (nI v &&& 31) = nI (2 ^ v) := by decide +kernel
theorem hou_v (b : Nat → Nat) (st en v : Nat) (h : hou b st en = some v) : v < 20 ∧ st < en := by
  unfold hou one at h
  split at h
  · have := Option.some.inj h; omega
  · split at h
    · have := Option.some.inj h; omega
    · cases h
theorem one_v {b : Nat → Nat} {ba mx : Nat} (st en v : Nat) (h : one b st en ba mx = some v) : v < mx + 1 ∧ st < en := by
  unfold one at h
  split at h
  · have := Option.some.inj h; omega
  · cases h
/-- the class's row with a set being read -/
def FF (F : Nat → Int32) (x : Nat × Nat × Nat) : Nat → Int32 := upd (upd (upd F 5 (nI x.1)) 2 (nI x.2.1)) 3 (nI x.2.2)
theorem FF_j (F : Nat → Int32) (x : Nat × Nat × Nat) {j : Nat} (h : j ≠ 2) (h2 : j ≠ 3) (h3 : j ≠ 5) : FF F x j = F j := by
  unfold FF; rw [upd_n h2, upd_n h, upd_n h3]
theorem FF_0 (F : Nat → Int32) {a st en : Nat} (h2 : F 2 = nI st) (h3 : F 3 = nI en) : upd F 5 (nI a) = FF F (a, st, en) := by
  funext j
  unfold FF upd
  by_cases e3 : j = 3
  · subst e3; show F 3 = nI en; exact h3
  · by_cases e2 : j = 2
    · subst e2; show F 2 = nI st; exact h2
    · simp only [if_neg e3, if_neg e2]
theorem FF_5 (F : Nat → Int32) (x : Nat × Nat × Nat) (a : Nat) : upd (FF F x) 5 (nI a) = FF F (a, x.2) := by
  funext j
  unfold FF upd
  by_cases e5 : j = 5
  · subst e5; rfl
  · simp only [if_neg e5]
theorem FF_23 (F : Nat → Int32) (a st en t u : Nat) : upd (upd (FF F (a, st, en)) 2 (nI t)) 3 (nI u) = FF F (a, t, u) := by
  funext j
  unfold FF upd
  by_cases e3 : j = 3
  · subst e3; rfl
  · by_cases e2 : j = 2
    · subst e2; rfl
    · simp only [if_neg e3, if_neg e2]
theorem oI_neg : ∀ o : Option Nat, (∀ v, o = some v → v < 2 ^ 30) → (oI o < (0 : Int32) ↔ o = none)
  | none, _ => ⟨fun _ => rfl, fun _ => (by decide : (-1 : Int32) < 0)⟩
  | some v, h => ⟨fun z => absurd z (nI_pos (by have := h v rfl; omega)), fun z => by cases z⟩
