/-! text: an item moves on -/
theorem wop_adv {L : Nat} {b : Nat → Nat} {k : Nat} (hk : k < 14) {nm : Nat → Nat → Option Nat} {B : Nat} (hv : ∀ st en v, nm st en = some v → v < B ∧ st < en) {st en a t u : Nat} (hs : st ≤ en) (he : en ≤ L) (h : wop L b k nm st en = .inr (a, t, u)) : (t = st ∧ u = en) ∨ (st < en ∧ en ≤ u) := by
  have ok := (wop_ok (L := L) (b := b) (k := k) hv hs he).2 a t u h
  unfold wop at h
  by_cases e : isW b k st en = true
  · have h1 := (of_decide_eq_true e).1
    have h2 := (wv_le k hk).1
    exact Or.inr ⟨by omega, ok.2.2.2⟩
  · rw [if_neg e] at h
    have h := Sum.inr.inj h
    cases h
    exact Or.inl ⟨rfl, rfl⟩
theorem pPup_adv {L : Nat} {b : Nat → Nat} {en a w t u : Nat} (he : en ≤ L) (h : pPup L b en = .inr (a, w, t, u)) (ht : t < u) : en < u := by
  have w1 := nxS_sp L b en he
  have w2 := nxE_sp L b en he
  unfold pPup at h
  cases e : wop L b 6 (hou b) (nxS L b en) (nxE L b en) with
  | inl p => rw [e] at h; cases h
  | inr x =>
    obtain ⟨a1, t1, u1⟩ := x
    rw [e] at h
    have h7 := (pP2_r h).2
    have k1 := wop_adv (by omega) (hou_v b) w2.1 w2.2.1 e
    have o1 := (wop_ok (L := L) (b := b) (k := 6) (hou_v b) w2.1 w2.2.1).2 a1 t1 u1 e
    have k2 := wop_adv (by omega) (one3_v b) o1.1 o1.2.1 h7
    have o2 := (wop_ok (L := L) (b := b) (k := 7) (one3_v b) o1.1 o1.2.1).2 w t u h7
    omega
