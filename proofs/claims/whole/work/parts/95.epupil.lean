/-! text: a fault stands; a pupil's item -/
def fz (s : Mem) : Prop := (0 : Int32) ≤ s.1 19 22
theorem fz_isWord {s : Mem} (h : fz s) {k : Nat} (hk : k < 14) : fX7_isWord s (14 + k) = some (bi false) := by
  unfold fX7_isWord
  rw [if_pos (show (0 : Int32) ≤ s.1 19 22 from h)]; exact M_w0 hk
theorem fz_goesOn {s : Mem} (h : fz s) : fX7_goesOn s = some s := by
  unfold fX7_goesOn
  rw [if_neg (fun z => absurd z (Int32.not_lt.mpr h))]
theorem fz_takes {s : Mem} (h : fz s) {k : Nat} (hk : k < 14) : fX7_takes s (14 + k) = some (0, s) := by
  unfold fX7_takes
  rw [fz_isWord h hk]; rfl
theorem fz_must {s : Mem} (h : fz s) (x : Int32) : fX7_must s x = some s := by
  unfold fX7_must
  rw [if_pos (show (0 : Int32) ≤ s.1 19 22 from h)]
theorem fz_numberHere {s : Mem} (h : fz s) (m : Int32) : fX7_numberHere s m = some (-1) := by
  unfold fX7_numberHere
  rw [lt_e, if_pos (show (0 : Int32) ≤ s.1 19 22 from h)]
theorem fz_courseHere {s : Mem} (h : fz s) : fX7_courseHere s = some (-1) := by
  unfold fX7_courseHere
  rw [if_pos (show (0 : Int32) ≤ s.1 19 22 from h)]
theorem fz_number {s : Mem} (h : fz s) (m : Int32) : fX7_number s m = some (-1, s) := by
  unfold fX7_number gX7_number_16
  rw [fz_numberHere h, Option.bind_some, if_pos (by decide), fz_must h, Option.bind_some, fz_goesOn h, Option.bind_some]
theorem fz_hours {s : Mem} (h : fz s) : fX7_hours s = some (0, s) := by
  obtain ⟨f, hf⟩ := f600
  have hb : bX7_hours_20 s (0 : Int32) = some (.inl ((0 : Int32), s)) := by
    unfold bX7_hours_20
    rw [fz_numberHere h, Option.bind_some, if_pos (by decide)]
  unfold fX7_hours gX7_hours_17
  rw [fz_numberHere h, Option.bind_some, if_pos (by decide), fz_must h, Option.bind_some, hf, lp_l (α := Int32 × Mem) (β := Int32 × Mem) (body := fun a => bX7_hours_20 a.2 a.1) (a := ((0 : Int32), s)) hb]
  rfl
theorem fz_up {s : Mem} {G : Nat → Int32} {p : Nat} (hp : p < 1000) : fz (upR s 19 (upd G 22 (nI p))) := by
  unfold fz
  rw [upR_s, upd_s]
  exact Int32.not_lt.mp (nI_pos (by omega))
def wop (L : Nat) (b : Nat → Nat) (k : Nat) (nm : Nat → Nat → Option Nat) (st en : Nat) : Nat ⊕ (Nat × Nat × Nat) := if isW b k st en = true then (if (nm (nxS L b en) (nxE L b en)).isSome = true then .inr (rdS L b nm (nxS L b en) (nxE L b en)) else .inl (nxS L b en)) else .inr (0, st, en)
def pP2 (a : Nat) : Nat ⊕ (Nat × Nat × Nat) → Nat ⊕ (Nat × Nat × Nat × Nat)
  | .inl p => .inl p
  | .inr (w, t, u) => .inr (a, w, t, u)
def pP1 (L : Nat) (b : Nat → Nat) : Nat ⊕ (Nat × Nat × Nat) → Nat ⊕ (Nat × Nat × Nat × Nat)
  | .inl p => .inl p
  | .inr (a, t, u) => pP2 a (wop L b 7 (one3 b) t u)
def pPup (L : Nat) (b : Nat → Nat) (en : Nat) : Nat ⊕ (Nat × Nat × Nat × Nat) := pP1 L b (wop L b 6 (hou b) (nxS L b en) (nxE L b en))
theorem pP2_l {a p : Nat} : ∀ {x : Nat ⊕ (Nat × Nat × Nat)}, pP2 a x = .inl p → x = .inl p
  | .inl q, h => by rw [show q = p from Sum.inl.inj h]
  | .inr (w, t, u), h => by cases h
theorem pP2_r {a a' w t u : Nat} : ∀ {x : Nat ⊕ (Nat × Nat × Nat)}, pP2 a x = .inr (a', w, t, u) → a' = a ∧ x = .inr (w, t, u)
  | .inl q, h => by cases h
  | .inr (w', t', u'), h => by
    have h : Sum.inr (a, w', t', u') = (Sum.inr (a', w, t, u) : Nat ⊕ (Nat × Nat × Nat × Nat)) := h
    cases h; exact ⟨rfl, rfl⟩
theorem wop_ok {L : Nat} {b : Nat → Nat} {k : Nat} {nm : Nat → Nat → Option Nat} {B : Nat} (hv : ∀ st en v, nm st en = some v → v < B ∧ st < en) {st en : Nat} (hs : st ≤ en) (he : en ≤ L) : (∀ p, wop L b k nm st en = .inl p → p ≤ L) ∧ (∀ a t u, wop L b k nm st en = .inr (a, t, u) → t ≤ u ∧ u ≤ L ∧ a < 2 ^ B ∧ en ≤ u) := by
  have w1 := nxS_sp L b en he
  have w2 := nxE_sp L b en he
  unfold wop
  split
  · split
    · refine ⟨fun p h => (by cases h), fun a t u h => ?_⟩
      have q := sq_inv (L := L) (b := b) hv (st := nxS L b en) (en := nxE L b en) (by omega) (by omega) 121
      have h := Sum.inr.inj h
      unfold rdS at h
      rw [h] at q
      exact ⟨q.1, q.2.1, q.2.2.1, by have : nxE L b en ≤ u := q.2.2.2; omega⟩
    · refine ⟨fun p h => ?_, fun a t u h => by cases h⟩
      have h := Sum.inl.inj h
      omega
  · refine ⟨fun p h => (by cases h), fun a t u h => ?_⟩
    have h := Sum.inr.inj h
    cases h
    exact ⟨hs, he, Nat.pow_pos (by omega), Nat.le_refl _⟩
theorem pPup_ok {L : Nat} {b : Nat → Nat} {en : Nat} (he : en ≤ L) : (∀ p, pPup L b en = .inl p → p ≤ L) ∧ (∀ a w t u, pPup L b en = .inr (a, w, t, u) → t ≤ u ∧ u ≤ L ∧ a < 2 ^ 20 ∧ w < 2 ^ 4 ∧ en ≤ u) := by
  have w1 := nxS_sp L b en he
  have w2 := nxE_sp L b en he
  have q1 := wop_ok (L := L) (b := b) (k := 6) (hou_v b) (st := nxS L b en) (en := nxE L b en) (by omega) (by omega)
  unfold pPup
  cases e : wop L b 6 (hou b) (nxS L b en) (nxE L b en) with
  | inl p => exact ⟨fun p' h => (by rw [← (Sum.inl.inj h : p = p')]; exact q1.1 p e), fun a w t u h => (by cases h)⟩
  | inr x =>
    obtain ⟨a, t, u⟩ := x
    have z1 := q1.2 a t u e
    have q2 := wop_ok (L := L) (b := b) (k := 7) (one3_v b) (st := t) (en := u) z1.1 z1.2.1
    refine ⟨fun p h => q2.1 p (pP2_l h), fun a' w t' u' h => ?_⟩
    obtain ⟨rfl, h5⟩ := pP2_r h
    have z2 := q2.2 w t' u' h5
    exact ⟨z2.1, z2.2.1, z1.2.2.1, z2.2.2.1, by omega⟩
theorem rdS_none {L : Nat} {b : Nat → Nat} {nm : Nat → Nat → Option Nat} {st en : Nat} (h : ¬ (nm st en).isSome = true) : rdS L b nm st en = (0, st, en) := by
  have e3 : nm st en = none := by
    cases q : nm st en
    · rfl
    · rw [q] at h; exact absurd rfl h
  have hc : ∀ i, sqS L b nm (0, st, en) i = (0, st, en) := by
    intro i
    induction i with
    | zero => rfl
    | succ i ih => rw [sqS_s, ih, stS_none (show nm (0, st, en).2.1 (0, st, en).2.2 = none from e3)]
  unfold rdS; rw [hc]
/-- the class reads a word and a set, or none -/
theorem C_readPupil {L : Nat} {b : Nat → Nat} (hB : Bt L b) {s : Mem} (hT : TC L b s) (F : Nat → Int32) {en : Nat} (h1 : F 1 = nI L) (h3 : F 3 = nI en) (he : en ≤ L) : (∀ p, pPup L b en = .inl p → ∃ F', fX5_readPupil (upR s 12 F) = some (0, upR s 12 F') ∧ F' 1 = nI L ∧ F' 2 = nI p) ∧ (∀ a w t u, pPup L b en = .inr (a, w, t, u) → ∃ F', fX5_readPupil (upR s 12 F) = some (1, upR s 12 F') ∧ F' 1 = nI L ∧ F' 2 = nI t ∧ F' 3 = nI u ∧ F' 6 = F 6 ∧ F' 11 = nI a ∧ F' 7 = nI w) := by
  have w1 := nxS_sp L b en he
  have w2 := nxE_sp L b en he
  generalize hF2 : upd (upd (upd (upd F 11 (0 : Int32)) 7 (0 : Int32)) 2 (nI (nxS L b en))) 3 (nI (nxE L b en)) = F2
  have g1 : F2 1 = nI L := by rw [← hF2]; exact h1
  have g2 : F2 2 = nI (nxS L b en) := by rw [← hF2]; rfl
  have g3 : F2 3 = nI (nxE L b en) := by rw [← hF2]; rfl
  have g6 : F2 6 = F 6 := by rw [← hF2]; rfl
  have g7 : F2 7 = nI 0 := by rw [← hF2]; rfl
  have g11 : F2 11 = nI 0 := by rw [← hF2]; rfl
  have second : ∀ (F3 : Nat → Int32) (t u : Nat), F3 1 = nI L → F3 2 = nI t → F3 3 = nI u → F3 7 = nI 0 → t ≤ u → u ≤ L → (∀ p, wop L b 7 (one3 b) t u = .inl p → ∃ F', gX5_readPupil_45 (upR s 12 F3) = some (0, upR s 12 F') ∧ F' 1 = nI L ∧ F' 2 = nI p) ∧ (∀ w t' u', wop L b 7 (one3 b) t u = .inr (w, t', u') → ∃ F', gX5_readPupil_45 (upR s 12 F3) = some (1, upR s 12 F') ∧ F' 1 = nI L ∧ F' 2 = nI t' ∧ F' 3 = nI u' ∧ F' 6 = F3 6 ∧ F' 11 = F3 11 ∧ F' 7 = nI w) := by
    intro F3 t u k1 k2 k3 k7 k8 k9
    unfold gX5_readPupil_45 wop
    rw [C_says hB (TC_R hT F3) (k := 7) (by omega) (by rw [upR_s]; exact k2) (by rw [upR_s]; exact k3) k8 k9, Option.bind_some, bi_n0]
    have v1 := nxS_sp L b u k9
    have v2 := nxE_sp L b u k9
    by_cases e : isW b 7 t u = true
    · rw [if_pos e, if_pos e, C_next hB hT F3 k1 k3 k9, Option.bind_some, C_setL hB hT (upd (upd F3 2 (nI (nxS L b u))) 3 (nI (nxE L b u))) k1 (st := nxS L b u) (en := nxE L b u) rfl rfl (by omega) (by omega), Option.bind_some]
      by_cases e2 : (one3 b (nxS L b u) (nxE L b u)).isSome = true
      · rw [e2, if_neg (show ¬ bi true = (0 : Int32) from by decide), if_pos rfl, lt_e, up2_upRk, upR_s]
        refine ⟨fun p h => (by cases h), fun w t' u' h => ?_⟩
        have h := Sum.inr.inj h
        rw [h]
        exact ⟨_, rfl, k1, rfl, rfl, rfl, rfl, rfl⟩
      · rw [rdS_none e2, if_neg e2, Bool.eq_false_iff.mpr e2, if_pos (show bi false = (0 : Int32) from rfl)]
        refine ⟨fun p h => ?_, fun w t' u' h => (by cases h)⟩
        rw [← (Sum.inl.inj h : nxS L b u = p)]
        exact ⟨_, rfl, k1, rfl⟩
    · rw [if_neg e, if_neg e]
      refine ⟨fun p h => (by cases h), fun w t' u' h => ?_⟩
      have h := Sum.inr.inj h
      cases h
      exact ⟨F3, rfl, k1, k2, k3, rfl, rfl, k7⟩
  unfold fX5_readPupil
  rw [lt_e, up2_upRk, lt_e, up2_upRk, C_next hB hT (upd (upd F 11 (0 : Int32)) 7 (0 : Int32)) (e := en) h1 h3 he, hF2, Option.bind_some, C_says hB (TC_R hT F2) (k := 6) (by omega) (by rw [upR_s]; exact g2) (by rw [upR_s]; exact g3) (by omega) (by omega), Option.bind_some, bi_n0]
  unfold pPup
  by_cases e : isW b 6 (nxS L b en) (nxE L b en) = true
  · have v1 := nxS_sp L b (nxE L b en) w2.2.1
    have v2 := nxE_sp L b (nxE L b en) w2.2.1
    rw [if_pos e, C_next hB hT F2 g1 g3 w2.2.1, Option.bind_some, C_setH hB hT (upd (upd F2 2 (nI (nxS L b (nxE L b en)))) 3 (nI (nxE L b (nxE L b en)))) g1 (st := nxS L b (nxE L b en)) (en := nxE L b (nxE L b en)) rfl rfl (by omega) (by omega), Option.bind_some]
    by_cases e2 : (hou b (nxS L b (nxE L b en)) (nxE L b (nxE L b en))).isSome = true
    · have hw : wop L b 6 (hou b) (nxS L b en) (nxE L b en) = .inr (rdS L b (hou b) (nxS L b (nxE L b en)) (nxE L b (nxE L b en))) := by unfold wop; rw [if_pos e, if_pos e2]
      have q1 := (wop_ok (L := L) (b := b) (k := 6) (hou_v b) (st := nxS L b en) (en := nxE L b en) (by omega) (by omega)).2
      rw [hw] at *
      rw [e2, if_neg (show ¬ bi true = (0 : Int32) from by decide), lt_e, up2_upRk, upR_s]
      generalize rdS L b (hou b) (nxS L b (nxE L b en)) (nxE L b (nxE L b en)) = x at *
      obtain ⟨a, t, u⟩ := x
      have z := q1 a t u rfl
      have sc := second (upd (FF (upd (upd F2 2 (nI (nxS L b (nxE L b en)))) 3 (nI (nxE L b (nxE L b en)))) (a, t, u)) 11 (nI a)) t u g1 rfl rfl g7 z.1 z.2.1
      refine ⟨fun p h => sc.1 p (pP2_l h), fun a' w t' u' h => ?_⟩
      obtain ⟨rfl, h5⟩ := pP2_r h
      obtain ⟨F', c1, c2, c3, c4, c5, c6, c7⟩ := sc.2 w t' u' h5
      exact ⟨F', c1, c2, c3, c4, by rw [c5]; exact g6, by rw [c6]; rfl, c7⟩
    · have hw : wop L b 6 (hou b) (nxS L b en) (nxE L b en) = .inl (nxS L b (nxE L b en)) := by unfold wop; rw [if_pos e, if_neg e2]
      rw [hw, rdS_none e2, Bool.eq_false_iff.mpr e2, if_pos (show bi false = (0 : Int32) from rfl)]
      refine ⟨fun p h => ?_, fun a w t' u' h => (by cases h)⟩
      rw [← (Sum.inl.inj h : nxS L b (nxE L b en) = p)]
      exact ⟨_, rfl, g1, rfl⟩
  · have hw : wop L b 6 (hou b) (nxS L b en) (nxE L b en) = .inr (0, nxS L b en, nxE L b en) := by unfold wop; rw [if_neg e]
    rw [if_neg e, hw]
    have sc := second F2 (nxS L b en) (nxE L b en) g1 g2 g3 g7 (by omega) (by omega)
    refine ⟨fun p h => sc.1 p (pP2_l h), fun a' w t' u' h => ?_⟩
    obtain ⟨rfl, h5⟩ := pP2_r h
    obtain ⟨F', c1, c2, c3, c4, c5, c6, c7⟩ := sc.2 w t' u' h5
    exact ⟨F', c1, c2, c3, c4, by rw [c5]; exact g6, by rw [c6]; exact g11, c7⟩
