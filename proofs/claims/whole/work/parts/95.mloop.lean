/-! text: all items -/
def TOut (L : Nat) (sC sM : Mem) (G : Nat → Int32) (r r' : Int32 × Mem) : Prop := ∃ (f' g' F' G' : Nat → Int32), r.2 = upR (upR sC 2 f') 12 F' ∧ r'.2 = upR (upR sM 20 g') 19 G' ∧ F' 1 = nI L ∧ (∀ j, j ≠ 20 → j ≠ 21 → j ≠ 22 → G' j = G j) ∧ ((∃ v n', v ≤ 120 ∧ r.1 = nI v ∧ r'.1 = nI v ∧ G' 22 = -1 ∧ G' 20 = nI L ∧ SG f' g' ∧ PG f' g' n') ∨ (∃ p, p ≤ L ∧ r.1 = (-1 : Int32) - nI p ∧ (G' 22 = nI p ∨ (G' 22 = -1 ∧ G' 20 = nI p ∧ p ≠ L))))
theorem text_loop {L : Nat} {b : Nat → Nat} (hB : Bt L b) {sC sM : Mem} (hTC : TC L b sC) (hTM : TM L b sM) : ∀ (d : Nat) (f g F G : Nat → Int32) (n st en v kC kM : Nat), L - en ≤ d → d < kC → d < kM → SG f g → PG f g n → v ≤ 120 → v ≤ en + 1 → (1 < v → v ≤ en) → F 1 = nI L → F 2 = nI st → F 3 = nI en → G 19 = nI L → G 20 = nI st → G 21 = nI en → G 22 = -1 → st ≤ en → en ≤ L → ∃ r r', lp (α := Int32 × Mem) (β := (Int32 × Mem) ⊕ Mem) (fun a => bX6_readAll_9 a.2 a.1) kC (nI v, upR (upR sC 2 f) 12 F) = some (.inl r) ∧ (fX7_item (upR (upR sM 20 g) 19 G)).bind (fun y => lp (α := Int32 × Mem) (β := Int32 × Mem) (fun a => bX7_text_24 a.2 a.1) kM (nI v, y)) = some r' ∧ TOut L sC sM G r r' := by
  intro d
  induction d using Nat.strongRecOn with
  | ind d ih =>
  intro f g F G n st en v kC kM hd hkC hkM hS hP hv hv1 hv2 f1 f2 f3 g1 g2 g3 g4 hs he
  have hL := hB.1
  obtain ⟨kC, rfl⟩ : ∃ k, kC = k + 1 := ⟨kC - 1, by omega⟩
  obtain ⟨kM, rfl⟩ : ∃ k, kM = k + 1 := ⟨kM - 1, by omega⟩
  rcases text_item hB hTC hTM hS hP hv f1 f2 f3 g1 g2 g3 g4 hs he with ⟨p, f', F', hp, c1, c2, g', G', m1, m2, m3⟩ | ⟨f', g', F', n', t, u, c1, m1, hS', hP', k1, k2, k3, htu, hu, hadv, hne⟩
  · have hf : fz (upR (upR sM 20 g') 19 G') := by
      unfold fz; rw [upR_s, m2]; exact Int32.not_lt.mp (nI_pos (by omega))
    refine ⟨_, (nI v, upR (upR sM 20 g') 19 G'), lp_l (α := Int32 × Mem) (β := (Int32 × Mem) ⊕ Mem) (body := fun a => bX6_readAll_9 a.2 a.1) (a := (nI v, upR (upR sC 2 f) 12 F)) c1, ?_, ⟨f', g', F', G', rfl, rfl, c2, m3, Or.inr ⟨p, hp, rfl, Or.inl m2⟩⟩⟩
    rw [m1, Option.bind_some, lp_l (α := Int32 × Mem) (β := Int32 × Mem) (body := fun a => bX7_text_24 a.2 a.1) (a := (nI v, upR (upR sM 20 g') 19 G')) (fz_24 hf (nI v))]
  · have hTC' : TC L b (upR sC 2 f') := fun i hi => by rw [upR_n (by omega)]; exact hTC i hi
    have hTM' : TM L b (upR sM 20 g') := fun i hi => by rw [upR_n (by omega)]; exact hTM i hi
    have cc := C_156 hB hTC' F' (v := v) k1 k2 k3 htu hu
    have mm := M_24 hB hTM' (GG G t u) (GG_19 G _ _ g1) (GG_22 G _ _ g4) (t := t) (u := u) (v := v) rfl rfl htu hu
    rw [← c1] at cc
    have gj : ∀ j, j ≠ 20 → j ≠ 21 → j ≠ 22 → GG G t u j = G j := fun j j1 j2 _ => GG_j _ _ _ j1 j2
    by_cases e : isW b 13 t u = true
    · have tu := isW_lt (by omega) e
      have := hadv tu
      have w1 := nxS_sp L b u hu
      have w2 := nxE_sp L b u hu
      rw [if_neg (by omega), if_pos e] at cc
      rw [if_pos e, GG_G] at mm
      obtain ⟨r, r', i1, i2, f'', g'', F'', G'', i3, i4, i5, i6, i7⟩ := ih (d - 1) (by omega) f' g' (upd (upd F' 2 (nI (nxS L b u))) 3 (nI (nxE L b u))) (GG G (nxS L b u) (nxE L b u)) n' (nxS L b u) (nxE L b u) (v + 1) kC kM (by omega) (by omega) (by omega) hS' hP' (by omega) (by omega) (by omega) k1 rfl rfl (GG_19 G _ _ g1) rfl rfl (GG_22 G _ _ g4) w2.1 w2.2.1
      refine ⟨r, r', by rw [lp_r (α := Int32 × Mem) (β := (Int32 × Mem) ⊕ Mem) (body := fun a => bX6_readAll_9 a.2 a.1) (a := (nI v, upR (upR sC 2 f) 12 F)) cc]; exact i1, ?_, f'', g'', F'', G'', i3, i4, i5, fun j j1 j2 j3 => by rw [i6 j j1 j2 j3, GG_j _ _ _ j1 j2], i7⟩
      rw [m1, Option.bind_some]
      cases q : fX7_item (upR (upR sM 20 g') 19 (GG G (nxS L b u) (nxE L b u))) with
      | none => rw [q] at i2; cases i2
      | some y =>
        rw [q] at i2 mm
        rw [lp_r (α := Int32 × Mem) (β := Int32 × Mem) (body := fun a => bX7_text_24 a.2 a.1) (a := (nI v, upR (upR sM 20 g') 19 (GG G t u))) mm]
        exact i2
    · rw [if_neg e] at mm
      have hm : (fX7_item (upR (upR sM 20 g) 19 G)).bind (fun y => lp (α := Int32 × Mem) (β := Int32 × Mem) (fun a => bX7_text_24 a.2 a.1) (kM + 1) (nI v, y)) = some (nI v, upR (upR sM 20 g') 19 (GG G t u)) := by
        rw [m1, Option.bind_some, lp_l (α := Int32 × Mem) (β := Int32 × Mem) (body := fun a => bX7_text_24 a.2 a.1) (a := (nI v, upR (upR sM 20 g') 19 (GG G t u))) mm]
      by_cases e2 : t = L
      · rw [if_pos e2] at cc
        exact ⟨_, _, lp_l (α := Int32 × Mem) (β := (Int32 × Mem) ⊕ Mem) (body := fun a => bX6_readAll_9 a.2 a.1) (a := (nI v, upR (upR sC 2 f) 12 F)) cc, hm, f', g', F', GG G t u, rfl, rfl, k1, gj, Or.inl ⟨v, n', hv, rfl, rfl, GG_22 G _ _ g4, by rw [← e2]; rfl, hS', hP'⟩⟩
      · rw [if_neg e2, if_neg e] at cc
        exact ⟨_, _, lp_l (α := Int32 × Mem) (β := (Int32 × Mem) ⊕ Mem) (body := fun a => bX6_readAll_9 a.2 a.1) (a := (nI v, upR (upR sC 2 f) 12 F)) cc, hm, f', g', F', GG G t u, rfl, rfl, k1, gj, Or.inr ⟨t, by omega, rfl, Or.inr ⟨GG_22 G _ _ g4, rfl, e2⟩⟩⟩
