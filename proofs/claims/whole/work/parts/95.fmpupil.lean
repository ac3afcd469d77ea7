/-! text: a pupil's item, the reference's -/
theorem M_takes {L : Nat} {b : Nat → Nat} (hB : Bt L b) {s : Mem} (hT : TM L b s) (G : Nat → Int32) (h1 : G 19 = nI L) (h4 : G 22 = -1) {st en k : Nat} (hk : k < 14) (h2 : G 20 = nI st) (h3 : G 21 = nI en) (hs : st ≤ en) (he : en ≤ L) : fX7_takes (upR s 19 G) (14 + k) = some (if isW b k st en = true then (1, upR s 19 (GG G (nxS L b en) (nxE L b en))) else (0, upR s 19 G)) := by
  unfold fX7_takes
  rw [M_isWord hB (TM_R hT G) hk (by rw [upR_s]; exact h1) (by rw [upR_s]; exact h2) (by rw [upR_s]; exact h3) (by rw [upR_s]; exact h4) hs he, Option.bind_some, bi_n0, gz_bi, M_next hB hT G h1 h3 h4 he, Option.bind_some, gz_bi]
  cases isW b k st en <;> rfl
theorem fz_43 {s : Mem} (h : fz s) (v k : Int32) : gX7_pupilItem_43 s v k = some s := by
  unfold gX7_pupilItem_43 gX7_pupilItem_62
  have e := fz_takes h (k := 7) (by omega)
  rw [e, Option.bind_some, if_pos rfl, if_pos (show (0 : Int32) ≤ s.1 19 22 from h)]
theorem GG_22 (G : Nat → Int32) (t u : Nat) (h4 : G 22 = -1) : GG G t u 22 = -1 := by rw [GG_j _ _ _ (by omega) (by omega)]; exact h4
theorem GG_19 (G : Nat → Int32) (t u : Nat) {x : Int32} (h1 : G 19 = x) : GG G t u 19 = x := by rw [GG_j _ _ _ (by omega) (by omega)]; exact h1
theorem M_62 {s : Mem} (G : Nat → Int32) (h4 : G 22 = -1) {n : Nat} (hn : n < 6) (h : s.1 20 96 = nI n) (kd aw wi : Int32) : gX7_pupilItem_62 (upR s 19 G) kd aw wi = some (upR (upR s 19 G) 20 (comG (s.1 20) n kd aw wi)) := by
  unfold gX7_pupilItem_62
  have e22 : (upR s 19 G).1 19 22 = -1 := by rw [upR_s]; exact h4
  have e20 : (upR s 19 G).1 20 = s.1 20 := upR_n (by omega)
  rw [e22, if_neg (by decide), M_comes (upR s 19 G) kd aw wi hn (by rw [e20]; exact h), Option.bind_some, e20]
theorem M_43 {L : Nat} {b : Nat → Nat} (hB : Bt L b) {s : Mem} (hT : TM L b s) (G : Nat → Int32) (h1 : G 19 = nI L) (h4 : G 22 = -1) {st en n : Nat} (hn : n < 6) (h : s.1 20 96 = nI n) (h2 : G 20 = nI st) (h3 : G 21 = nI en) (hs : st ≤ en) (he : en ≤ L) (kd aw : Int32) : (∀ p, wop L b 7 (one3 b) st en = .inl p → ∃ t u, gX7_pupilItem_43 (upR s 19 G) kd aw = some (upR s 19 (upd (GG G t u) 22 (nI p)))) ∧ (∀ w t u, wop L b 7 (one3 b) st en = .inr (w, t, u) → gX7_pupilItem_43 (upR s 19 G) kd aw = some (upR (upR s 19 (GG G t u)) 20 (comG (s.1 20) n kd aw (nI w)))) := by
  have hL := hB.1
  have v1 := nxS_sp L b en he
  have v2 := nxE_sp L b en he
  have e := M_takes hB hT G h1 h4 (k := 7) (by omega) h2 h3 hs he
  unfold gX7_pupilItem_43 wop
  rw [e, Option.bind_some]
  by_cases e1 : isW b 7 st en = true
  · rw [if_pos e1, if_pos e1]
    show (∀ p, _ → ∃ t u, (if (1 : Int32) = 0 then _ else (fX7_courses (upR s 19 (GG G (nxS L b en) (nxE L b en)))).bind (fun y8 => gX7_pupilItem_62 y8.2 kd aw y8.1)) = _) ∧ (∀ w t u, _ → (if (1 : Int32) = 0 then _ else (fX7_courses (upR s 19 (GG G (nxS L b en) (nxE L b en)))).bind (fun y8 => gX7_pupilItem_62 y8.2 kd aw y8.1)) = _)
    rw [if_neg (show ¬ (1 : Int32) = 0 from by decide), M_courses hB hT (GG G (nxS L b en) (nxE L b en)) (GG_19 G _ _ h1) (GG_22 G _ _ h4) (st := nxS L b en) (en := nxE L b en) rfl rfl v2.1 v2.2.1, Option.bind_some]
    by_cases e2 : (one3 b (nxS L b en) (nxE L b en)).isSome = true
    · rw [if_pos e2, if_pos e2]
      refine ⟨fun p h => (by cases h), fun w t u hh => ?_⟩
      rw [(Sum.inr.inj hh : rdS L b (one3 b) (nxS L b en) (nxE L b en) = (w, t, u))]
      show gX7_pupilItem_62 (upR s 19 (GG (GG G (nxS L b en) (nxE L b en)) t u)) kd aw (nI w) = _
      rw [GG_G, M_62 (GG G t u) (GG_22 G _ _ h4) hn h]
    · rw [if_neg e2, if_neg e2]
      refine ⟨fun p hh => ?_, fun w t u hh => (by cases hh)⟩
      rw [← (Sum.inl.inj hh : nxS L b en = p)]
      refine ⟨nxS L b en, nxE L b en, ?_⟩
      show gX7_pupilItem_62 (upR s 19 (upd (GG G (nxS L b en) (nxE L b en)) 22 (nI (nxS L b en)))) kd aw 0 = _
      unfold gX7_pupilItem_62
      have hf : fz (upR s 19 (upd (GG G (nxS L b en) (nxE L b en)) 22 (nI (nxS L b en)))) := fz_up (by omega)
      exact if_pos hf
  · rw [if_neg e1, if_neg e1]
    refine ⟨fun p h => (by cases h), fun w t u hh => ?_⟩
    have hh := Sum.inr.inj hh
    cases hh
    show (if (0 : Int32) = 0 then gX7_pupilItem_62 (upR s 19 G) kd aw 0 else _) = _
    rw [if_pos rfl, M_62 G h4 hn h, GG_0 G h2 h3]; rfl
theorem M_pupilItem {L : Nat} {b : Nat → Nat} (hB : Bt L b) {s : Mem} (hT : TM L b s) (G : Nat → Int32) (h1 : G 19 = nI L) (h4 : G 22 = -1) {st en n : Nat} (hn : n < 6) (h : s.1 20 96 = nI n) (h3 : G 21 = nI en) (he : en ≤ L) (kd : Int32) : (∀ p, pPup L b en = .inl p → ∃ t u, fX7_pupilItem (upR s 19 G) kd = some (upR s 19 (upd (GG G t u) 22 (nI p)))) ∧ (∀ a w t u, pPup L b en = .inr (a, w, t, u) → fX7_pupilItem (upR s 19 G) kd = some (upR (upR s 19 (GG G t u)) 20 (comG (s.1 20) n kd (nI a) (nI w)))) := by
  have hL := hB.1
  have w1 := nxS_sp L b en he
  have w2 := nxE_sp L b en he
  have e20 : (upR s 19 G).1 20 = s.1 20 := upR_n (by omega)
  have h0 : fX7_pupilItem (upR s 19 G) kd = gX7_pupilItem_18 (upR s 19 G) kd (1 : Int32) := by
    unfold fX7_pupilItem
    rw [gd96, cl96, e20, h, if_neg (show ¬ (6 : Int32) ≤ nI n from by show ¬ nI 6 ≤ nI n; rw [nI_leI (by omega) (by omega)]; omega)]
  rw [h0]
  unfold gX7_pupilItem_18 pPup
  have gn : fX7_goesOn (upR s 19 G) = some (upR s 19 (GG G (nxS L b en) (nxE L b en))) := M_next hB hT G h1 h3 h4 he
  have e := M_takes hB hT (GG G (nxS L b en) (nxE L b en)) (GG_19 G _ _ h1) (GG_22 G _ _ h4) (k := 6) (by omega) (st := nxS L b en) (en := nxE L b en) rfl rfl w2.1 w2.2.1
  rw [M_mustT G h4, Option.bind_some, gn, Option.bind_some, e, Option.bind_some]
  by_cases e1 : isW b 6 (nxS L b en) (nxE L b en) = true
  · have v1 := nxS_sp L b (nxE L b en) w2.2.1
    have v2 := nxE_sp L b (nxE L b en) w2.2.1
    rw [if_pos e1, GG_G]
    have hh := M_hours hB hT (GG G (nxS L b (nxE L b en)) (nxE L b (nxE L b en))) (GG_19 G _ _ h1) (GG_22 G _ _ h4) (st := nxS L b (nxE L b en)) (en := nxE L b (nxE L b en)) rfl rfl v2.1 v2.2.1
    have hX : ∀ r, (if ((1 : Int32), upR s 19 (GG G (nxS L b (nxE L b en)) (nxE L b (nxE L b en)))).1 = 0 then gX7_pupilItem_43 ((1 : Int32), upR s 19 (GG G (nxS L b (nxE L b en)) (nxE L b (nxE L b en)))).2 kd (0 : Int32) else (fX7_hours ((1 : Int32), upR s 19 (GG G (nxS L b (nxE L b en)) (nxE L b (nxE L b en)))).2).bind (fun y10 => gX7_pupilItem_43 y10.2 kd y10.1)) = r ↔ (fX7_hours (upR s 19 (GG G (nxS L b (nxE L b en)) (nxE L b (nxE L b en))))).bind (fun y10 => gX7_pupilItem_43 y10.2 kd y10.1) = r := fun r => by
      show (if (1 : Int32) = 0 then _ else _) = r ↔ _
      rw [if_neg (show ¬ (1 : Int32) = 0 from by decide)]
    simp only [hX]
    rw [hh, Option.bind_some]
    by_cases e2 : (hou b (nxS L b (nxE L b en)) (nxE L b (nxE L b en))).isSome = true
    · have hw : wop L b 6 (hou b) (nxS L b en) (nxE L b en) = .inr (rdS L b (hou b) (nxS L b (nxE L b en)) (nxE L b (nxE L b en))) := by unfold wop; rw [if_pos e1, if_pos e2]
      have q1 := (wop_ok (L := L) (b := b) (k := 6) (hou_v b) (st := nxS L b en) (en := nxE L b en) (by omega) (by omega)).2
      rw [hw] at *
      rw [if_pos e2, GG_G]
      generalize rdS L b (hou b) (nxS L b (nxE L b en)) (nxE L b (nxE L b en)) = x at *
      obtain ⟨a, t, u⟩ := x
      have z := q1 a t u rfl
      have sc := M_43 hB hT (GG G t u) (GG_19 G _ _ h1) (GG_22 G _ _ h4) hn h (st := t) (en := u) rfl rfl z.1 z.2.1 kd (nI a)
      refine ⟨fun p hp => ?_, fun a' w t' u' hp => ?_⟩
      · obtain ⟨t', u', q⟩ := sc.1 p (pP2_l hp)
        rw [GG_G] at q
        exact ⟨t', u', q⟩
      · obtain ⟨rfl, h5⟩ := pP2_r hp
        have q := sc.2 w t' u' h5
        rw [GG_G] at q
        exact q
    · have hw : wop L b 6 (hou b) (nxS L b en) (nxE L b en) = .inl (nxS L b (nxE L b en)) := by unfold wop; rw [if_pos e1, if_neg e2]
      rw [hw, if_neg e2]
      refine ⟨fun p hp => ?_, fun a w t' u' hp => (by cases hp)⟩
      rw [← (Sum.inl.inj hp : nxS L b (nxE L b en) = p)]
      exact ⟨_, _, fz_43 (fz_up (by omega)) kd 0⟩
  · have hw : wop L b 6 (hou b) (nxS L b en) (nxE L b en) = .inr (0, nxS L b en, nxE L b en) := by unfold wop; rw [if_neg e1]
    rw [if_neg e1, hw]
    have sc := M_43 hB hT (GG G (nxS L b en) (nxE L b en)) (GG_19 G _ _ h1) (GG_22 G _ _ h4) hn h (st := nxS L b en) (en := nxE L b en) rfl rfl w2.1 w2.2.1 kd (nI 0)
    refine ⟨fun p hp => ?_, fun a' w t' u' hp => ?_⟩
    · obtain ⟨t', u', q⟩ := sc.1 p (pP2_l hp)
      rw [GG_G] at q
      exact ⟨t', u', q⟩
    · obtain ⟨rfl, h5⟩ := pP2_r hp
      have q := sc.2 w t' u' h5
      rw [GG_G] at q
      exact q
theorem M_pupilFull {s : Mem} (G : Nat → Int32) (h4 : G 22 = -1) {st : Nat} (hst : st < 1000) (h : s.1 20 96 = nI 6) (h2 : G 20 = nI st) (kd : Int32) : fX7_pupilItem (upR s 19 G) kd = some (upR s 19 (upd G 22 (nI st))) := by
  have e20 : (upR s 19 G).1 20 = s.1 20 := upR_n (by omega)
  have hf : fz (upR s 19 (upd G 22 (nI st))) := fz_up hst
  unfold fX7_pupilItem gX7_pupilItem_18
  rw [gd96, cl96, e20, h, if_pos (by decide), M_mustF G h2 h4, Option.bind_some, fz_goesOn hf, Option.bind_some]
  have e := fz_takes hf (k := 6) (by omega)
  rw [e, Option.bind_some, if_pos rfl]
  exact fz_43 hf kd 0
