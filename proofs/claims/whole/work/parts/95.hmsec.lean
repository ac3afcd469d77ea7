/-! text: a section's item, the reference's -/
theorem rdS_inv {L : Nat} {b : Nat → Nat} {nm : Nat → Nat → Option Nat} {B : Nat} (hv : ∀ st en v, nm st en = some v → v < B ∧ st < en) {st en : Nat} (hs : st ≤ en) (he : en ≤ L) : (rdS L b nm st en).2.1 ≤ (rdS L b nm st en).2.2 ∧ (rdS L b nm st en).2.2 ≤ L ∧ (rdS L b nm st en).1 < 2 ^ B ∧ en ≤ (rdS L b nm st en).2.2 := by
  unfold rdS; exact sq_inv hv hs he 121
theorem M_section {L : Nat} {b : Nat → Nat} (hB : Bt L b) {s : Mem} (hT : TM L b s) (G : Nat → Int32) (h1 : G 19 = nI L) (h4 : G 22 = -1) {en : Nat} (so : Nat) (h3 : G 21 = nI en) (he : en ≤ L) : (∀ p, pSec L b en = .inl p → ∃ t u, fX7_sectionItem (upR s 19 G) (nI so) = some (upR s 19 (upd (GG G t u) 22 (nI p)))) ∧ (∀ c w a cp lk l t u, pSec L b en = .inr (c, w, a, cp, lk, l, t, u) → fX7_sectionItem (upR s 19 G) (nI so) = gX7_sectionItem_93 (upR s 19 (GG G t u)) (nI so) (nI c) (nI w) (nI a) (nI l) (nI cp) lk) := by
  have hL := hB.1
  have a1 := nxS_sp L b en he
  have a2 := nxE_sp L b en he
  have frz : ∀ m : Mem, fz m → fX7_goesOn m = some m ∧ (∀ x, fX7_number m x = some (-1, m)) ∧ fX7_hours m = some (0, m) ∧ fX7_isWord m 25 = some (bi false) ∧ (∀ x, fX7_must m x = some m) ∧ fX7_takes m 26 = some (0, m) ∧ (∀ a b c d e f g, gX7_sectionItem_93 m a b c d e f g = some m) := fun m h => ⟨fz_goesOn h, fz_number h, fz_hours h, fz_isWord h (k := 11) (by omega), fz_must h, fz_takes h (k := 12) (by omega), fz_93 h⟩
  have gn : fX7_goesOn (upR s 19 G) = some (upR s 19 (GG G (nxS L b en) (nxE L b en))) := M_next hB hT G h1 h3 h4 he
  have ch := M_courseHere hB (TM_R hT (GG G (nxS L b en) (nxE L b en))) (st := nxS L b en) (en := nxE L b en) (by rw [upR_s]; rfl) (by rw [upR_s]; rfl) (by rw [upR_s]; exact GG_22 G _ _ h4) a2.1 a2.2.1
  unfold fX7_sectionItem
  rw [gn, Option.bind_some, ch, Option.bind_some]
  unfold pSec
  have o3 : one3 b (nxS L b en) (nxE L b en) = one b (nxS L b en) (nxE L b en) 97 3 := rfl
  rw [o3]
  cases q1 : one b (nxS L b en) (nxE L b en) 97 3 with
  | none =>
    refine ⟨fun p h => ?_, fun _ _ _ _ _ _ _ _ h => (by cases h)⟩
    rw [← (Sum.inl.inj h : nxS L b en = p), if_pos (show oI none < (0 : Int32) from by decide)]
    unfold gX7_sectionItem_19
    have hf : fz (upR s 19 (upd (GG G (nxS L b en) (nxE L b en)) 22 (nI (nxS L b en)))) := fz_up (by omega)
    obtain ⟨f1, f2, f3, f4, f5, f6, f7⟩ := frz _ hf
    rw [M_mustF (GG G (nxS L b en) (nxE L b en)) (st := nxS L b en) rfl (GG_22 G _ _ h4), Option.bind_some, f1, Option.bind_some, f2, Option.bind_some, f3, Option.bind_some, f4, Option.bind_some, f5, Option.bind_some, f1, Option.bind_some, lt_e, f2, Option.bind_some, f6, Option.bind_some, if_pos rfl, f7]
    exact ⟨_, _, rfl⟩
  | some c =>
    have hc := (one_v _ _ _ q1).1
    rw [if_neg (show ¬ oI (some c) < (0 : Int32) from nI_pos (by omega))]
    show (∀ p, pS0 L b c (nxE L b en) = .inl p → ∃ t u, gX7_sectionItem_19 (upR s 19 (GG G (nxS L b en) (nxE L b en))) (nI so) (nI c) (1 : Int32) = some (upR s 19 (upd (GG G t u) 22 (nI p)))) ∧ (∀ c' w a cp lk l t u, pS0 L b c (nxE L b en) = .inr (c', w, a, cp, lk, l, t, u) → gX7_sectionItem_19 (upR s 19 (GG G (nxS L b en) (nxE L b en))) (nI so) (nI c) (1 : Int32) = gX7_sectionItem_93 (upR s 19 (GG G t u)) (nI so) (nI c') (nI w) (nI a) (nI l) (nI cp) lk)
    generalize nxE L b en = e1 at *
    have he1 := a2.2.1
    have b1 := nxS_sp L b e1 he1
    have b2 := nxE_sp L b e1 he1
    have gn2 : fX7_goesOn (upR s 19 (GG G (nxS L b en) e1)) = some (upR s 19 (GG (GG G (nxS L b en) e1) (nxS L b e1) (nxE L b e1))) := M_next hB hT (GG G (nxS L b en) e1) (GG_19 G _ _ h1) rfl (GG_22 G _ _ h4) he1
    rw [GG_G] at gn2
    unfold gX7_sectionItem_19
    rw [M_mustT (GG G (nxS L b en) e1) (GG_22 G _ _ h4), Option.bind_some, gn2, Option.bind_some]
    have hn := M_number hB hT (GG G (nxS L b e1) (nxE L b e1)) (GG_19 G _ _ h1) (GG_22 G _ _ h4) (m := 1) (by omega) (st := nxS L b e1) (en := nxE L b e1) rfl rfl b2.1 b2.2.1
    have hn : (_ → fX7_number (upR s 19 (GG G (nxS L b e1) (nxE L b e1))) (1 : Int32) = _) ∧ (∀ v, _ → fX7_number (upR s 19 (GG G (nxS L b e1) (nxE L b e1))) (1 : Int32) = _) := hn
    unfold pS0
    cases q2 : one b (nxS L b e1) (nxE L b e1) 48 1 with
    | none =>
      refine ⟨fun p h => ?_, fun _ _ _ _ _ _ _ _ h => (by cases h)⟩
      rw [← (Sum.inl.inj h : nxS L b e1 = p)]
      have hf : fz (upR s 19 (upd (GG G (nxS L b e1) (nxE L b e1)) 22 (nI (nxS L b e1)))) := fz_up (by omega)
      obtain ⟨f1, f2, f3, f4, f5, f6, f7⟩ := frz _ hf
      rw [hn.1 q2, Option.bind_some, f3, Option.bind_some, f4, Option.bind_some, f5, Option.bind_some, f1, Option.bind_some, lt_e, f2, Option.bind_some, f6, Option.bind_some, if_pos rfl, f7]
      exact ⟨_, _, rfl⟩
    | some w =>
      rw [hn.2 w q2, Option.bind_some, GG_G]
      have he2 := b2.2.1
      show (∀ p, pS1 L b c w (nxE L b e1) = .inl p → _) ∧ (∀ c' w' a cp lk l t u, pS1 L b c w (nxE L b e1) = .inr (c', w', a, cp, lk, l, t, u) → _)
      generalize nxE L b e1 = e2 at *
      have d1 := nxS_sp L b e2 he2
      have d2 := nxE_sp L b e2 he2
      have hh := M_hours hB hT (GG G (nxS L b e2) (nxE L b e2)) (GG_19 G _ _ h1) (GG_22 G _ _ h4) (st := nxS L b e2) (en := nxE L b e2) rfl rfl d2.1 d2.2.1
      rw [hh, Option.bind_some]
      unfold pS1
      by_cases q3 : (hou b (nxS L b e2) (nxE L b e2)).isSome = true
      · rw [if_pos q3, if_pos q3, GG_G]
        have z := rdS_inv (L := L) (b := b) (hou_v b) d2.1 d2.2.1
        generalize rdS L b (hou b) (nxS L b e2) (nxE L b e2) = x at *
        obtain ⟨a, t, u⟩ := x
        have z1 : t ≤ u := z.1
        have z2 : u ≤ L := z.2.1
        show (∀ p, pS2 L b c w a t u = .inl p → ∃ t' u', (fX7_isWord (upR s 19 (GG G t u)) 25).bind (fun y7 => (fX7_must (upR s 19 (GG G t u)) y7).bind (fun y8 => (fX7_goesOn y8).bind (fun y9 => lt (y9.1 19 20) (fun x10 => (fX7_number y9 (9 : Int32)).bind (fun y11 => (fX7_takes y11.2 26).bind (fun y12 => if y12.1 = (0 : Int32) then gX7_sectionItem_93 y12.2 (nI so) (nI c) (nI w) (nI a) x10 y11.1 (-1 : Int32) else lt (y12.2.1 19 20) (fun x17 => (fX7_number y12.2 (1 : Int32)).bind (fun y18 => gX7_sectionItem_93 y18.2 (nI so) (nI c) (nI w) (nI a) x17 y11.1 y18.1)))))))) = some (upR s 19 (upd (GG G t' u') 22 (nI p)))) ∧ (∀ c' w' a' cp lk l t' u', pS2 L b c w a t u = .inr (c', w', a', cp, lk, l, t', u') → (fX7_isWord (upR s 19 (GG G t u)) 25).bind (fun y7 => (fX7_must (upR s 19 (GG G t u)) y7).bind (fun y8 => (fX7_goesOn y8).bind (fun y9 => lt (y9.1 19 20) (fun x10 => (fX7_number y9 (9 : Int32)).bind (fun y11 => (fX7_takes y11.2 26).bind (fun y12 => if y12.1 = (0 : Int32) then gX7_sectionItem_93 y12.2 (nI so) (nI c) (nI w) (nI a) x10 y11.1 (-1 : Int32) else lt (y12.2.1 19 20) (fun x17 => (fX7_number y12.2 (1 : Int32)).bind (fun y18 => gX7_sectionItem_93 y18.2 (nI so) (nI c) (nI w) (nI a) x17 y11.1 y18.1)))))))) = gX7_sectionItem_93 (upR s 19 (GG G t' u')) (nI so) (nI c') (nI w') (nI a') (nI l) (nI cp) lk)
        have hw := M_isWord hB (TM_R hT (GG G t u)) (k := 11) (by omega) (by rw [upR_s]; exact GG_19 G _ _ h1) (st := t) (en := u) (by rw [upR_s]; rfl) (by rw [upR_s]; rfl) (by rw [upR_s]; exact GG_22 G _ _ h4) z1 z2
        have hw : fX7_isWord (upR s 19 (GG G t u)) 25 = _ := hw
        rw [hw, Option.bind_some]
        unfold pS2
        by_cases q4 : isW b 11 t u = true
        · have g1 := nxS_sp L b u z2
          have g2 := nxE_sp L b u z2
          have gn3 : fX7_goesOn (upR s 19 (GG G t u)) = some (upR s 19 (GG (GG G t u) (nxS L b u) (nxE L b u))) := M_next hB hT (GG G t u) (GG_19 G _ _ h1) rfl (GG_22 G _ _ h4) z2
          rw [GG_G] at gn3
          have mt : fX7_must (upR s 19 (GG G t u)) (bi true) = _ := M_mustT (GG G t u) (GG_22 G _ _ h4)
          have e20 : (upR s 19 (GG G (nxS L b u) (nxE L b u))).1 19 20 = nI (nxS L b u) := by rw [upR_s]; rfl
          rw [q4, if_pos rfl, mt, Option.bind_some, gn3, Option.bind_some, lt_e, e20]
          have hn := M_number hB hT (GG G (nxS L b u) (nxE L b u)) (GG_19 G _ _ h1) (GG_22 G _ _ h4) (m := 9) (by omega) (st := nxS L b u) (en := nxE L b u) rfl rfl g2.1 g2.2.1
          have hn : (_ → fX7_number (upR s 19 (GG G (nxS L b u) (nxE L b u))) (9 : Int32) = _) ∧ (∀ v, _ → fX7_number (upR s 19 (GG G (nxS L b u) (nxE L b u))) (9 : Int32) = _) := hn
          cases q5 : one b (nxS L b u) (nxE L b u) 48 9 with
          | none =>
            refine ⟨fun p h => ?_, fun _ _ _ _ _ _ _ _ h => (by cases h)⟩
            rw [← (Sum.inl.inj h : nxS L b u = p)]
            have hf : fz (upR s 19 (upd (GG G (nxS L b u) (nxE L b u)) 22 (nI (nxS L b u)))) := fz_up (by omega)
            obtain ⟨f1, f2, f3, f4, f5, f6, f7⟩ := frz _ hf
            rw [hn.1 q5, Option.bind_some, f6, Option.bind_some, if_pos rfl, f7]
            exact ⟨_, _, rfl⟩
          | some cp =>
            rw [hn.2 cp q5, Option.bind_some, GG_G]
            have fin := M_s3 hB hT (GG G (nxS L b (nxE L b u)) (nxE L b (nxE L b u))) (GG_19 G _ _ h1) (GG_22 G _ _ h4) (e5 := nxE L b u) (cp := cp) so c w a (nxS L b u) rfl rfl g2.2.1 _ rfl
            refine ⟨fun p h => ?_, fun c' w' a' cp' lk l t' u' h => ?_⟩
            · obtain ⟨t', u', r⟩ := fin.1 p h
              rw [GG_G] at r
              exact ⟨t', u', r⟩
            · have r := fin.2 c' w' a' cp' lk l t' u' h
              rw [GG_G] at r
              exact r
        · rw [if_neg q4, Bool.eq_false_iff.mpr q4]
          refine ⟨fun p h => ?_, fun _ _ _ _ _ _ _ _ h => (by cases h)⟩
          rw [← (Sum.inl.inj h : t = p)]
          have hf : fz (upR s 19 (upd (GG G t u) 22 (nI t))) := fz_up (by omega)
          obtain ⟨f1, f2, f3, f4, f5, f6, f7⟩ := frz _ hf
          have mf : fX7_must (upR s 19 (GG G t u)) (bi false) = _ := M_mustF (GG G t u) (st := t) rfl (GG_22 G _ _ h4)
          rw [mf, Option.bind_some, f1, Option.bind_some, lt_e, f2, Option.bind_some, f6, Option.bind_some, if_pos rfl, f7]
          exact ⟨_, _, rfl⟩
      · rw [if_neg q3, if_neg q3]
        refine ⟨fun p h => ?_, fun _ _ _ _ _ _ _ _ h => (by cases h)⟩
        rw [← (Sum.inl.inj h : nxS L b e2 = p)]
        have hf : fz (upR s 19 (upd (GG G (nxS L b e2) (nxE L b e2)) 22 (nI (nxS L b e2)))) := fz_up (by omega)
        obtain ⟨f1, f2, f3, f4, f5, f6, f7⟩ := frz _ hf
        rw [f4, Option.bind_some, f5, Option.bind_some, f1, Option.bind_some, lt_e, f2, Option.bind_some, f6, Option.bind_some, if_pos rfl, f7]
        exact ⟨_, _, rfl⟩
