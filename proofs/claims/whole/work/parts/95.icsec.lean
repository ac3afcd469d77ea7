/-! text: a section's item, the class's -/
theorem C_link {L : Nat} {b : Nat → Nat} (hB : Bt L b) {s : Mem} (hT : TC L b s) (F : Nat → Int32) {c w a cp lst e5 : Nat} (h1 : F 1 = nI L) (h2 : F 2 = nI lst) (h3 : F 3 = nI e5) (he : e5 ≤ L) (hl : lst ≤ L) : (∀ p, pS3 L b c w a cp lst e5 = .inl p → ∃ F', fX5_readLink (upR s 12 F) = some (0, upR s 12 F') ∧ F' 1 = nI L ∧ F' 2 = nI p) ∧ (∀ c' w' a' cp' lk l' t u, pS3 L b c w a cp lst e5 = .inr (c', w', a', cp', lk, l', t, u) → c' = c ∧ w' = w ∧ a' = a ∧ cp' = cp ∧ (lk = -1 ∨ lk = 0 ∨ lk = 1) ∧ l' ≤ L ∧ ∃ F', fX5_readLink (upR s 12 F) = some (1, upR s 12 F') ∧ F' 1 = nI L ∧ F' 2 = nI t ∧ F' 3 = nI u ∧ F' 13 = lk ∧ F' 4 = nI l' ∧ t ≤ u ∧ u ≤ L ∧ e5 ≤ u ∧ ∀ j, (5 ≤ j ∧ j ≤ 12) → F' j = F j) := by
  have hL := hB.1
  have v1 := nxS_sp L b e5 he
  have v2 := nxE_sp L b e5 he
  have u1 := nxS_sp L b (nxE L b e5) v2.2.1
  have u2 := nxE_sp L b (nxE L b e5) v2.2.1
  have x1 := nxS_sp L b (nxE L b (nxE L b e5)) u2.2.1
  have x2 := nxE_sp L b (nxE L b (nxE L b e5)) u2.2.1
  unfold fX5_readLink pS3
  have e2 : (upR s 12 (upd F 13 (-1 : Int32))).1 12 2 = nI lst := by rw [upR_s]; exact h2
  rw [lt_e, up2_upRk, lt_e, up2_upRk, e2, C_next hB hT (upd (upd F 13 (-1 : Int32)) 4 (nI lst)) (e := e5) h1 h3 he, Option.bind_some]
  generalize hF : upd (upd (upd (upd F 13 (-1 : Int32)) 4 (nI lst)) 2 (nI (nxS L b e5))) 3 (nI (nxE L b e5)) = F1
  have g1 : F1 1 = nI L := by rw [← hF]; exact h1
  have g2 : F1 2 = nI (nxS L b e5) := by rw [← hF]; rfl
  have g3 : F1 3 = nI (nxE L b e5) := by rw [← hF]; rfl
  have g4 : F1 4 = nI lst := by rw [← hF]; rfl
  have g13 : F1 13 = -1 := by rw [← hF]; rfl
  have gj : ∀ j, (5 ≤ j ∧ j ≤ 12) → F1 j = F j := fun j hj => by rw [← hF, upd_n (by omega), upd_n (by omega), upd_n (by omega), upd_n (by omega)]
  rw [C_says hB (TC_R hT F1) (k := 12) (by omega) (by rw [upR_s]; exact g2) (by rw [upR_s]; exact g3) v2.1 v2.2.1, Option.bind_some, bi_n0]
  by_cases e1 : isW b 12 (nxS L b e5) (nxE L b e5) = true
  · rw [if_pos e1, if_pos e1, C_next hB hT F1 g1 g3 v2.2.1, Option.bind_some]
    generalize hF2 : upd (upd F1 2 (nI (nxS L b (nxE L b e5)))) 3 (nI (nxE L b (nxE L b e5))) = F2
    have k1 : F2 1 = nI L := by rw [← hF2]; exact g1
    have k2 : F2 2 = nI (nxS L b (nxE L b e5)) := by rw [← hF2]; rfl
    have k3 : F2 3 = nI (nxE L b (nxE L b e5)) := by rw [← hF2]; rfl
    have kj : ∀ j, (5 ≤ j ∧ j ≤ 12) → F2 j = F j := fun j hj => by rw [← hF2, upd_n (by omega), upd_n (by omega)]; exact gj j hj
    have ho := C_one hB (TC_R hT F2) (ba := 48) (mx := 1) (st := nxS L b (nxE L b e5)) (en := nxE L b (nxE L b e5)) (by rw [upR_s]; exact k2) (by rw [upR_s]; exact k3) u2.1 u2.2.1 (by omega)
    have ho : fX5_oneSign (upR s 12 F2) (48 : Int32) (1 : Int32) = _ := ho
    rw [ho, Option.bind_some, lt_e, up2_upRk, upR_s, upd_s]
    cases q : one b (nxS L b (nxE L b e5)) (nxE L b (nxE L b e5)) 48 1 with
    | none =>
      rw [if_neg (show ¬ (0 : Int32) ≤ oI none from by decide)]
      refine ⟨fun p h => ?_, fun _ _ _ _ _ _ _ _ h => (by cases h)⟩
      rw [← (Sum.inl.inj h : nxS L b (nxE L b e5) = p)]
      exact ⟨_, rfl, k1, k2⟩
    | some k =>
      have hk := (one_v _ _ _ q).1
      have e22 : upd F2 13 (oI (some k)) 2 = nI (nxS L b (nxE L b e5)) := k2
      rw [if_pos (show (0 : Int32) ≤ oI (some k) from Int32.not_lt.mp (nI_pos (by omega))), lt_e, up2_upRk, e22, C_next hB hT (upd (upd F2 13 (oI (some k))) 4 (nI (nxS L b (nxE L b e5)))) (e := nxE L b (nxE L b e5)) k1 k3 u2.2.1, Option.bind_some]
      refine ⟨fun p h => (by cases h), fun _ _ _ _ _ _ _ _ h => ?_⟩
      cases h
      refine ⟨rfl, rfl, rfl, rfl, ?_, by omega, _, rfl, k1, rfl, rfl, rfl, rfl, x2.1, x2.2.1, by omega, fun j hj => ?_⟩
      · have : k = 0 ∨ k = 1 := by omega
        rcases this with rfl | rfl
        · exact Or.inr (Or.inl rfl)
        · exact Or.inr (Or.inr rfl)
      · rw [upd_n (by omega), upd_n (by omega), upd_n (by omega), upd_n (by omega)]; exact kj j hj
  · rw [if_neg e1, if_neg e1]
    refine ⟨fun p h => (by cases h), fun _ _ _ _ _ _ _ _ h => ?_⟩
    cases h
    exact ⟨rfl, rfl, rfl, rfl, Or.inl rfl, by omega, F1, rfl, g1, g2, g3, g13, g4, v2.1, v2.2.1, by omega, gj⟩
theorem C_section {L : Nat} {b : Nat → Nat} (hB : Bt L b) {s : Mem} (hT : TC L b s) (F : Nat → Int32) {en : Nat} (so : Nat) (hso : so < 3) (h1 : F 1 = nI L) (h3 : F 3 = nI en) (he : en ≤ L) : (∀ p, pSec L b en = .inl p → ∃ F', gX5_readItem_100 (upR s 12 F) (nI so) = some (0, upR s 12 F') ∧ F' 1 = nI L ∧ F' 2 = nI p) ∧ (∀ c w a cp lk l t u, pSec L b en = .inr (c, w, a, cp, lk, l, t, u) → c < 4 ∧ w < 2 ∧ a < 2 ^ 20 ∧ cp ≤ 9 ∧ (lk = -1 ∨ lk = 0 ∨ lk = 1) ∧ l ≤ L ∧ t ≤ u ∧ u ≤ L ∧ en < u ∧ ∃ F', gX5_readItem_100 (upR s 12 F) (nI so) = some (1, upR s 12 F') ∧ F' 1 = nI L ∧ F' 2 = nI t ∧ F' 3 = nI u ∧ F' 6 = F 6 ∧ F' 8 = nI so ∧ F' 9 = nI c ∧ F' 10 = nI w ∧ F' 11 = nI a ∧ F' 12 = nI cp ∧ F' 13 = lk ∧ F' 4 = nI l) := by
  have hL := hB.1
  have a1 := nxS_sp L b en he
  have a2 := nxE_sp L b en he
  have hso0 : ¬ nI so < (0 : Int32) := nI_pos (by omega)
  unfold gX5_readItem_100
  rw [lt_e, up2_upRk, upR_s, upd_s, if_neg hso0]
  unfold fX5_readSection
  rw [C_next hB hT (upd F 8 (nI so)) (e := en) h1 h3 he, Option.bind_some]
  generalize hF1 : upd (upd (upd F 8 (nI so)) 2 (nI (nxS L b en))) 3 (nI (nxE L b en)) = F1
  have g1 : F1 1 = nI L := by rw [← hF1]; exact h1
  have g2 : F1 2 = nI (nxS L b en) := by rw [← hF1]; rfl
  have g3 : F1 3 = nI (nxE L b en) := by rw [← hF1]; rfl
  have g6 : F1 6 = F 6 := by rw [← hF1]; rfl
  have g8 : F1 8 = nI so := by rw [← hF1]; rfl
  have hl := C_letter hB (TC_R hT F1) (st := nxS L b en) (en := nxE L b en) (by rw [upR_s]; exact g2) (by rw [upR_s]; exact g3) a2.1 a2.2.1
  rw [hl, Option.bind_some, lt_e, up2_upRk, upR_s, upd_s]
  unfold pSec
  have o3 : one3 b (nxS L b en) (nxE L b en) = one b (nxS L b en) (nxE L b en) 97 3 := rfl
  rw [o3]
  cases q1 : one b (nxS L b en) (nxE L b en) 97 3 with
  | none =>
    rw [if_neg (show ¬ (0 : Int32) ≤ oI none from by decide), Option.bind_some, if_pos rfl]
    refine ⟨fun p h => ?_, fun _ _ _ _ _ _ _ _ h => (by cases h)⟩
    rw [← (Sum.inl.inj h : nxS L b en = p)]
    exact ⟨_, rfl, g1, g2⟩
  | some c =>
    have hc := one_v _ _ _ q1
    have he1 := a2.2.1
    rw [if_pos (show (0 : Int32) ≤ oI (some c) from Int32.not_lt.mp (nI_pos (by omega))), C_next hB hT (upd F1 9 (oI (some c))) (e := nxE L b en) g1 g3 he1, Option.bind_some]
    show (∀ p, pS0 L b c (nxE L b en) = .inl p → _) ∧ (∀ c' w a cp lk l t u, pS0 L b c (nxE L b en) = .inr (c', w, a, cp, lk, l, t, u) → _)
    have en1 : en < nxE L b en := by omega
    generalize nxE L b en = e1 at *
    have b1 := nxS_sp L b e1 he1
    have b2 := nxE_sp L b e1 he1
    generalize hF2 : upd (upd (upd F1 9 (oI (some c))) 2 (nI (nxS L b e1))) 3 (nI (nxE L b e1)) = F2
    have i1 : F2 1 = nI L := by rw [← hF2]; exact g1
    have i2 : F2 2 = nI (nxS L b e1) := by rw [← hF2]; rfl
    have i3 : F2 3 = nI (nxE L b e1) := by rw [← hF2]; rfl
    have i6 : F2 6 = F 6 := by rw [← hF2]; exact g6
    have i8 : F2 8 = nI so := by rw [← hF2]; exact g8
    have i9 : F2 9 = nI c := by rw [← hF2]; rfl
    have ho := C_one hB (TC_R hT F2) (ba := 48) (mx := 1) (st := nxS L b e1) (en := nxE L b e1) (by rw [upR_s]; exact i2) (by rw [upR_s]; exact i3) b2.1 b2.2.1 (by omega)
    have ho : fX5_oneSign (upR s 12 F2) (48 : Int32) (1 : Int32) = _ := ho
    rw [ho, Option.bind_some, lt_e, up2_upRk, upR_s, upd_s]
    unfold pS0
    cases q2 : one b (nxS L b e1) (nxE L b e1) 48 1 with
    | none =>
      rw [if_neg (show ¬ (0 : Int32) ≤ oI none from by decide), Option.bind_some, if_pos rfl]
      refine ⟨fun p h => ?_, fun _ _ _ _ _ _ _ _ h => (by cases h)⟩
      rw [← (Sum.inl.inj h : nxS L b e1 = p)]
      exact ⟨_, rfl, i1, i2⟩
    | some w =>
      have hw := (one_v _ _ _ q2).1
      have he2 := b2.2.1
      rw [if_pos (show (0 : Int32) ≤ oI (some w) from Int32.not_lt.mp (nI_pos (by omega))), C_next hB hT (upd F2 10 (oI (some w))) (e := nxE L b e1) i1 i3 he2, Option.bind_some]
      show (∀ p, pS1 L b c w (nxE L b e1) = .inl p → _) ∧ (∀ c' w' a cp lk l t u, pS1 L b c w (nxE L b e1) = .inr (c', w', a, cp, lk, l, t, u) → _)
      have en2 : en < nxE L b e1 := by omega
      generalize nxE L b e1 = e2 at *
      have d1 := nxS_sp L b e2 he2
      have d2 := nxE_sp L b e2 he2
      generalize hF3 : upd (upd (upd F2 10 (oI (some w))) 2 (nI (nxS L b e2))) 3 (nI (nxE L b e2)) = F3
      have j1 : F3 1 = nI L := by rw [← hF3]; exact i1
      have j2 : F3 2 = nI (nxS L b e2) := by rw [← hF3]; rfl
      have j3 : F3 3 = nI (nxE L b e2) := by rw [← hF3]; rfl
      have j6 : F3 6 = F 6 := by rw [← hF3]; exact i6
      have j8 : F3 8 = nI so := by rw [← hF3]; exact i8
      have j9 : F3 9 = nI c := by rw [← hF3]; exact i9
      have j10 : F3 10 = nI w := by rw [← hF3]; rfl
      rw [C_setH hB hT F3 j1 j2 j3 d2.1 d2.2.1, Option.bind_some]
      unfold pS1
      by_cases q3 : (hou b (nxS L b e2) (nxE L b e2)).isSome = true
      · have z := rdS_inv (L := L) (b := b) (hou_v b) d2.1 d2.2.1
        rw [if_pos q3, q3, if_neg (show ¬ bi true = (0 : Int32) from by decide)]
        generalize rdS L b (hou b) (nxS L b e2) (nxE L b e2) = x at *
        obtain ⟨a, t, u⟩ := x
        have z1 : t ≤ u := z.1
        have z2 : u ≤ L := z.2.1
        have z3 : a < 2 ^ 20 := z.2.2.1
        have z4 : nxE L b e2 ≤ u := z.2.2.2
        have en3 : en < u := by omega
        generalize hF4 : FF F3 (a, t, u) = F4
        have k1 : F4 1 = nI L := by rw [← hF4]; exact j1
        have k2 : F4 2 = nI t := by rw [← hF4]; rfl
        have k3 : F4 3 = nI u := by rw [← hF4]; rfl
        have k5 : F4 5 = nI a := by rw [← hF4]; rfl
        have k6 : F4 6 = F 6 := by rw [← hF4]; exact j6
        have k8 : F4 8 = nI so := by rw [← hF4]; exact j8
        have k9 : F4 9 = nI c := by rw [← hF4]; exact j9
        have k10 : F4 10 = nI w := by rw [← hF4]; exact j10
        rw [C_says hB (TC_R hT F4) (k := 11) (by omega) (by rw [upR_s]; exact k2) (by rw [upR_s]; exact k3) z1 z2, Option.bind_some, bi_n0]
        show (∀ p, pS2 L b c w a t u = .inl p → _) ∧ (∀ c' w' a' cp lk l t' u', pS2 L b c w a t u = .inr (c', w', a', cp, lk, l, t', u') → _)
        unfold pS2
        by_cases q4 : isW b 11 t u = true
        · rw [if_pos q4, if_pos q4, lt_e, up2_upRk, upR_s, k5]
          have m1 := nxS_sp L b u z2
          have m2 := nxE_sp L b u z2
          rw [C_next hB hT (upd F4 11 (nI a)) (e := u) k1 k3 z2, Option.bind_some]
          generalize hF5 : upd (upd (upd F4 11 (nI a)) 2 (nI (nxS L b u))) 3 (nI (nxE L b u)) = F5
          have l1 : F5 1 = nI L := by rw [← hF5]; exact k1
          have l2 : F5 2 = nI (nxS L b u) := by rw [← hF5]; rfl
          have l3 : F5 3 = nI (nxE L b u) := by rw [← hF5]; rfl
          have l6 : F5 6 = F 6 := by rw [← hF5]; exact k6
          have l8 : F5 8 = nI so := by rw [← hF5]; exact k8
          have l9 : F5 9 = nI c := by rw [← hF5]; exact k9
          have l10 : F5 10 = nI w := by rw [← hF5]; exact k10
          have l11 : F5 11 = nI a := by rw [← hF5]; rfl
          have ho := C_one hB (TC_R hT F5) (ba := 48) (mx := 9) (st := nxS L b u) (en := nxE L b u) (by rw [upR_s]; exact l2) (by rw [upR_s]; exact l3) m2.1 m2.2.1 (by omega)
          have ho : fX5_oneSign (upR s 12 F5) (48 : Int32) (9 : Int32) = _ := ho
          rw [ho, Option.bind_some, lt_e, up2_upRk, upR_s, upd_s]
          cases q5 : one b (nxS L b u) (nxE L b u) 48 9 with
          | none =>
            rw [if_pos (show oI none < (0 : Int32) from by decide), Option.bind_some, if_pos rfl]
            refine ⟨fun p h => ?_, fun _ _ _ _ _ _ _ _ h => (by cases h)⟩
            rw [← (Sum.inl.inj h : nxS L b u = p)]
            exact ⟨_, rfl, l1, l2⟩
          | some cp =>
            have hcp := (one_v _ _ _ q5).1
            have fin := C_link hB hT (upd F5 12 (nI cp)) (c := c) (w := w) (a := a) (cp := cp) (lst := nxS L b u) (e5 := nxE L b u) l1 l2 l3 m2.2.1 (by omega)
            rw [if_neg (show ¬ oI (some cp) < (0 : Int32) from nI_pos (by omega)), Option.bind_some, if_neg (show ¬ (1 : Int32) = 0 from by decide)]
            refine ⟨fun p h => ?_, fun c' w' a' cp' lk l t' u' h => ?_⟩
            · obtain ⟨F', r1, r2, r3⟩ := fin.1 p h
              have r1 : fX5_readLink (upR s 12 (upd F5 12 (oI (some cp)))) = _ := r1
              refine ⟨F', ?_, r2, r3⟩
              show (fX5_readLink (upR s 12 (upd F5 12 (oI (some cp))))).bind _ = _
              rw [r1, Option.bind_some, if_pos rfl]
            · obtain ⟨rfl, rfl, rfl, rfl, r5, r6, F', r7, r8, r9, r10, r11, r12, r13, r14, r15, r16⟩ := fin.2 c' w' a' cp' lk l t' u' h
              have r7 : fX5_readLink (upR s 12 (upd F5 12 (oI (some cp')))) = _ := r7
              refine ⟨by omega, by omega, z3, by omega, r5, r6, r13, r14, by omega, F', ?_, r8, r9, r10, ?_, ?_, ?_, ?_, ?_, ?_, r11, r12⟩
              · show (fX5_readLink (upR s 12 (upd F5 12 (oI (some cp'))))).bind _ = _
                rw [r7, Option.bind_some, if_neg (show ¬ (1 : Int32) = 0 from by decide)]
              · rw [r16 6 (by omega)]; exact l6
              · rw [r16 8 (by omega)]; exact l8
              · rw [r16 9 (by omega)]; exact l9
              · rw [r16 10 (by omega)]; exact l10
              · rw [r16 11 (by omega)]; exact l11
              · rw [r16 12 (by omega)]; rfl
        · rw [if_neg q4, if_neg q4, Option.bind_some, if_pos rfl]
          refine ⟨fun p h => ?_, fun _ _ _ _ _ _ _ _ h => (by cases h)⟩
          rw [← (Sum.inl.inj h : t = p)]
          exact ⟨_, rfl, k1, k2⟩
      · rw [if_neg q3, rdS_none q3, Bool.eq_false_iff.mpr q3, if_pos (show bi false = (0 : Int32) from rfl), Option.bind_some, if_pos rfl]
        refine ⟨fun p h => ?_, fun _ _ _ _ _ _ _ _ h => (by cases h)⟩
        rw [← (Sum.inl.inj h : nxS L b e2 = p)]
        exact ⟨_, rfl, j1, rfl⟩
