/-! text: a section's item, the class's -/
theorem C_link {L : Nat} {b : Nat → Nat} (hB : Bt L b) {s : Mem} (hT : TC L b s) (F : Nat → Int32) {c w a cp lst e5 : Nat} (h1 : F 1 = nI L) (h2 : F 2 = nI lst) (h3 : F 3 = nI e5) (he : e5 ≤ L) (hl : lst ≤ L) : (∀ p, pS3 L b c w a cp lst e5 = .inl p → ∃ F', fX5_readLink (upR s 12 F) = some (0, upR s 12 F') ∧ F' 1 = nI L ∧ F' 2 = nI p) ∧ (∀ c' w' a' cp' lk l' t u, pS3 L b c w a cp lst e5 = .inr (c', w', a', cp', lk, l', t, u) → c' = c ∧ w' = w ∧ a' = a ∧ cp' = cp ∧ (lk = -1 ∨ lk = 0 ∨ lk = 1) ∧ l' ≤ L ∧ ∃ F', fX5_readLink (upR s 12 F) = some (1, upR s 12 F') ∧ F' 1 = nI L ∧ F' 2 = nI t ∧ F' 3 = nI u ∧ F' 13 = lk ∧ F' 4 = nI l' ∧ t ≤ u ∧ u ≤ L ∧ e5 ≤ u ∧ ∀ j, (5 ≤ j ∧ j ≤ 12) → F' j = F j) := by
  have hL := hB.1
  have v1 := nxS_sp L b e5 he
  have v2 := nxE_sp L b e5 he
  have u1 := nxS_sp L b (nxE L b e5) v2.2.1
  have u2 := nxE_sp L b (nxE L b e5) v2.2.1
  have x1 := nxS_sp L b (nxE L b (nxE L b e5)) u2.2.1
  have x2 := nxE_sp L b (nxE L b (nxE L b e5)) u2.2.1
  unfold fX5_readLink pS3
  have e2 : (upR s 12 (upd F 13 (-1 : Int32))).1 12 2 = nI lst := by rw [upR_s]; exact h2
  rw [lt_e, up2_upRk, lt_e, up2_upRk, e2, C_next hB hT (upd (upd F 13 (-1 : Int32)) 4 (nI lst)) (e := e5) h1 h3 he, Option.bind_some]
  generalize hF : upd (upd (upd (upd F 13 (-1 : Int32)) 4 (nI lst)) 2 (nI (nxS L b e5))) 3 (nI (nxE L b e5)) = F1
  have g1 : F1 1 = nI L := by rw [← hF]; exact h1
  have g2 : F1 2 = nI (nxS L b e5) := by rw [← hF]; rfl
  have g3 : F1 3 = nI (nxE L b e5) := by rw [← hF]; rfl
  have g4 : F1 4 = nI lst := by rw [← hF]; rfl
  have g13 : F1 13 = -1 := by rw [← hF]; rfl
  have gj : ∀ j, (5 ≤ j ∧ j ≤ 12) → F1 j = F j := fun j hj => by rw [← hF, upd_n (by omega), upd_n (by omega), upd_n (by omega), upd_n (by omega)]
  rw [C_says hB (TC_R hT F1) (k := 12) (by omega) (by rw [upR_s]; exact g2) (by rw [upR_s]; exact g3) v2.1 v2.2.1, Option.bind_some, bi_n0]
  by_cases e1 : isW b 12 (nxS L b e5) (nxE L b e5) = true
  · rw [if_pos e1, if_pos e1, C_next hB hT F1 g1 g3 v2.2.1, Option.bind_some]
    generalize hF2 : upd (upd F1 2 (nI (nxS L b (nxE L b e5)))) 3 (nI (nxE L b (nxE L b e5))) = F2
    have k1 : F2 1 = nI L := by rw [← hF2]; exact g1
    have k2 : F2 2 = nI (nxS L b (nxE L b e5)) := by rw [← hF2]; rfl
    have k3 : F2 3 = nI (nxE L b (nxE L b e5)) := by rw [← hF2]; rfl
    have kj : ∀ j, (5 ≤ j ∧ j ≤ 12) → F2 j = F j := fun j hj => by rw [← hF2, upd_n (by omega), upd_n (by omega)]; exact gj j hj
    have ho := C_one hB (TC_R hT F2) (ba := 48) (mx := 1) (st := nxS L b (nxE L b e5)) (en := nxE L b (nxE L b e5)) (by rw [upR_s]; exact k2) (by rw [upR_s]; exact k3) u2.1 u2.2.1 (by omega)
    have ho : fX5_oneSign (upR s 12 F2) (48 : Int32) (1 : Int32) = _ := ho
    rw [ho, Option.bind_some, lt_e, up2_upRk, upR_s, upd_s]
    cases q : one b (nxS L b (nxE L b e5)) (nxE L b (nxE L b e5)) 48 1 with
    | none =>
      rw [if_neg (show ¬ (0 : Int32) ≤ oI none from by decide)]
      refine ⟨fun p h => ?_, fun _ _ _ _ _ _ _ _ h => (by cases h)⟩
      rw [← (Sum.inl.inj h : nxS L b (nxE L b e5) = p)]
      exact ⟨_, rfl, k1, k2⟩
    | some k =>
      have hk := (one_v _ _ _ q).1
      have e22 : upd F2 13 (oI (some k)) 2 = nI (nxS L b (nxE L b e5)) := k2
      rw [if_pos (show (0 : Int32) ≤ oI (some k) from Int32.not_lt.mp (nI_pos (by omega))), lt_e, up2_upRk, e22, C_next hB hT (upd (upd F2 13 (oI (some k))) 4 (nI (nxS L b (nxE L b e5)))) (e := nxE L b (nxE L b e5)) k1 k3 u2.2.1, Option.bind_some]
      refine ⟨fun p h => (by cases h), fun _ _ _ _ _ _ _ _ h => ?_⟩
      cases h
      refine ⟨rfl, rfl, rfl, rfl, ?_, by omega, _, rfl, k1, rfl, rfl, rfl, rfl, x2.1, x2.2.1, by omega, fun j hj => ?_⟩
      · have : k = 0 ∨ k = 1 := by omega
        rcases this with rfl | rfl
        · exact Or.inr (Or.inl rfl)
        · exact Or.inr (Or.inr rfl)
      · rw [upd_n (by omega), upd_n (by omega), upd_n (by omega), upd_n (by omega)]; exact kj j hj
  · rw [if_neg e1, if_neg e1]
    refine ⟨fun p h => (by cases h), fun _ _ _ _ _ _ _ _ h => ?_⟩
    cases h
    exact ⟨rfl, rfl, rfl, rfl, Or.inl rfl, by omega, F1, rfl, g1, g2, g3, g13, g4, v2.1, v2.2.1, by omega, gj⟩
theorem C_section {L : Nat} {b : Nat → Nat} (hB : Bt L b) {s : Mem} (hT : TC L b s) (F : Nat → Int32) {en : Nat} (so : Nat) (hso : so < 3) (h1 : F 1 = nI L) (h3 : F 3 = nI en) (he : en ≤ L) : (∀ p, pSec L b en = .inl p → ∃ F', gX5_readItem_100 (upR s 12 F) (nI so) = some (0, upR s 12 F') ∧ F' 1 = nI L ∧ F' 2 = nI p) ∧ (∀ c w a cp lk l t u, pSec L b en = .inr (c, w, a, cp, lk, l, t, u) → c < 4 ∧ w < 2 ∧ a < 2 ^ 20 ∧ cp ≤ 9 ∧ (lk = -1 ∨ lk = 0 ∨ lk = 1) ∧ l ≤ L ∧ t ≤ u ∧ u ≤ L ∧ en < u ∧ ∃ F', gX5_readItem_100 (upR s 12 F) (nI so) = some (1, upR s 12 F') ∧ F' 1 = nI L ∧ F' 2 = nI t ∧ F' 3 = nI u ∧ F' 6 = F 6 ∧ F' 8 = nI so ∧ F' 9 = nI c ∧ F' 10 = nI w ∧ F' 11 = nI a ∧ F' 12 = nI cp ∧ F' 13 = lk ∧ F' 4 = nI l) := by sorry
