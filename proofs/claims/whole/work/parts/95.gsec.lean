/-! text: a section's item -/
abbrev SecR := Nat × Nat × Nat × Nat × Int32 × Nat × Nat × Nat
def pS3 (L : Nat) (b : Nat → Nat) (c w a cp lst e5 : Nat) : Nat ⊕ SecR := if isW b 12 (nxS L b e5) (nxE L b e5) = true then (match one b (nxS L b (nxE L b e5)) (nxE L b (nxE L b e5)) 48 1 with
    | none => .inl (nxS L b (nxE L b e5))
    | some k => .inr (c, w, a, cp, nI k, nxS L b (nxE L b e5), nxS L b (nxE L b (nxE L b e5)), nxE L b (nxE L b (nxE L b e5)))) else .inr (c, w, a, cp, -1, lst, nxS L b e5, nxE L b e5)
def pS2 (L : Nat) (b : Nat → Nat) (c w a t u : Nat) : Nat ⊕ SecR := if isW b 11 t u = true then (match one b (nxS L b u) (nxE L b u) 48 9 with
    | none => .inl (nxS L b u)
    | some cp => pS3 L b c w a cp (nxS L b u) (nxE L b u)) else .inl t
def pS1 (L : Nat) (b : Nat → Nat) (c w e2 : Nat) : Nat ⊕ SecR := if (hou b (nxS L b e2) (nxE L b e2)).isSome = true then pS2 L b c w (rdS L b (hou b) (nxS L b e2) (nxE L b e2)).1 (rdS L b (hou b) (nxS L b e2) (nxE L b e2)).2.1 (rdS L b (hou b) (nxS L b e2) (nxE L b e2)).2.2 else .inl (nxS L b e2)
def pS0 (L : Nat) (b : Nat → Nat) (c e1 : Nat) : Nat ⊕ SecR := match one b (nxS L b e1) (nxE L b e1) 48 1 with
  | none => .inl (nxS L b e1)
  | some w => pS1 L b c w (nxE L b e1)
def pSec (L : Nat) (b : Nat → Nat) (en : Nat) : Nat ⊕ SecR := match one3 b (nxS L b en) (nxE L b en) with
  | none => .inl (nxS L b en)
  | some c => pS0 L b c (nxE L b en)
theorem M_number {L : Nat} {b : Nat → Nat} (hB : Bt L b) {s : Mem} (hT : TM L b s) (G : Nat → Int32) (h1 : G 19 = nI L) (h4 : G 22 = -1) {st en m : Nat} (hm : m ≤ 9) (h2 : G 20 = nI st) (h3 : G 21 = nI en) (hs : st ≤ en) (he : en ≤ L) : (one b st en 48 m = none → fX7_number (upR s 19 G) (nI m) = some (-1, upR s 19 (upd G 22 (nI st)))) ∧ (∀ v, one b st en 48 m = some v → fX7_number (upR s 19 G) (nI m) = some (nI v, upR s 19 (GG G (nxS L b en) (nxE L b en)))) := by
  have hL := hB.1
  unfold fX7_number
  rw [M_numberHere hB (TM_R hT G) (m := m) (by omega) (by rw [upR_s]; exact h2) (by rw [upR_s]; exact h3) (by rw [upR_s]; exact h4) hs he, nu_one hm, Option.bind_some]
  unfold gX7_number_16
  refine ⟨fun h => ?_, fun v h => ?_⟩
  · rw [h, if_pos (show oI none < (0 : Int32) from by decide), M_mustF G h2 h4, Option.bind_some, fz_goesOn (fz_up (by omega))]; rfl
  · have hv := (one_v st en v h).1
    rw [h, if_neg (show ¬ oI (some v) < (0 : Int32) from nI_pos (by omega)), M_mustT G h4, Option.bind_some, M_next hB hT G h1 h3 h4 he]; rfl
theorem fz_93 {s : Mem} (h : fz s) (a b c d e f g : Int32) : gX7_sectionItem_93 s a b c d e f g = some s := by
  unfold gX7_sectionItem_93
  exact if_pos h
/-- the reference, from the word with a number of places on -/
theorem M_s3 {L : Nat} {b : Nat → Nat} (hB : Bt L b) {s : Mem} (hT : TM L b s) (G : Nat → Int32) (h1 : G 19 = nI L) (h4 : G 22 = -1) {e5 cp : Nat} (so c w a lst : Nat) (h2 : G 20 = nI (nxS L b e5)) (h3 : G 21 = nI (nxE L b e5)) (he : e5 ≤ L) (R : Option Mem) (hR : R = (fX7_takes (upR s 19 G) 26).bind (fun y12 => if y12.1 = (0 : Int32) then gX7_sectionItem_93 y12.2 (nI so) (nI c) (nI w) (nI a) (nI lst) (nI cp) (-1 : Int32) else lt (y12.2.1 19 20) (fun x17 => (fX7_number y12.2 (1 : Int32)).bind (fun y18 => gX7_sectionItem_93 y18.2 (nI so) (nI c) (nI w) (nI a) x17 (nI cp) y18.1)))) : (∀ p, pS3 L b c w a cp lst e5 = .inl p → ∃ t u, R = some (upR s 19 (upd (GG G t u) 22 (nI p)))) ∧ (∀ c' w' a' cp' lk l' t u, pS3 L b c w a cp lst e5 = .inr (c', w', a', cp', lk, l', t, u) → R = gX7_sectionItem_93 (upR s 19 (GG G t u)) (nI so) (nI c') (nI w') (nI a') (nI l') (nI cp') lk) := by
  have hL := hB.1
  have v1 := nxS_sp L b e5 he
  have v2 := nxE_sp L b e5 he
  have e := M_takes hB hT G h1 h4 (k := 12) (by omega) h2 h3 v2.1 v2.2.1
  have e : fX7_takes (upR s 19 G) 26 = _ := e
  rw [e, Option.bind_some] at hR
  unfold pS3
  by_cases e1 : isW b 12 (nxS L b e5) (nxE L b e5) = true
  · rw [if_pos e1] at hR ⊢
    have u1 := nxS_sp L b (nxE L b e5) v2.2.1
    have u2 := nxE_sp L b (nxE L b e5) v2.2.1
    have hR : R = if (1 : Int32) = 0 then gX7_sectionItem_93 (upR s 19 (GG G (nxS L b (nxE L b e5)) (nxE L b (nxE L b e5)))) (nI so) (nI c) (nI w) (nI a) (nI lst) (nI cp) (-1 : Int32) else lt (nI (nxS L b (nxE L b e5))) (fun x17 => (fX7_number (upR s 19 (GG G (nxS L b (nxE L b e5)) (nxE L b (nxE L b e5)))) (1 : Int32)).bind (fun y18 => gX7_sectionItem_93 y18.2 (nI so) (nI c) (nI w) (nI a) x17 (nI cp) y18.1)) := hR
    have hn := M_number hB hT (GG G (nxS L b (nxE L b e5)) (nxE L b (nxE L b e5))) (GG_19 G _ _ h1) (GG_22 G _ _ h4) (m := 1) (by omega) (st := nxS L b (nxE L b e5)) (en := nxE L b (nxE L b e5)) rfl rfl u2.1 u2.2.1
    have hn : (_ → fX7_number (upR s 19 (GG G (nxS L b (nxE L b e5)) (nxE L b (nxE L b e5)))) (1 : Int32) = _) ∧ (∀ v, _ → fX7_number (upR s 19 (GG G (nxS L b (nxE L b e5)) (nxE L b (nxE L b e5)))) (1 : Int32) = _) := hn
    rw [if_neg (show ¬ (1 : Int32) = 0 from by decide), lt_e] at hR
    cases q : one b (nxS L b (nxE L b e5)) (nxE L b (nxE L b e5)) 48 1 with
    | none =>
      rw [hn.1 q, Option.bind_some] at hR
      refine ⟨fun p h => ?_, fun _ _ _ _ _ _ _ _ h => (by cases h)⟩
      rw [← (Sum.inl.inj h : nxS L b (nxE L b e5) = p), hR]
      exact ⟨_, _, fz_93 (fz_up (by omega)) _ _ _ _ _ _ _⟩
    | some k =>
      rw [hn.2 k q, Option.bind_some, GG_G] at hR
      refine ⟨fun p h => (by cases h), fun _ _ _ _ _ _ _ _ h => ?_⟩
      cases h
      exact hR
  · rw [if_neg e1] at hR ⊢
    have hR : R = if (0 : Int32) = 0 then gX7_sectionItem_93 (upR s 19 G) (nI so) (nI c) (nI w) (nI a) (nI lst) (nI cp) (-1 : Int32) else _ := hR
    rw [if_pos rfl] at hR
    refine ⟨fun p h => (by cases h), fun _ _ _ _ _ _ _ _ h => ?_⟩
    cases h
    rw [GG_0 G h2 h3]
    exact hR
