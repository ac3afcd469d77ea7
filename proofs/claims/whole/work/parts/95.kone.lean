/-! text: one item, both sides -/
theorem upR_c {s : Mem} {a k : Nat} (h : a ≠ k) (f f' F : Nat → Int32) : upR (upR (upR s a f) k F) a f' = upR (upR s a f') k F := by
  unfold upR
  refine Prod.ext (funext fun j => ?_) rfl
  show (if j = a then f' else if j = k then F else if j = a then f else s.1 j) = if j = k then F else if j = a then f' else s.1 j
  by_cases e : j = a
  · subst e; rw [if_pos rfl, if_neg h, if_pos rfl]
  · rw [if_neg e, if_neg e, if_neg e]
theorem pSec_l {L : Nat} {b : Nat → Nat} {en p : Nat} (he : en ≤ L) (h : pSec L b en = .inl p) : p ≤ L := by
  have a1 := nxS_sp L b en he
  have a2 := nxE_sp L b en he
  unfold pSec at h
  split at h
  · have := Sum.inl.inj h; omega
  generalize nxE L b en = e1 at *
  have b1 := nxS_sp L b e1 a2.2.1
  have b2 := nxE_sp L b e1 a2.2.1
  unfold pS0 at h
  split at h
  · have := Sum.inl.inj h; omega
  generalize nxE L b e1 = e2 at *
  have d1 := nxS_sp L b e2 b2.2.1
  have d2 := nxE_sp L b e2 b2.2.1
  have z := rdS_inv (L := L) (b := b) (hou_v b) d2.1 d2.2.1
  unfold pS1 at h
  split at h
  · generalize rdS L b (hou b) (nxS L b e2) (nxE L b e2) = x at *
    have m1 := nxS_sp L b x.2.2 z.2.1
    have m2 := nxE_sp L b x.2.2 z.2.1
    have k1 := nxS_sp L b _ m2.2.1
    have k2 := nxE_sp L b _ m2.2.1
    have l1 := nxS_sp L b _ k2.2.1
    unfold pS2 at h
    split at h
    · split at h
      · have := Sum.inl.inj h; omega
      · unfold pS3 at h
        split at h
        · split at h
          · have := Sum.inl.inj h; omega
          · cases h
        · cases h
    · have := Sum.inl.inj h; omega
  · have := Sum.inl.inj h; omega
theorem isW_lt {b : Nat → Nat} {st en k : Nat} (hk : k < 14) (h : isW b k st en = true) : st < en := by
  have h1 := (of_decide_eq_true h).1
  have h2 := (wv_le k hk).1
  omega
theorem soI_lt {b : Nat → Nat} {st en so : Nat} (h : soI b st en = some so) : st < en := by
  unfold soI at h
  split at h
  · exact isW_lt (k := 8) (by omega) (by assumption)
  · split at h
    · exact isW_lt (k := 9) (by omega) (by assumption)
    · split at h
      · exact isW_lt (k := 10) (by omega) (by assumption)
      · cases h
def FailI (L : Nat) (sC sM : Mem) (G : Nat → Int32) (v : Int32) (mC mM : Mem) : Prop := ∃ (p : Nat) (f' F' : Nat → Int32), p ≤ L ∧ bX6_readAll_9 mC v = some (.inl (.inl ((-1 : Int32) - nI p, upR (upR sC 2 f') 12 F'))) ∧ F' 1 = nI L ∧ ∃ (g' G' : Nat → Int32), fX7_item mM = some (upR (upR sM 20 g') 19 G') ∧ G' 22 = nI p ∧ ∀ j, j ≠ 20 → j ≠ 21 → j ≠ 22 → G' j = G j
def GoodI (L st en : Nat) (sC sM : Mem) (G : Nat → Int32) (v : Int32) (mC mM : Mem) : Prop := ∃ (f' g' F' : Nat → Int32) (n' t u : Nat), bX6_readAll_9 mC v = gX6_readAll_156 (upR (upR sC 2 f') 12 F') v ∧ fX7_item mM = some (upR (upR sM 20 g') 19 (GG G t u)) ∧ SG f' g' ∧ PG f' g' n' ∧ F' 1 = nI L ∧ F' 2 = nI t ∧ F' 3 = nI u ∧ t ≤ u ∧ u ≤ L ∧ (t < u → en < u) ∧ st < en
theorem text_item {L : Nat} {b : Nat → Nat} (hB : Bt L b) {sC sM : Mem} (hTC : TC L b sC) (hTM : TM L b sM) {f g F G : Nat → Int32} {n st en v : Nat} (hS : SG f g) (hP : PG f g n) (hv : v ≤ 120) (f1 : F 1 = nI L) (f2 : F 2 = nI st) (f3 : F 3 = nI en) (g1 : G 19 = nI L) (g2 : G 20 = nI st) (g3 : G 21 = nI en) (g4 : G 22 = -1) (hs : st ≤ en) (he : en ≤ L) : FailI L sC sM G (nI v) (upR (upR sC 2 f) 12 F) (upR (upR sM 20 g) 19 G) ∨ GoodI L st en sC sM G (nI v) (upR (upR sC 2 f) 12 F) (upR (upR sM 20 g) 19 G) := by
  have hL := hB.1
  have hn := hP.1
  have hTC' : TC L b (upR sC 2 f) := fun i hi => by rw [upR_n (by omega)]; exact hTC i hi
  have hTM' : TM L b (upR sM 20 g) := fun i hi => by rw [upR_n (by omega)]; exact hTM i hi
  have e2 : ∀ F', (upR (upR sC 2 f) 12 F').1 2 = f := fun F' => by rw [upR_n (by omega), upR_s]
  have e20 : (upR sM 20 g).1 20 = g := upR_s
  have h96 : (upR sM 20 g).1 20 96 = nI n := by rw [e20]; exact hP.2.1
  have hb : bX6_readAll_9 (upR (upR sC 2 f) 12 F) (nI v) = if n < 6 then gX6_readAll_36 (upR (upR sC 2 f) 12 F) (nI v) (0 : Int32) else gX6_readAll_36 (upR (upR sC 2 f) 12 F) (nI v) (1 : Int32) := by
    unfold bX6_readAll_9
    rw [if_neg (show ¬ (120 : Int32) < nI v from by show ¬ nI 120 < nI v; rw [nI_ltI (by omega) (by omega)]; omega), C_pupils, Option.bind_some, e2, hP.2.2.1]
    by_cases e : n < 6
    · rw [if_pos e, if_pos (show nI n < (6 : Int32) from by show nI n < nI 6; rw [nI_ltI (by omega) (by omega)]; omega)]
    · rw [if_neg e, if_neg (show ¬ nI n < (6 : Int32) from by show ¬ nI n < nI 6; rw [nI_ltI (by omega) (by omega)]; omega)]
  -- the class's item fails at a place
  have failC : ∀ (x : Int32) (F' : Nat → Int32) (p : Nat), fX5_readItem (upR (upR sC 2 f) 12 F) x = some (0, upR (upR sC 2 f) 12 F') → F' 2 = nI p → gX6_readAll_36 (upR (upR sC 2 f) 12 F) (nI v) x = some (.inl (.inl ((-1 : Int32) - nI p, upR (upR sC 2 f) 12 F'))) := by
    intro x F' p h1 h2
    unfold gX6_readAll_36
    rw [h1, Option.bind_some, if_pos rfl]
    unfold fX5_place
    rw [upR_s, h2]; rfl
  by_cases hk : ∃ kd, kd < 6 ∧ isW b kd st en = true
  · obtain ⟨kd, hkd, hw⟩ := hk
    have hi : ∀ x, _ := fun x => C_itemK hB hTC' F x hkd hw f2 f3 hs he
    by_cases hn6 : n < 6
    · rw [if_pos hn6] at hb
      have hi0 := hi 0
      rw [if_pos rfl] at hi0
      have cp := C_readPupil hB hTC' (upd F 6 (nI kd)) (en := en) f1 f3 he
      have mp := M_pupilItem (st := st) hB hTM' G g1 g4 hn6 h96 g3 he (nI kd)
      have ok := pPup_ok (L := L) (b := b) (en := en) he
      cases q : pPup L b en with
      | inl p =>
        left
        obtain ⟨F', c1, c2, c3⟩ := cp.1 p q
        obtain ⟨t, u, m1⟩ := mp.1 p q
        rw [c1, Option.bind_some, if_pos rfl] at hi0
        refine ⟨p, f, F', ok.1 p q, by rw [hb]; exact failC 0 F' p hi0 c3, c2, g, _, M_itemK hB hTM' G hkd hw g1 g2 g3 g4 hs he _ m1, upd_s, fun j j1 j2 j3 => ?_⟩
        rw [upd_n j3, GG_j _ _ _ j1 j2]
      | inr x =>
        right
        obtain ⟨a, w, t, u⟩ := x
        obtain ⟨F', c1, c2, c3, c4, c5, c6, c7⟩ := cp.2 a w t u q
        have m1 := mp.2 a w t u q
        have ok2 := ok.2 a w t u q
        have hh := Gd_comes hS hP hn6 hkd (aw := nI a) (wi := w) ⟨a, ok2.2.2.1, rfl⟩ (by have := ok2.2.2.2.1; omega)
        rw [c1, Option.bind_some, if_neg (show ¬ (1 : Int32) = 0 from by decide)] at hi0
        have c5 : F' 6 = nI kd := c5
        rw [e20, upR_c (by omega)] at m1
        refine ⟨_, _, F', n + 1, t, u, ?_, M_itemK hB hTM' G hkd hw g1 g2 g3 g4 hs he _ m1, hh.1, hh.2, c2, c3, c4, ok2.1, ok2.2.1, pPup_adv he q, isW_lt (by omega) hw⟩
        rw [hb]
        unfold gX6_readAll_36
        rw [hi0, Option.bind_some, if_neg (show ¬ (1 : Int32) = 0 from by decide)]
        show (if (upR (upR sC 2 f) 12 F').1 12 6 < (0 : Int32) then _ else (fX0_comes (upR (upR sC 2 f) 12 F') ((upR (upR sC 2 f) 12 F').1 12 6) ((upR (upR sC 2 f) 12 F').1 12 11) ((upR (upR sC 2 f) 12 F').1 12 7)).bind _) = _
        rw [upR_s, c5, c6, c7, if_neg (nI_pos (by omega)), C_comes (upR (upR sC 2 f) 12 F') (nI kd) (nI a) (nI w) hn6 (by rw [e2]; exact hP.2.2.1), Option.bind_some, e2, upR_c (by omega)]
    · left
      have hn6' : n = 6 := by omega
      rw [if_neg hn6] at hb
      have hi1 := hi 1
      rw [if_neg (by decide)] at hi1
      have mf := M_pupilFull (s := upR sM 20 g) G g4 (st := st) (by omega) (by rw [h96, hn6']) g2 (nI kd)
      refine ⟨st, f, upd F 6 (nI kd), by omega, by rw [hb]; exact failC 1 (upd F 6 (nI kd)) st hi1 f2, f1, g, _, M_itemK hB hTM' G hkd hw g1 g2 g3 g4 hs he _ mf, upd_s, fun j j1 j2 j3 => upd_n j3⟩
  · have hw : ∀ k, k < 6 → ¬ isW b k st en = true := fun k h1 h2 => hk ⟨k, h1, h2⟩
    obtain ⟨x, hb⟩ : ∃ x, bX6_readAll_9 (upR (upR sC 2 f) 12 F) (nI v) = gX6_readAll_36 (upR (upR sC 2 f) 12 F) (nI v) x := by
      by_cases e : n < 6
      · exact ⟨0, by rw [hb, if_pos e]⟩
      · exact ⟨1, by rw [hb, if_neg e]⟩
    have hi := C_itemS hB hTC' F x hw f2 f3 hs he
    have hm := M_itemS hB hTM' G hw g1 g2 g3 g4 hs he
    have hsl : ∀ so, soI b st en = some so → so < 3 := by
      intro so h
      unfold soI at h
      split at h
      · have := Option.some.inj h; omega
      · split at h
        · have := Option.some.inj h; omega
        · split at h
          · have := Option.some.inj h; omega
          · cases h
    cases qs : soI b st en with
    | none =>
      left
      rw [qs] at hi hm
      have hi : fX5_readItem (upR (upR sC 2 f) 12 F) x = some (0, upR (upR sC 2 f) 12 (upd (upd F 6 (-1 : Int32)) 8 (-1 : Int32))) := by
        rw [hi]
        unfold gX5_readItem_100
        rw [lt_e, up2_upRk, upR_s, upd_s, if_pos (show oI none < (0 : Int32) from by decide)]; rfl
      have hm : fX7_item (upR (upR sM 20 g) 19 G) = some (upR (upR sM 20 g) 19 (upd G 22 (nI st))) := by
        rw [hm]
        unfold gX7_item_77 gX7_item_88
        rw [if_pos (show oI none < (0 : Int32) from by decide), M_mustF G g2 g4, Option.bind_some, if_pos (show oI none < (0 : Int32) from by decide)]
      exact ⟨st, f, upd (upd F 6 (-1 : Int32)) 8 (-1 : Int32), by omega, by rw [hb]; exact failC x _ st hi f2, f1, g, _, hm, upd_s, fun j j1 j2 j3 => upd_n j3⟩
    | some so =>
      have hso := hsl so qs
      rw [qs] at hi hm
      have cs := C_section hB hTC' (upd F 6 (-1 : Int32)) (en := en) so hso f1 f3 he
      have ms := M_section hB hTM' G g1 g4 (en := en) so g3 he
      have hm : fX7_item (upR (upR sM 20 g) 19 G) = (fX7_sectionItem (upR (upR sM 20 g) 19 G) (nI so)).bind (fun y14 => some y14) := by
        rw [hm]
        unfold gX7_item_77 gX7_item_88
        have hp : ¬ oI (some so) < (0 : Int32) := nI_pos (by omega)
        rw [if_neg hp, M_mustT G g4, Option.bind_some, if_neg hp]; rfl
      have hi : fX5_readItem (upR (upR sC 2 f) 12 F) x = gX5_readItem_100 (upR (upR sC 2 f) 12 (upd F 6 (-1 : Int32))) (nI so) := hi
      cases q : pSec L b en with
      | inl p =>
        left
        obtain ⟨F', c1, c2, c3⟩ := cs.1 p q
        obtain ⟨t, u, m1⟩ := ms.1 p q
        rw [c1] at hi
        rw [m1, Option.bind_some] at hm
        have hpL : p ≤ L := pSec_l he q
        refine ⟨p, f, F', hpL, by rw [hb]; exact failC x F' p hi c3, c2, g, _, hm, upd_s, fun j j1 j2 j3 => ?_⟩
        rw [upd_n j3, GG_j _ _ _ j1 j2]
      | inr y =>
        obtain ⟨c, w, a, cp, lk, l, t, u⟩ := y
        obtain ⟨hc, hw2, ha, hcp, hlk, hl, htu, huL, henu, F', c1, c2, c3, c4, c5, c6, c7, c8, c9, c10, c11, c12⟩ := cs.2 c w a cp lk l t u q
        have m1 := ms.2 c w a cp lk l t u q
        rw [c1] at hi
        have c5 : F' 6 = -1 := c5
        obtain ⟨f', o1, o2, o3⟩ := C_opens (upR (upR sC 2 f) 12 F') (g := g) (n := n) (a := c) (b := so) (d := w) (cp := cp) (tm := nI a) (lk := lk) (by rw [e2]; exact hS) (by rw [e2]; exact hP) hc hso hw2 ⟨a, ha, rfl⟩ hcp hlk
        have e20' : (upR (upR sM 20 g) 19 (GG G t u)).1 20 = g := by rw [upR_n (by omega)]; exact e20
        have mo := M_opens (upR (upR sM 20 g) 19 (GG G t u)) (f := f) (n := n) (a := c) (b := so) (d := w) (cp := cp) (tm := nI a) (lk := lk) (by rw [e20']; exact hS) (by rw [e20']; exact hP) hc hso hw2 ⟨a, ha, rfl⟩ hcp hlk
        rw [e20'] at mo
        have h22 : (upR (upR sM 20 g) 19 (GG G t u)).1 19 22 = -1 := by rw [upR_s]; exact GG_22 G _ _ g4
        unfold gX7_sectionItem_93 at m1
        rw [h22, if_neg (by decide), mo, Option.bind_some] at m1
        have hb2 : bX6_readAll_9 (upR (upR sC 2 f) 12 F) (nI v) = (fX0_opens (upR (upR sC 2 f) 12 F') (nI c) (nI so) (nI w) (nI a) (nI cp) lk).bind (fun y4 => if y4.1 = (0 : Int32) then (fX5_lastPlace y4.2).bind (fun y11 => some (Sum.inl (Sum.inl (((-1 : Int32) - y11, y4.2))))) else gX6_readAll_156 y4.2 (nI v)) := by
          rw [hb]
          unfold gX6_readAll_36
          rw [hi, Option.bind_some, if_neg (show ¬ (1 : Int32) = 0 from by decide)]
          show (if (upR (upR sC 2 f) 12 F').1 12 6 < (0 : Int32) then (fX0_opens (upR (upR sC 2 f) 12 F') ((upR (upR sC 2 f) 12 F').1 12 9) ((upR (upR sC 2 f) 12 F').1 12 8) ((upR (upR sC 2 f) 12 F').1 12 10) ((upR (upR sC 2 f) 12 F').1 12 11) ((upR (upR sC 2 f) 12 F').1 12 12) ((upR (upR sC 2 f) 12 F').1 12 13)).bind _ else _) = _
          rw [upR_s, c5, c6, c7, c8, c9, c10, c11, if_pos (by decide)]
        rw [o1, Option.bind_some, upR_c (by omega)] at hb2
        by_cases e5 : okO (opU g (24 * c + 8 * so + 4 * w) 1 (nI a) (nI cp) lk) n c = true
        · right
          rw [e5] at hb2 m1
          rw [if_neg (show ¬ bi true = (0 : Int32) from by decide)] at hb2 m1
          rw [if_pos rfl, upR_c (by omega)] at m1
          rw [m1, Option.bind_some] at hm
          exact ⟨f', _, F', n, t, u, hb2, hm, o2, PW_PG o3 hc (W1_law (okO_of e5).1), c2, c3, c4, htu, huL, fun _ => henu, soI_lt qs⟩
        · left
          rw [Bool.eq_false_iff.mpr e5] at hb2 m1
          rw [if_pos (show bi false = (0 : Int32) from rfl)] at hb2 m1
          rw [if_neg (show ¬ false = true from by decide), lt_e, up2_upRk] at m1
          rw [m1, Option.bind_some] at hm
          have hb3 : bX6_readAll_9 (upR (upR sC 2 f) 12 F) (nI v) = some (Sum.inl (Sum.inl ((-1 : Int32) - nI l, upR (upR sC 2 f') 12 F'))) := by
            rw [hb2]
            unfold fX5_lastPlace
            rw [upR_s, c12]; rfl
          refine ⟨l, f', F', hl, hb3, c2, g, _, hm, upd_s, fun j j1 j2 j3 => ?_⟩
          rw [upd_n j3, GG_j _ _ _ j1 j2]
