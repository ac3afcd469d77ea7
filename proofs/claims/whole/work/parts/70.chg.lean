/-! calls that change: put, out, pick, trade -/
theorem M_chgW (s : Mem) (g' : Nat → Int32) {fs u : Nat} (hfs : fs < 30) (hu : u ≤ 30) (e3 : s.1 19 2 = nI fs) (e4 : s.1 19 3 = nI u) : ∃ s2, fX7_changes (upR (upR s 23 (va_cpy (s.1 20) (s.1 23) 0 0 139)) 20 g') = some s2 ∧ ChM s s2 g' := by
  obtain ⟨s2, h1, h2, -, -⟩ := M_changes s (upR (upR s 23 (va_cpy (s.1 20) (s.1 23) 0 0 139)) 20 g') hfs hu e3 e4 (fun j hj => by rw [upR_1, if_neg (by omega), upR_s, pk_cpy_in (by omega) (by omega), show 0 + (j - 0) = j by omega]) (by rw [upR_1, if_neg (by omega), upR_1, if_neg (by omega)]) (by rw [upR_1, if_neg (by omega), upR_1, if_neg (by omega)]) (by rw [upR_1, if_neg (by omega), upR_1, if_neg (by omega)]) (by rw [upR_1, if_neg (by omega), upR_1, if_neg (by omega)]) (fun a _ => rfl) (fun a ha => by rw [upR_1, if_neg (by omega), upR_1, if_neg (by omega)])
  rw [upR_s] at h2
  exact ⟨s2, h1, h2⟩
theorem ok_chg {α : Type} {s s1 : Mem} {a : α} {f' g' : Nat → Int32} {X : Option (α × Mem)} {F : Mem → Option (α × Mem)} (hR : Rel s) (hX : X = some (a, s1)) (hC : ChC s s1 f') (hG : Gd f' g') (hF : ∀ s2, fX7_changes (upR (upR s1 23 (va_cpy (s1.1 20) (s1.1 23) 0 0 139)) 20 g') = some s2 → s2.1 20 = g' → F s1 = some (a, s2)) : OK2 X F := by
  obtain ⟨u, sl, fs, hu, hsl, hfs, -, -, e3, e4, -⟩ := hR.2.1
  have g19 : s1.1 19 = s.1 19 := hC.2.2.2 19 (by omega) (by omega) (by omega) (by omega)
  obtain ⟨s2, h1, h2⟩ := M_chgW s1 g' hfs hu (by rw [g19]; exact e3) (by rw [g19]; exact e4)
  exact ⟨a, s1, s2, hX, hF s2 h1 h2.1, Rel_step hR hC h2 hG⟩
/-- begun: what the class's memory is then -/
theorem C_beg {s : Mem} (hR : Rel s) : ∃ s1, fX6_begin s = some s1 ∧ (∀ f', ChC s (upR s1 2 f') f') ∧ s1.1 2 = s.1 2 ∧ s1.1 20 = s.1 20 ∧ s1.1 23 = s.1 23 ∧ ChC s s1 (s.1 2) ∧ ∀ a, a ≠ 3 → a ≠ 4 → s1.1 a = s.1 a := by
  obtain ⟨s1, h1, h2, h3⟩ := C_begin s hR.2.1
  exact ⟨s1, h1, fun f' => ChC_up f' h2, h3 2 (by omega) (by omega), h3 20 (by omega) (by omega), h3 23 (by omega) (by omega), h2, h3⟩
theorem as_puts (s1 : Mem) (g : Nat → Int32) {p c : Nat} (v : Int32) (hp : p < 6) (hc : c < 4) : fX7_puts (upR (upR s1 23 g) 20 (s1.1 20)) (nI p) (nI c) v = some (upR (upR s1 23 g) 20 (upd (s1.1 20) (100 + 7 * p + c) v)) := by
  rw [M_puts _ v hp hc, up2_R, upR_s, upR_R]
theorem aside_id (s1 : Mem) (g : Nat → Int32) : upR s1 23 g = upR (upR s1 23 g) 20 (s1.1 20) := by
  have := upR_id (upR s1 23 g) 20
  rw [upR_1, if_neg (by omega)] at this
  exact this.symm
theorem puts_up (s : Mem) (g : Nat → Int32) {p c : Nat} (v : Int32) (hp : p < 6) (hc : c < 4) : fX7_puts (upR s 20 g) (nI p) (nI c) v = some (upR s 20 (upd g (100 + 7 * p + c) v)) := by
  rw [M_puts _ v hp hc, up2_R, upR_s, upR_R]
theorem sits_up (s : Mem) (f : Nat → Int32) {p c : Nat} (v : Int32) (hp : p < 6) (hc : c < 4) : fX0_sitsNow (upR s 2 f) (nI p) (nI c) v = some (f (99 + 7 * p + c), upR s 2 (upd f (99 + 7 * p + c) v)) := by
  rw [C_sitsNow _ v hp hc, up2_R, upR_s, upR_R]
theorem call_out {s : Mem} (hR : Rel s) (x y : Int32) : OK2 (fX6_out s x y) (fun s1 => fX7_out s1 x y) := by
  obtain ⟨hS, n, hP⟩ := hR.1
  have hn := hP.1
  have m96 : ∀ s1 : Mem, (∀ a, a ≠ 18 → s1.1 a = s.1 a) → s1.1 20 96 = nI n := fun s1 h1 => by rw [h1 20 (by omega)]; exact hP.2.1
  cases e : inR x 0 ((n : Int) - 1)
  · refine fnd hR 0 (by omega) _ ?_ (fun s1 h1 _ => ?_)
    · unfold fX6_out gX6_out_15; rw [C_isPupil s x hn hP.2.2.1, e]; rfl
    · show fX7_out s1 x y = _
      unfold fX7_out gX7_out_15; rw [M_isPupil s1 x hn (m96 s1 h1), e]; rfl
  · cases e2 : inR y 0 3
    · refine fnd hR 0 (by omega) _ ?_ (fun s1 h1 _ => ?_)
      · unfold fX6_out gX6_out_15; rw [C_isPupil s x hn hP.2.2.1, e, C_isCourse, e2]; rfl
      · show fX7_out s1 x y = _
        unfold fX7_out gX7_out_15; rw [M_isPupil s1 x hn (m96 s1 h1), e, M_isCourse, e2]; rfl
    · obtain ⟨p, hp, rfl⟩ := isP_ex hn e
      obtain ⟨c, hc, rfl⟩ := inR_ex (h := 3) (by omega) e2
      have hb := BR_sits (Gd_BR hS hP) hp (c := c) (by omega)
      have hC := C_sits s (p := p) (c := c) (by omega) (by omega)
      rw [hb] at hC
      by_cases q : (0 : Int32) ≤ s.1 20 (100 + 7 * p + c)
      · obtain ⟨s1, b1, b2, b3, b4, b5, b6, -⟩ := C_beg hR
        have hsit := sits_up s1 (s.1 2) (p := p) (c := c) (-1) (by omega) (by omega)
        rw [← b3, upR_id, b3, hb] at hsit
        have hG := Gd_sits (v := -1) hS hP hp (show c < 4 by omega) (Or.inl rfl)
        refine ok_chg hR (a := s.1 20 (100 + 7 * p + c)) (s1 := upR s1 2 (upd (s.1 2) (99 + 7 * p + c) (-1))) ?_ (b2 _) ⟨hG.1, n, hG.2⟩ (fun s2 k1 k2 => ?_)
        · unfold fX6_out
          rw [C_isPupil s _ hn hP.2.2.1, e, C_isCourse, e2, Option.bind_some, bi_n0, if_pos rfl, Option.bind_some, bi_n0, if_pos rfl, hC, Option.bind_some, if_pos q, b1, Option.bind_some, hsit]
          rfl
        · have e20 : (upR s1 2 (upd (s.1 2) (99 + 7 * p + c) (-1))).1 20 = s.1 20 := by rw [upR_1, if_neg (by omega), b4]
          show fX7_out (upR s1 2 (upd (s.1 2) (99 + 7 * p + c) (-1))) (nI p) (nI c) = _
          unfold fX7_out
          rw [M_isPupil _ _ hn (by rw [e20]; exact hP.2.1), e, M_isCourse, e2, Option.bind_some, bi_n0, if_pos rfl, Option.bind_some, bi_n0, if_pos rfl, M_triple _ (by omega) (by omega), Option.bind_some, e20, if_pos q, M_aside, Option.bind_some, aside_id, as_puts _ _ _ (by omega) (by omega), Option.bind_some, e20]
          rw [e20] at k1
          rw [k1]
          rfl
      · refine fnd hR 3 (by omega) _ ?_ (fun s1 h1 _ => ?_)
        · unfold fX6_out; rw [C_isPupil s _ hn hP.2.2.1, e, C_isCourse, e2, Option.bind_some, bi_n0, if_pos rfl, Option.bind_some, bi_n0, if_pos rfl, hC, Option.bind_some, if_neg q]; rfl
        · show fX7_out s1 (nI p) (nI c) = _
          unfold fX7_out; rw [M_isPupil s1 _ hn (m96 s1 h1), e, M_isCourse, e2, Option.bind_some, bi_n0, if_pos rfl, Option.bind_some, bi_n0, if_pos rfl, M_triple _ (by omega) (by omega), Option.bind_some, h1 20 (by omega), if_neg q]; rfl
theorem call_put {s : Mem} (hR : Rel s) (x y z : Int32) : OK2 (fX6_put s x y z) (fun s1 => fX7_put s1 x y z) := by
  obtain ⟨hS, n, hP⟩ := hR.1
  have hn := hP.1
  have m96 : ∀ s1 : Mem, (∀ a, a ≠ 18 → s1.1 a = s.1 a) → s1.1 20 96 = nI n := fun s1 h1 => by rw [h1 20 (by omega)]; exact hP.2.1
  have out0 : ∀ s1 : Mem, (∀ a, a ≠ 18 → s1.1 a = s.1 a) → whyG (s1.1 20) n x y = 0 → fX7_put s1 x y z = (fX7_finds s1 (nI 0)).bind (fun y => some (y.1, y.2)) := by
    intro s1 h1 hw
    unfold fX7_put
    rw [mi_in z 0 7 (by decide) (by decide), Option.bind_some, bi_n0, M_whyNot s1 x y hn (m96 s1 h1), Option.bind_some, hw]
    cases inR z 0 7 <;> rfl
  cases e : inR x 0 ((n : Int) - 1)
  · refine fnd hR 0 (by omega) _ ?_ (fun s1 h1 _ => out0 s1 h1 (why_out1 e))
    unfold fX6_put gX6_put_27; rw [C_isPupil s x hn hP.2.2.1, e]; rfl
  · cases e2 : inR y 0 3
    · refine fnd hR 0 (by omega) _ ?_ (fun s1 h1 _ => out0 s1 h1 (why_out2 e2))
      unfold fX6_put gX6_put_27; rw [C_isPupil s x hn hP.2.2.1, e, C_isCourse, e2]; rfl
    · cases e3 : inR z 0 7
      · refine fnd hR 0 (by omega) _ ?_ (fun s1 h1 _ => ?_)
        · unfold fX6_put gX6_put_27; rw [C_isPupil s x hn hP.2.2.1, e, C_isCourse, e2, wi_in z 0 7 (by decide) (by decide), e3]; rfl
        · show fX7_put s1 x y z = _
          unfold fX7_put; rw [mi_in z 0 7 (by decide) (by decide), e3]; rfl
      · obtain ⟨p, hp, rfl⟩ := isP_ex hn e
        obtain ⟨c, hc, rfl⟩ := inR_ex (h := 3) (by omega) e2
        obtain ⟨t, ht, rfl⟩ := inR_ex (h := 7) (by omega) e3
        have hx : fX6_put s (nI p) (nI c) (nI t) = if wshG (s.1 20) p c = true then (if fitG (s.1 20) n p c t = false then (fX6_finding s (4 : Int32)).bind (fun y11 => some ((y11.1, y11.2))) else (fX6_begin s).bind (fun y9 => (fX0_sitsNow y9 (nI p) (nI c) (nI t)).bind (fun y10 => some ((y10.1, y10.2))))) else (fX6_finding s (3 : Int32)).bind (fun y13 => some ((y13.1, y13.2))) := by
          unfold fX6_put
          rw [C_isPupil s _ hn hP.2.2.1, e, C_isCourse, e2, wi_in _ 0 7 (by decide) (by decide), e3, Option.bind_some, bi_n0, if_pos rfl, Option.bind_some, bi_n0, if_pos rfl, Option.bind_some, bi_n0, if_pos rfl, C_wsh s hP hp, Option.bind_some, bi_n0, C_freeSet s (Gd_BR hS hP) (PG_okP hP) (SG_hrOK hS) hp (by omega) (fun k hk _ t ht => PG_snd hP k hk p hp t ht), Option.bind_some, C_crowded s (Gd_BR hS hP) (PG_okP hP) (by omega) (PG_snd hP c (by omega)), Option.bind_some, fit_set hS.1 (by omega)]
          simp only [lt, set_has (fitG (s.1 20) n p c) (show t < 8 by omega)]
        have hy : ∀ s1 : Mem, s1.1 20 = s.1 20 → fX7_put s1 (nI p) (nI c) (nI t) = if wshG (s.1 20) p c = true then (if fitG (s.1 20) n p c t = true then (fX7_laysAside s1).bind (fun y4 => (fX7_triple y4 (nI p) (nI c)).bind (fun y5 => (fX7_puts y4 (nI p) (nI c) (nI t)).bind (fun y6 => (fX7_changes y6).bind (fun y7 => some ((y5, y7)))))) else (fX7_finds s1 (4 : Int32)).bind (fun y8 => some ((y8.1, y8.2)))) else (fX7_finds s1 (3 : Int32)).bind (fun y10 => some ((y10.1, y10.2))) := by
          intro s1 e20
          unfold fX7_put
          rw [mi_in _ 0 7 (by decide) (by decide), e3, Option.bind_some, bi_n0, if_pos rfl, M_whyNot s1 _ _ hn (by rw [e20]; exact hP.2.1), Option.bind_some, whyG_in hn hp (by omega), M_isFit s1 hp (by omega) (by omega) (by rw [e20]; exact PG_okM hP), Option.bind_some, bi_n0, e20]
          cases wshG (s.1 20) p c <;> rfl
        cases e4 : wshG (s.1 20) p c
        · refine fnd hR 3 (by omega) _ ?_ (fun s1 h1 _ => ?_)
          · rw [hx, e4]; rfl
          · show fX7_put s1 (nI p) (nI c) (nI t) = _
            rw [hy s1 (h1 20 (by omega)), e4]; rfl
        · cases e5 : fitG (s.1 20) n p c t
          · refine fnd hR 4 (by omega) _ ?_ (fun s1 h1 _ => ?_)
            · rw [hx, e4, e5]; rfl
            · show fX7_put s1 (nI p) (nI c) (nI t) = _
              rw [hy s1 (h1 20 (by omega)), e4, e5]; rfl
          · have hb := BR_sits (Gd_BR hS hP) hp (c := c) (by omega)
            obtain ⟨s1, b1, b2, b3, b4, b5, b6, -⟩ := C_beg hR
            have hsit := sits_up s1 (s.1 2) (p := p) (c := c) (nI t) (by omega) (by omega)
            rw [← b3, upR_id, b3, hb] at hsit
            have hG := Gd_sits (v := nI t) hS hP hp (show c < 4 by omega) (Or.inr ⟨t, by omega, rfl, fit_law e5⟩)
            refine ok_chg hR (a := s.1 20 (100 + 7 * p + c)) (s1 := upR s1 2 (upd (s.1 2) (99 + 7 * p + c) (nI t))) ?_ (b2 _) ⟨hG.1, n, hG.2⟩ (fun s2 k1 k2 => ?_)
            · rw [hx, e4, e5, if_pos rfl, if_neg (by decide), b1, Option.bind_some, hsit]
              rfl
            · have e20 : (upR s1 2 (upd (s.1 2) (99 + 7 * p + c) (nI t))).1 20 = s.1 20 := by rw [upR_1, if_neg (by omega), b4]
              show fX7_put (upR s1 2 (upd (s.1 2) (99 + 7 * p + c) (nI t))) (nI p) (nI c) (nI t) = _
              rw [hy _ e20, e4, e5, if_pos rfl, if_pos rfl, M_aside, Option.bind_some, aside_id, as_puts _ _ _ (by omega) (by omega), M_triple _ (by omega) (by omega), Option.bind_some, Option.bind_some, upR_s, e20]
              rw [e20] at k1
              rw [k1]
              rfl
theorem call_pick {s : Mem} (hR : Rel s) (x y r : Int32) : OK2 (fX6_pick s x y r) (fun s1 => fX7_pick s1 x y r) := by
  obtain ⟨hS, n, hP⟩ := hR.1
  have hn := hP.1
  cases e : R_would x y r (s.1 20) n with
  | inr k =>
    refine fnd hR k.val k.isLt _ ?_ (fun s1 h1 _ => ?_)
    · unfold fX6_pick
      rw [C_choice s x y r hS hP, Option.bind_some, e, show encR (.inr k) = (-1 : Int32) - nI k.val from rfl, if_neg (enc_neg k), enc_inv k]
    · have e20 : s1.1 20 = s.1 20 := h1 20 (by omega)
      show fX7_pick s1 x y r = _
      unfold fX7_pick
      rw [M_whyNoPick (f := s.1 2) (n := n) s1 x y r (by rw [e20]; exact hS) (by rw [e20]; exact hP), Option.bind_some, e20, e, show whyR (.inr k) = nI k.val from rfl, if_neg (nI_pos (by omega))]
  | inl a =>
    obtain ⟨p, c, rr, t, hp, hc, hr, ht, rfl, rfl, rfl, rfl, h1, h2⟩ := would_inl hP.1 e
    obtain ⟨s1, b1, b2, b3, b4, b5, b6, -⟩ := C_beg hR
    have hsit := sits_up s1 (s.1 2) (p := p) (c := c) (nI t) (by omega) (by omega)
    rw [← b3, upR_id, b3] at hsit
    have hG := Gd_sits (v := nI t) hS hP hp hc (Or.inr ⟨t, by omega, rfl, fit_law h1⟩)
    refine ok_chg hR (a := nI t) (s1 := upR s1 2 (upd (s.1 2) (99 + 7 * p + c) (nI t))) ?_ (b2 _) ⟨hG.1, n, hG.2⟩ (fun s2 k1 k2 => ?_)
    · unfold fX6_pick
      rw [C_choice s _ _ _ hS hP, Option.bind_some, e, show encR (.inl (nI t)) = nI t from rfl, if_pos (nI_pos' (by omega)), b1, Option.bind_some, hsit]
      rfl
    · have e20 : (upR s1 2 (upd (s.1 2) (99 + 7 * p + c) (nI t))).1 20 = s.1 20 := by rw [upR_1, if_neg (by omega), b4]
      show fX7_pick (upR s1 2 (upd (s.1 2) (99 + 7 * p + c) (nI t))) (nI p) (nI c) (nI rr) = _
      unfold fX7_pick
      rw [M_whyNoPick (f := s.1 2) (n := n) _ _ _ _ (by rw [e20]; exact hS) (by rw [e20]; exact hP), Option.bind_some, e20, e, show whyR (.inl (nI t)) = -1 from rfl, if_pos (by decide), M_aside, Option.bind_some, aside_id, M_picked (f := s.1 2) (n := n) _ (by rw [upR_s, e20]; exact hS) (by rw [upR_s, e20]; exact hP) hp hc hr, Option.bind_some, upR_s, e20, h2, puts_up _ _ _ (by omega) hc, Option.bind_some]
      rw [e20] at k1
      rw [k1, Option.bind_some, M_triple _ (by omega) hc, k2, pk_us]
      rfl
/-- a clash seen by the class -/
theorem fre_law {g : Nat → Int32} {p c t : Nat} (h : lawG g c t = true) : freG g p c t = !clsG g p c t := by
  unfold freG; rw [h]; rfl
theorem sit_law {f g : Nat → Int32} {n p c : Nat} (hP : PG f g n) (hp : p < n) (hc : c < 4) (h : (0 : Int32) ≤ g (100 + 7 * p + c)) : ∃ t, t < 8 ∧ g (100 + 7 * p + c) = nI t ∧ lawG g c t = true := by
  rcases (hP.2.2.2.2 p hp).2.2.2 c hc with q | ⟨t, ht, q, hl⟩
  · rw [q] at h; exact absurd h (by decide)
  · exact ⟨t, ht, q, hl⟩
theorem call_trade {s : Mem} (hR : Rel s) (x y z : Int32) : OK2 (fX6_trade s x y z) (fun s1 => fX7_trade s1 x y z) := by
  obtain ⟨hS, n, hP⟩ := hR.1
  have hn := hP.1
  have m96 : ∀ s1 : Mem, (∀ a, a ≠ 18 → s1.1 a = s.1 a) → s1.1 20 96 = nI n := fun s1 h1 => by rw [h1 20 (by omega)]; exact hP.2.1
  cases e : inR x 0 ((n : Int) - 1)
  · refine fnd hR 0 (by omega) _ ?_ (fun s1 h1 _ => ?_)
    · unfold fX6_trade gX6_trade_28; rw [C_isPupil s x hn hP.2.2.1, e]; rfl
    · show fX7_trade s1 x y z = _
      unfold fX7_trade gX7_trade_28; rw [M_isPupil s1 x hn (m96 s1 h1), e]; rfl
  cases e2 : inR y 0 ((n : Int) - 1)
  · refine fnd hR 0 (by omega) _ ?_ (fun s1 h1 _ => ?_)
    · unfold fX6_trade gX6_trade_28; rw [C_isPupil s x hn hP.2.2.1, e, C_isPupil s y hn hP.2.2.1, e2]; rfl
    · show fX7_trade s1 x y z = _
      unfold fX7_trade gX7_trade_28; rw [M_isPupil s1 x hn (m96 s1 h1), e, M_isPupil s1 y hn (m96 s1 h1), e2]; rfl
  by_cases exy : x = y
  · refine fnd hR 0 (by omega) _ ?_ (fun s1 h1 _ => ?_)
    · unfold fX6_trade gX6_trade_28; rw [C_isPupil s x hn hP.2.2.1, e, C_isPupil s y hn hP.2.2.1, e2, Option.bind_some, bi_n0, if_pos rfl, Option.bind_some, bi_n0, if_pos rfl, if_pos exy]; rfl
    · show fX7_trade s1 x y z = _
      unfold fX7_trade gX7_trade_28; rw [M_isPupil s1 x hn (m96 s1 h1), e, M_isPupil s1 y hn (m96 s1 h1), e2, Option.bind_some, bi_n0, if_pos rfl, Option.bind_some, bi_n0, if_pos rfl, if_pos exy]; rfl
  cases e3 : inR z 0 3
  · refine fnd hR 0 (by omega) _ ?_ (fun s1 h1 _ => ?_)
    · unfold fX6_trade gX6_trade_28; rw [C_isPupil s x hn hP.2.2.1, e, C_isPupil s y hn hP.2.2.1, e2, Option.bind_some, bi_n0, if_pos rfl, Option.bind_some, bi_n0, if_pos rfl, if_neg exy, C_isCourse, e3]; rfl
    · show fX7_trade s1 x y z = _
      unfold fX7_trade gX7_trade_28; rw [M_isPupil s1 x hn (m96 s1 h1), e, M_isPupil s1 y hn (m96 s1 h1), e2, Option.bind_some, bi_n0, if_pos rfl, Option.bind_some, bi_n0, if_pos rfl, if_neg exy, M_isCourse, e3]; rfl
  obtain ⟨p, hp, rfl⟩ := isP_ex hn e
  obtain ⟨q, hq, rfl⟩ := isP_ex hn e2
  obtain ⟨c, hc, rfl⟩ := inR_ex (h := 3) (by omega) e3
  have hpq : p ≠ q := fun h => exy (by rw [h])
  have hbp := BR_sits (Gd_BR hS hP) hp (c := c) (by omega)
  have hbq := BR_sits (Gd_BR hS hP) hq (c := c) (by omega)
  have hCp := C_sits s (p := p) (c := c) (by omega) (by omega)
  have hCq := C_sits s (p := q) (c := c) (by omega) (by omega)
  rw [hbp] at hCp
  rw [hbq] at hCq
  have hx : fX6_trade s (nI p) (nI q) (nI c) = if s.1 20 (100 + 7 * p + c) < (0 : Int32) then gX6_trade_66 s else if (0 : Int32) ≤ s.1 20 (100 + 7 * q + c) then (if ((setG (freG (s.1 20) p c) 8 >>> (s.1 20 (100 + 7 * q + c) &&& 31)) &&& (1 : Int32)) = (0 : Int32) then gX6_trade_106 s else if ((setG (freG (s.1 20) q c) 8 >>> (s.1 20 (100 + 7 * p + c) &&& 31)) &&& (1 : Int32)) = (0 : Int32) then gX6_trade_106 s else (fX6_begin s).bind (fun y11 => (fX0_sitsNow y11 (nI p) (nI c) (s.1 20 (100 + 7 * q + c))).bind (fun y12 => (fX0_sitsNow y12.2 (nI q) (nI c) (s.1 20 (100 + 7 * p + c))).bind (fun y13 => some (((1 : Int32), y13.2)))))) else gX6_trade_66 s := by
    unfold fX6_trade
    rw [C_isPupil s _ hn hP.2.2.1, e, C_isPupil s _ hn hP.2.2.1, e2, Option.bind_some, bi_n0, if_pos rfl, Option.bind_some, bi_n0, if_pos rfl, if_neg exy, C_isCourse, e3, Option.bind_some, bi_n0, if_pos rfl, hCp, Option.bind_some, hCq, Option.bind_some, C_freeSet s (Gd_BR hS hP) (PG_okP hP) (SG_hrOK hS) hp (by omega) (fun k hk _ t ht => PG_snd hP k hk p hp t ht), Option.bind_some, C_freeSet s (Gd_BR hS hP) (PG_okP hP) (SG_hrOK hS) hq (by omega) (fun k hk _ t ht => PG_snd hP k hk q hq t ht), Option.bind_some]
  have hy : ∀ s1 : Mem, s1.1 20 = s.1 20 → fX7_trade s1 (nI p) (nI q) (nI c) = if s.1 20 (100 + 7 * p + c) < (0 : Int32) then gX7_trade_60 s1 else if (0 : Int32) ≤ s.1 20 (100 + 7 * q + c) then (fX7_clashes s1 (nI p) (nI c) (s.1 20 (100 + 7 * q + c))).bind (fun y8 => if y8 = (0 : Int32) then (fX7_clashes s1 (nI q) (nI c) (s.1 20 (100 + 7 * p + c))).bind (fun y10 => if y10 = (0 : Int32) then (fX7_laysAside s1).bind (fun y11 => (fX7_puts y11 (nI p) (nI c) (s.1 20 (100 + 7 * q + c))).bind (fun y12 => (fX7_puts y12 (nI q) (nI c) (s.1 20 (100 + 7 * p + c))).bind (fun y13 => (fX7_changes y13).bind (fun y14 => some (((1 : Int32), y14)))))) else gX7_trade_88 s1) else gX7_trade_88 s1) else gX7_trade_60 s1 := by
    intro s1 e20
    have k96 : s1.1 20 96 = nI n := by rw [e20]; exact hP.2.1
    unfold fX7_trade
    rw [M_isPupil s1 _ hn k96, e, M_isPupil s1 _ hn k96, e2, Option.bind_some, bi_n0, if_pos rfl, Option.bind_some, bi_n0, if_pos rfl, if_neg exy, M_isCourse, e3, Option.bind_some, bi_n0, if_pos rfl, M_triple _ (by omega) (by omega), Option.bind_some, M_triple _ (by omega) (by omega), Option.bind_some, e20]
  by_cases w1 : s.1 20 (100 + 7 * p + c) < 0
  · refine fnd hR 3 (by omega) _ ?_ (fun s1 h1 _ => ?_)
    · rw [hx, if_pos w1]; rfl
    · show fX7_trade s1 (nI p) (nI q) (nI c) = _
      rw [hy s1 (h1 20 (by omega)), if_pos w1]; rfl
  by_cases w2 : (0 : Int32) ≤ s.1 20 (100 + 7 * q + c)
  rotate_left
  · refine fnd hR 3 (by omega) _ ?_ (fun s1 h1 _ => ?_)
    · rw [hx, if_neg w1, if_neg w2]; rfl
    · show fX7_trade s1 (nI p) (nI q) (nI c) = _
      rw [hy s1 (h1 20 (by omega)), if_neg w1, if_neg w2]; rfl
  have w1' : (0 : Int32) ≤ s.1 20 (100 + 7 * p + c) := by rw [i32_le]; rw [i32_lt] at w1; exact Int.not_lt.mp w1
  obtain ⟨a, ha, ea, la⟩ := sit_law hP hp (show c < 4 by omega) w1'
  obtain ⟨b, hb, eb, lb⟩ := sit_law hP hq (show c < 4 by omega) w2
  have c1 : ∀ s1 : Mem, s1.1 20 = s.1 20 → fX7_clashes s1 (nI p) (nI c) (nI b) = some (bi (clsG (s.1 20) p c b)) := by
    intro s1 e20
    have := M_clashes s1 (n := n) hp (show c < 4 by omega) hb (by rw [e20]; exact PG_okM hP)
    rw [e20] at this; exact this
  have c2 : ∀ s1 : Mem, s1.1 20 = s.1 20 → fX7_clashes s1 (nI q) (nI c) (nI a) = some (bi (clsG (s.1 20) q c a)) := by
    intro s1 e20
    have := M_clashes s1 (n := n) hq (show c < 4 by omega) ha (by rw [e20]; exact PG_okM hP)
    rw [e20] at this; exact this
  rw [if_neg w1, if_pos w2] at hx
  simp only [if_neg w1, if_pos w2] at hy
  rw [ea, eb] at hx hy
  simp only [set_has (freG (s.1 20) p c) hb, set_has (freG (s.1 20) q c) ha, fre_law lb, fre_law la] at hx
  cases k1 : clsG (s.1 20) p c b
  rotate_left
  · refine fnd hR 4 (by omega) _ ?_ (fun s1 h1 _ => ?_)
    · rw [hx, k1]; rfl
    · show fX7_trade s1 (nI p) (nI q) (nI c) = _
      rw [hy s1 (h1 20 (by omega)), c1 s1 (h1 20 (by omega)), k1]; rfl
  cases k2 : clsG (s.1 20) q c a
  rotate_left
  · refine fnd hR 4 (by omega) _ ?_ (fun s1 h1 _ => ?_)
    · rw [hx, k1, k2]; rfl
    · show fX7_trade s1 (nI p) (nI q) (nI c) = _
      rw [hy s1 (h1 20 (by omega)), c1 s1 (h1 20 (by omega)), k1, Option.bind_some, bi_n0, if_neg (by decide), c2 s1 (h1 20 (by omega)), k2]; rfl
  obtain ⟨s1, b1, b2, b3, b4, b5, b6, -⟩ := C_beg hR
  have hsit := sits_up s1 (s.1 2) (p := p) (c := c) (nI b) (by omega) (by omega)
  rw [← b3, upR_id, b3] at hsit
  have hsit2 := sits_up s1 (upd (s.1 2) (99 + 7 * p + c) (nI b)) (p := q) (c := c) (nI a) (by omega) (by omega)
  have hG := Gd_sits (v := nI b) hS hP hp (show c < 4 by omega) (Or.inr ⟨b, hb, rfl, lb⟩)
  have hG2 := Gd_sits (v := nI a) hG.1 hG.2 hq (show c < 4 by omega) (Or.inr ⟨a, ha, rfl, by rw [law_cg (fun j hj => pk_un (by omega)) (by omega) ha]; exact la⟩)
  refine ok_chg hR (a := (1 : Int32)) (s1 := upR s1 2 (upd (upd (s.1 2) (99 + 7 * p + c) (nI b)) (99 + 7 * q + c) (nI a))) ?_ (b2 _) ⟨hG2.1, n, hG2.2⟩ (fun s2 k5 k6 => ?_)
  · rw [hx, k1, k2, if_neg (by decide), if_neg (by decide), b1, Option.bind_some, hsit, Option.bind_some]
    simp only
    rw [hsit2]
    rfl
  · have e20 : (upR s1 2 (upd (upd (s.1 2) (99 + 7 * p + c) (nI b)) (99 + 7 * q + c) (nI a))).1 20 = s.1 20 := by rw [upR_1, if_neg (by omega), b4]
    show fX7_trade (upR s1 2 (upd (upd (s.1 2) (99 + 7 * p + c) (nI b)) (99 + 7 * q + c) (nI a))) (nI p) (nI q) (nI c) = _
    rw [hy _ e20, c1 _ e20, k1, Option.bind_some, bi_n0, if_neg (by decide), c2 _ e20, k2, Option.bind_some, bi_n0, if_neg (by decide), M_aside, Option.bind_some, aside_id, puts_up _ _ _ (by omega) (by omega), Option.bind_some, puts_up _ _ _ (by omega) (by omega), Option.bind_some, e20]
    rw [e20] at k5
    rw [k5]
    rfl
