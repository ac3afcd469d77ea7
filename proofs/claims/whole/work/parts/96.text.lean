/-! text: the call -/
theorem Rel_txt {s s2 : Mem} {r2 : Nat → Int32} (hR : Rel s) (h2 : ∀ j, j < 171 → s2.1 2 j = s.1 2 j) (h20 : ∀ j, j < 139 → s2.1 20 j = s.1 20 j) (h4 : ∀ sl, sl < 31 → s.1 3 1 = nI sl → s2.1 4 = va_cpy r2 (s.1 4) 0 (sl * 171) 171) (h12 : s2.1 12 1 = nI 0) (h119 : s2.1 19 19 = nI 0) (h19 : ∀ j, j = 2 ∨ j = 3 ∨ j = 4 → s2.1 19 j = s.1 19 j) (hr : ∀ a, a ≠ 2 → a ≠ 4 → a ≠ 12 → a ≠ 19 → a ≠ 20 → a ≠ 23 → s2.1 a = s.1 a) (hl : s2.2 = s.2) : Rel s2 := by
  obtain ⟨r1, ⟨u, sl, fs, hu, hsl, hfs, e1, e2, e3, e4, hk⟩, r3, r4, r5, r6⟩ := hR
  have rr : ∀ a, a ≠ 2 → a ≠ 4 → a ≠ 12 → a ≠ 19 → a ≠ 20 → a ≠ 23 → s2.1 a = s.1 a := hr
  refine ⟨Gd_cg r1 h2 h20, ?_, ?_, ?_, ⟨0, by omega, h12, h119, fun i hi => absurd hi (by omega)⟩, ?_⟩
  · refine ⟨u, sl, fs, hu, hsl, hfs, by rw [rr 3 (by omega) (by omega) (by omega) (by omega) (by omega) (by omega)]; exact e1, by rw [rr 3 (by omega) (by omega) (by omega) (by omega) (by omega) (by omega)]; exact e2, by rw [h19 2 (by omega)]; exact e3, by rw [h19 3 (by omega)]; exact e4, fun i hi => ?_⟩
    rw [rr (37 + (fs + i) % 30) (by omega) (by omega) (by omega) (by omega) (by omega) (by omega), h4 sl hsl e1]
    refine Gd_cg (hk i hi) (fun j hj => ?_) (fun j _ => rfl)
    unfold cutF
    exact pk_cpy_out (by omega)
  · intro j hj
    rw [rr 18 (by omega) (by omega) (by omega) (by omega) (by omega) (by omega), rr 22 (by omega) (by omega) (by omega) (by omega) (by omega) (by omega)]; exact r3 j hj
  · rw [rr 0 (by omega) (by omega) (by omega) (by omega) (by omega) (by omega), h19 4 (by omega)]; exact r4
  · intro k hk'
    obtain ⟨q1, q2, q3, q4, q5⟩ := r6 k hk'
    rw [rr 16 (by omega) (by omega) (by omega) (by omega) (by omega) (by omega), rr 17 (by omega) (by omega) (by omega) (by omega) (by omega) (by omega), rr 29 (by omega) (by omega) (by omega) (by omega) (by omega) (by omega), rr 30 (by omega) (by omega) (by omega) (by omega) (by omega) (by omega), hl]
    exact ⟨q1, q2, q3, q4, q5⟩
/-- both read the tape from its beginning to its end -/
theorem text_two {L : Nat} {b : Nat → Nat} (hB : Bt L b) {sC sM : Mem} (hTC : TC L b sC) (hTM : TM L b sM) {n : Nat} (hS : SG (sC.1 2) (sM.1 20)) (hP : PG (sC.1 2) (sM.1 20) n) (h1 : sC.1 12 1 = nI L) (h2 : sM.1 19 19 = nI L) : ∃ r r', fX6_readAll sC = some r ∧ (∃ y y', fX7_goesOn (upR sM 19 (upd (upd (sM.1 19) 22 (-1)) 21 0)) = some y ∧ fX7_item y = some y' ∧ lp (α := Int32 × Mem) (β := Int32 × Mem) (fun a => bX7_text_24 a.2 a.1) 600 ((1 : Int32), y') = some r') ∧ TOut L sC sM (sM.1 19) r r' := by
  have hL := hB.1
  have w1 := nxS_sp L b 0 (by omega)
  have w2 := nxE_sp L b 0 (by omega)
  have c := C_next hB hTC (upd (sC.1 12) 3 (nI 0)) (e := 0) (by rw [upd_n (by omega)]; exact h1) upd_s (by omega)
  have m := M_next hB hTM (upd (upd (sM.1 19) 22 (-1)) 21 (nI 0)) (e := 0) (by rw [upd_n (by omega), upd_n (by omega)]; exact h2) upd_s (by rw [upd_n (by omega), upd_s]) (by omega)
  have hF1 : upd (upd (upd (sC.1 12) 3 (nI 0)) 2 (nI (nxS L b 0))) 3 (nI (nxE L b 0)) 1 = nI L := by rw [upd_n (by omega), upd_n (by omega), upd_n (by omega)]; exact h1
  have hF2 : upd (upd (upd (sC.1 12) 3 (nI 0)) 2 (nI (nxS L b 0))) 3 (nI (nxE L b 0)) 2 = nI (nxS L b 0) := by rw [upd_n (by omega), upd_s]
  have hG1 : upd (upd (upd (upd (sM.1 19) 22 (-1)) 21 (nI 0)) 20 (nI (nxS L b 0))) 21 (nI (nxE L b 0)) 19 = nI L := by rw [upd_n (by omega), upd_n (by omega), upd_n (by omega), upd_n (by omega)]; exact h2
  have hG2 : upd (upd (upd (upd (sM.1 19) 22 (-1)) 21 (nI 0)) 20 (nI (nxS L b 0))) 21 (nI (nxE L b 0)) 20 = nI (nxS L b 0) := by rw [upd_n (by omega), upd_s]
  have hG4 : upd (upd (upd (upd (sM.1 19) 22 (-1)) 21 (nI 0)) 20 (nI (nxS L b 0))) 21 (nI (nxE L b 0)) 22 = -1 := by rw [upd_n (by omega), upd_n (by omega), upd_n (by omega), upd_s]
  have hGj : ∀ j, j ≠ 20 → j ≠ 21 → j ≠ 22 → upd (upd (upd (upd (sM.1 19) 22 (-1)) 21 (nI 0)) 20 (nI (nxS L b 0))) 21 (nI (nxE L b 0)) j = sM.1 19 j := fun j j1 j2 j3 => by rw [upd_n j2, upd_n j1, upd_n j2, upd_n j3]
  have hF3 : upd (upd (upd (sC.1 12) 3 (nI 0)) 2 (nI (nxS L b 0))) 3 (nI (nxE L b 0)) 3 = nI (nxE L b 0) := upd_s
  have hG3 : upd (upd (upd (upd (sM.1 19) 22 (-1)) 21 (nI 0)) 20 (nI (nxS L b 0))) 21 (nI (nxE L b 0)) 21 = nI (nxE L b 0) := upd_s
  generalize upd (upd (upd (sC.1 12) 3 (nI 0)) 2 (nI (nxS L b 0))) 3 (nI (nxE L b 0)) = F at *
  generalize upd (upd (upd (upd (sM.1 19) 22 (-1)) 21 (nI 0)) 20 (nI (nxS L b 0))) 21 (nI (nxE L b 0)) = G at *
  obtain ⟨r, r', i1, i2, f', g', F', G', i3, i4, i5, i6, i7⟩ := text_loop hB hTC hTM L (sC.1 2) (sM.1 20) F G n (nxS L b 0) (nxE L b 0) 1 600 600 (by omega) (by omega) (by omega) hS hP (by omega) (by omega) (by omega) hF1 hF2 hF3 hG1 hG2 hG3 hG4 w2.1 w2.2.1
  rw [upR_id, show nI 1 = (1 : Int32) from rfl] at i1
  rw [upR_id, show nI 1 = (1 : Int32) from rfl] at i2
  rw [show nI 0 = (0 : Int32) from rfl] at c m
  refine ⟨r, r', ?_, ?_, f', g', F', G', i3, i4, i5, fun j j1 j2 j3 => by rw [i6 j j1 j2 j3, hGj j j1 j2 j3], i7⟩
  · unfold fX6_readAll fX5_rewind
    rw [lt_e, up2_R, c, Option.bind_some, Option.bind_some, i1, Option.bind_some, Sum.elim_inl]
  · cases q : fX7_item (upR sM 19 G) with
    | none => rw [q] at i2; cases i2
    | some y' =>
      rw [q, Option.bind_some] at i2
      exact ⟨_, y', m, q, i2⟩
theorem M_endB {s : Mem} (g G : Nat → Int32) {L p : Nat} (v : Int32) (hL : L ≤ 120) (hp : p ≤ L) (h1 : G 19 = nI L) (h : G 22 = nI p ∨ (G 22 = -1 ∧ G 20 = nI p ∧ p ≠ L)) : ∃ G', (if G 20 = G 19 then gX7_text_61 (upR (upR s 20 g) 19 G) v (1 : Int32) else gX7_text_61 (upR (upR s 20 g) 19 G) v (0 : Int32)) = some ((-1 : Int32) - nI p, upR (upR s 20 (va_cpy (s.1 23) g 0 0 139)) 19 G') ∧ G' 19 = 0 ∧ ∀ j, j ≠ 19 → j ≠ 22 → G' j = G j := by
  have sw : ∀ G2 : Nat → Int32, upR (upR (upR s 20 g) 19 G2) 20 (va_cpy (s.1 23) g 0 0 139) = upR (upR s 20 (va_cpy (s.1 23) g 0 0 139)) 19 G2 := by
    intro G2
    refine Prod.ext (funext fun a => ?_) rfl
    rw [upR_1, upR_1, upR_1, upR_1, upR_1]
    by_cases e : a = 20
    · rw [if_pos e, if_neg (by omega), if_pos e]
    · rw [if_neg e, if_neg e, if_neg e]
  have fin : ∀ G1 : Nat → Int32, G1 22 = nI p → ∀ k, fX7_must (upR (upR s 20 g) 19 G) k = some (upR (upR s 20 g) 19 G1) → gX7_text_61 (upR (upR s 20 g) 19 G) v k = some ((-1 : Int32) - nI p, upR (upR s 20 (va_cpy (s.1 23) g 0 0 139)) 19 (upd G1 19 0)) := by
    intro G1 e k hk
    unfold gX7_text_61
    rw [hk, Option.bind_some, lt_e, up2_upRk, upR_s, upd_n (by omega), e, if_neg (nI_pos (by omega)), M_laysBack, Option.bind_some, upR_n (show 23 ≠ 19 by omega), upR_n (show 23 ≠ 20 by omega), upR_n (show 20 ≠ 19 by omega), upR_s, sw, upR_s, upd_n (by omega), e]
  rcases h with h | ⟨h, h3, h4⟩
  · have hf : fz (upR (upR s 20 g) 19 G) := by
      unfold fz; rw [upR_s, h]; exact Int32.not_lt.mp (nI_pos (by omega))
    refine ⟨upd G 19 0, ?_, upd_s, fun j j1 _ => upd_n j1⟩
    by_cases e : G 20 = G 19
    · rw [if_pos e]; exact fin G h 1 (fz_must hf 1)
    · rw [if_neg e]; exact fin G h 0 (fz_must hf 0)
  · refine ⟨upd (upd G 22 (nI p)) 19 0, ?_, upd_s, fun j j1 j2 => by rw [upd_n j1, upd_n j2]⟩
    rw [if_neg (by rw [h1, h3, nI_eq (by omega) (by omega)]; exact h4)]
    exact fin (upd G 22 (nI p)) upd_s 0 (M_mustF G h3 h)
theorem M_endG {s : Mem} (g G : Nat → Int32) {L : Nat} (v : Int32) (h1 : G 19 = nI L) (h2 : G 20 = nI L) (h : G 22 = -1) : (if G 20 = G 19 then gX7_text_61 (upR (upR s 20 g) 19 G) v (1 : Int32) else gX7_text_61 (upR (upR s 20 g) 19 G) v (0 : Int32)) = (fX7_changes (upR (upR s 20 g) 19 (upd G 19 0))).bind (fun y13 => some ((v, y13))) := by
  rw [if_pos (by rw [h1, h2])]
  unfold gX7_text_61
  rw [M_mustT G h, Option.bind_some, lt_e, up2_upRk, upR_s, upd_n (by omega), h, if_pos (by decide)]
theorem neg_p {p : Nat} (hp : p ≤ 120) : ¬ (0 : Int32) ≤ (-1 : Int32) - nI p := by
  have : ∀ p, p < 121 → ¬ (0 : Int32) ≤ (-1 : Int32) - nI p := by decide +kernel
  exact this p (by omega)
/-- the reference's call, read to its end -/
theorem M_textX {s1 : Mem} {r' : Int32 × Mem} {y y' : Mem} {sa : Mem} (ha : sa = upR s1 23 (va_cpy (s1.1 20) (s1.1 23) 0 0 139)) (h1 : fX7_goesOn (upR sa 19 (upd (upd (sa.1 19) 22 (-1)) 21 0)) = some y) (h2 : fX7_item y = some y') (h3 : lp (α := Int32 × Mem) (β := Int32 × Mem) (fun a => bX7_text_24 a.2 a.1) 600 ((1 : Int32), y') = some r') : fX7_text s1 = if (r'.2.1 19 20) = (r'.2.1 19 19) then gX7_text_61 r'.2 r'.1 (1 : Int32) else gX7_text_61 r'.2 r'.1 (0 : Int32) := by
  unfold fX7_text
  rw [M_aside, Option.bind_some, ← ha, lt_e, lt_e, up2_R sa 19 22 (-1), up2_upRk, h1, Option.bind_some, h2, Option.bind_some, h3, Option.bind_some]
theorem call_text {s : Mem} (hR : Rel s) : OK2 (fX6_text s) (fun s1 => fX7_text s1) := by
  obtain ⟨hS, n, hP⟩ := hR.1
  obtain ⟨L, hL, l1, l2, l3⟩ := hR.2.2.2.2.1
  have hR0 := hR.2.1
  obtain ⟨u, sl, fs, hu, hsl, hfs, q1, q2, q3, q4, q5⟩ := hR0
  have hb : ∀ i, i < L → (s.1 28 i).toNatClampNeg < 256 ∧ s.1 28 i = nI (s.1 28 i).toNatClampNeg ∧ s.1 13 i = (nI (s.1 28 i).toNatClampNeg).toInt8.toInt32 := by
    intro i hi
    obtain ⟨b, b1, b2, b3⟩ := l3 i hi
    rw [b2, nI_clamp (by omega)]
    exact ⟨b1, rfl, b3⟩
  generalize hbb : (fun i => (s.1 28 i).toNatClampNeg) = b
  have hbi : ∀ i, (s.1 28 i).toNatClampNeg = b i := fun i => by rw [← hbb]
  have hB : Bt L b := ⟨hL, fun i hi => by rw [← hbi]; exact (hb i hi).1⟩
  have hT1 : ∀ i, i < L → s.1 13 i = (nI (b i)).toInt8.toInt32 := fun i hi => by rw [← hbi]; exact (hb i hi).2.2
  have hT2 : ∀ i, i < L → s.1 28 i = nI (b i) := fun i hi => by rw [← hbi]; exact (hb i hi).2.1
  clear hbb hbi hb
  generalize hsm : upR s 4 (va_cpy (s.1 2) (s.1 4) 0 (sl * 171) 171) = sm
  have hmark : fX2_mark s = some sm := by rw [C_mark s q1 hsl, hsm]
  have smo : ∀ z, z ≠ 4 → sm.1 z = s.1 z := fun z hz => by rw [← hsm, upR_n hz]
  have sm2 : sm.2 = s.2 := by rw [← hsm]; rfl
  have hTC : TC L b sm := fun i hi => by rw [smo 13 (by omega)]; exact hT1 i hi
  have h12 : sm.1 12 1 = nI L := by rw [smo 12 (by omega)]; exact l1
  have two : ∀ sM : Mem, sM.1 28 = s.1 28 → sM.1 20 = s.1 20 → sM.1 19 = s.1 19 → ∃ r r', fX6_readAll sm = some r ∧ (∃ y y', fX7_goesOn (upR sM 19 (upd (upd (sM.1 19) 22 (-1)) 21 0)) = some y ∧ fX7_item y = some y' ∧ lp (α := Int32 × Mem) (β := Int32 × Mem) (fun a => bX7_text_24 a.2 a.1) 600 ((1 : Int32), y') = some r') ∧ TOut L sm sM (sM.1 19) r r' := by
    intro sM e1 e2 e3
    refine text_two (n := n) hB hTC (fun i hi => by rw [e1]; exact hT2 i hi) ?_ ?_ h12 (by rw [e3]; exact l2)
    · rw [smo 2 (by omega), e2]; exact hS
    · rw [smo 2 (by omega), e2]; exact hP
  obtain ⟨r, r0, hr, -, f0, g0, F0, G0, t1, -, t3, -, t5⟩ := two s rfl rfl rfl
  have two' : ∀ s1 : Mem, s1.1 28 = s.1 28 → s1.1 20 = s.1 20 → s1.1 19 = s.1 19 → ∃ (r' : Int32 × Mem) (f' g' F' G' : Nat → Int32), r.2 = upR (upR sm 2 f') 12 F' ∧ r'.2 = upR (upR (upR s1 23 (va_cpy (s1.1 20) (s1.1 23) 0 0 139)) 20 g') 19 G' ∧ (∀ j, j ≠ 20 → j ≠ 21 → j ≠ 22 → G' j = s.1 19 j) ∧ ((∃ v n', v ≤ 120 ∧ r.1 = nI v ∧ r'.1 = nI v ∧ G' 22 = -1 ∧ G' 20 = nI L ∧ SG f' g' ∧ PG f' g' n') ∨ (∃ p, p ≤ L ∧ r.1 = (-1 : Int32) - nI p ∧ (G' 22 = nI p ∨ (G' 22 = -1 ∧ G' 20 = nI p ∧ p ≠ L)))) ∧ fX7_text s1 = if G' 20 = G' 19 then gX7_text_61 r'.2 r'.1 (1 : Int32) else gX7_text_61 r'.2 r'.1 (0 : Int32) := by
    intro s1 e1 e2 e3
    generalize hsa : upR s1 23 (va_cpy (s1.1 20) (s1.1 23) 0 0 139) = sa
    have sa19 : sa.1 19 = s.1 19 := by rw [← hsa, upR_n (by omega), e3]
    obtain ⟨r2, r', k1, ⟨y, y', y1, y2, y3⟩, f', g', F', G', k3, k4, k5, k6, k7⟩ := two sa (by rw [← hsa, upR_n (by omega), e1]) (by rw [← hsa, upR_n (by omega), e2]) sa19
    rw [hr] at k1
    obtain rfl := Option.some.inj k1
    have hx := M_textX hsa.symm y1 y2 y3
    refine ⟨r', f', g', F', G', k3, k4, fun j j1 j2 j3 => by rw [k6 j j1 j2 j3, sa19], k7, ?_⟩
    rw [hx]
    have z : r'.2.1 19 = G' := by rw [k4, upR_s]
    rw [z]
  clear two
  obtain ⟨r1, rm⟩ := r
  have t1 : rm = upR (upR sm 2 f0) 12 F0 := t1
  have hem : fX5_empties rm = some (rm.1 12 1, upR (upR sm 2 f0) 12 (upd F0 1 0)) := by
    unfold fX5_empties
    rw [lt_e, lt_e, t1, up2_upRk]
  generalize hse : upR (upR sm 2 f0) 12 (upd F0 1 0) = se at hem
  have seo : ∀ z, z ≠ 2 → z ≠ 4 → z ≠ 12 → se.1 z = s.1 z := fun z z1 z2 z3 => by rw [← hse, upR_n z3, upR_n z1, smo z z2]
  have se2 : se.2 = s.2 := by rw [← hse, ← sm2]; rfl
  have se12 : se.1 12 1 = nI 0 := by rw [← hse, upR_s, upd_s]; rfl
  have se4 : se.1 4 = va_cpy (s.1 2) (s.1 4) 0 (sl * 171) 171 := by rw [← hse, upR_n (by omega), upR_n (by omega), ← hsm, upR_s]
  have se22 : se.1 2 = f0 := by rw [← hse, upR_n (by omega), upR_s]
  have hx : fX6_text s = if (0 : Int32) ≤ r1 then (fX2_keep se).bind (fun y4 => some ((r1, y4))) else (fX2_bringBack se).bind (fun y5 => some ((r1, y5))) := by
    unfold fX6_text
    rw [hmark, Option.bind_some, hr, Option.bind_some]
    show (fX5_empties rm).bind _ = _
    rw [hem, Option.bind_some]
  have se31 : se.1 3 1 = nI sl := by rw [seo 3 (by omega) (by omega) (by omega)]; exact q1
  have se32 : se.1 3 2 = nI u := by rw [seo 3 (by omega) (by omega) (by omega)]; exact q2
  rcases t5 with ⟨v, n', hv, v1, -⟩ | ⟨p, hp, v1, -⟩
  · have v1 : r1 = nI v := v1
    have hkp := C_keep se se31 hsl se32 hu
    rw [if_pos (by rw [v1]; exact Int32.not_lt.mp (nI_pos (by omega))), hkp, Option.bind_some] at hx
    generalize hs1 : up2 (up2 se 3 1 (nI ((sl + 1) % 31))) 3 2 (nI (min 30 (u + 1))) = s1 at hx
    have s1o : ∀ z, z ≠ 2 → z ≠ 3 → z ≠ 4 → z ≠ 12 → s1.1 z = s.1 z := fun z z1 z2 z3 z4 => by rw [← hs1, up2_n z2, up2_n z2, seo z z1 z3 z4]
    have s1e : ∀ z, z ≠ 3 → s1.1 z = se.1 z := fun z z2 => by rw [← hs1, up2_n z2, up2_n z2]
    have s12 : s1.2 = s.2 := by rw [← hs1, ← se2]; rfl
    obtain ⟨r', f', g', F', G', k3, k4, k6, k7, kx⟩ := two' s1 (s1o 28 (by omega) (by omega) (by omega) (by omega)) (s1o 20 (by omega) (by omega) (by omega) (by omega)) (s1o 19 (by omega) (by omega) (by omega) (by omega))
    have k3 : rm = upR (upR sm 2 f') 12 F' := k3
    have ff : f' = f0 := by
      have a1 : rm.1 2 = f' := by rw [k3, upR_n (by omega), upR_s]
      have a2 : rm.1 2 = f0 := by rw [t1, upR_n (by omega), upR_s]
      rw [← a1, a2]
    rcases k7 with ⟨v', n'', hv', w1, w2, w3, w4, w5, w6⟩ | ⟨p, hp, w1, -⟩
    · have w1 : r1 = nI v' := w1
      have gL : G' 19 = nI L := by rw [k6 19 (by omega) (by omega) (by omega)]; exact l2
      obtain ⟨r'1, r'2⟩ := r'
      have k4 : r'2 = upR (upR (upR s1 23 (va_cpy (s1.1 20) (s1.1 23) 0 0 139)) 20 g') 19 G' := k4
      have w2 : r'1 = nI v' := w2
      have kx : fX7_text s1 = if G' 20 = G' 19 then gX7_text_61 r'2 r'1 (1 : Int32) else gX7_text_61 r'2 r'1 (0 : Int32) := kx
      rw [k4, M_endG g' G' r'1 gL w4 w3] at kx
      have s19 : s1.1 19 = s.1 19 := s1o 19 (by omega) (by omega) (by omega) (by omega)
      have s20 : s1.1 20 = s.1 20 := s1o 20 (by omega) (by omega) (by omega) (by omega)
      generalize hs0 : upR s1 19 (upd (s.1 19) 19 0) = s0
      have s0o : ∀ z, z ≠ 19 → s0.1 z = s1.1 z := fun z hz => by rw [← hs0, upR_n hz]
      have s019 : s0.1 19 = upd (s.1 19) 19 0 := by rw [← hs0, upR_s]
      generalize hsp : upR (upR (upR s1 23 (va_cpy (s1.1 20) (s1.1 23) 0 0 139)) 20 g') 19 (upd G' 19 0) = sp at kx
      have sp20 : sp.1 20 = g' := by rw [← hsp, upR_n (by omega), upR_s]
      have sp19 : ∀ j, j = 2 ∨ j = 3 ∨ j = 4 → sp.1 19 j = s.1 19 j := fun j hj => by rw [← hsp, upR_s, upd_n (by omega), k6 j (by omega) (by omega) (by omega)]
      have s0j : ∀ j, j = 2 ∨ j = 3 ∨ j = 4 → s0.1 19 j = s.1 19 j := fun j hj => by rw [s019, upd_n (by omega)]
      obtain ⟨s2, c1, c2, -, -⟩ := M_changes s0 sp hfs hu (by rw [s0j 2 (by omega)]; exact q3) (by rw [s0j 3 (by omega)]; exact q4) (fun j hj => by rw [← hsp, upR_n (by omega), upR_n (by omega), upR_s, pk_cpy_in (by omega) (by omega), show 0 + (j - 0) = j by omega, s0o 20 (by omega)]) (by rw [sp19 2 (by omega), s0j 2 (by omega)]) (by rw [sp19 3 (by omega), s0j 3 (by omega)]) (by rw [sp19 4 (by omega), s0j 4 (by omega)]) (by rw [← hsp, upR_s, upd_s, s019, upd_s]) (fun a _ => by rw [← hsp, ← hs0]; rfl) (fun a ha => by rw [← hsp, upR_n (by omega), upR_n (by omega), upR_n (by omega), s0o a (by omega)])
      rw [sp20] at c2
      rw [c1, Option.bind_some, w2, ← w1] at kx
      refine ⟨r1, s1, s2, hx, kx, ?_⟩
      have hRt : Rel (upR (upR s 12 (se.1 12)) 19 (upd (s.1 19) 19 0)) := by
        refine Rel_tp hR ⟨0, by omega, ?_, ?_, fun i hi => absurd hi (by omega)⟩ (fun a a1 a2 a3 a4 => ?_) (fun j hj => ?_) rfl
        · rw [upR_n (by omega), upR_s]; exact se12
        · rw [upR_s, upd_s]; rfl
        · rw [upR_n a4, upR_n a1]
        · rw [upR_s, upd_n (by omega)]
      generalize hst : upR (upR s 12 (se.1 12)) 19 (upd (s.1 19) 19 0) = st at hRt
      have sto : ∀ z, z ≠ 12 → z ≠ 19 → st.1 z = s.1 z := fun z z1 z2 => by rw [← hst, upR_n z2, upR_n z1]
      have hC : ChC st s0 f0 := by
        refine ⟨by rw [s0o 2 (by omega), s1e 2 (by omega), se22], ?_, by rw [← hs0, ← hst]; exact s12, fun a a1 a2 a3 _ => ?_⟩
        · intro sl' u' x1 x2 x3 x4
          rw [sto 3 (by omega) (by omega), q1, nI_eq (by omega) (by omega)] at x3
          rw [sto 3 (by omega) (by omega), q2, nI_eq (by omega) (by omega)] at x4
          subst x3 x4
          rw [s0o 3 (by omega), s0o 4 (by omega), sto 2 (by omega) (by omega), sto 4 (by omega) (by omega), s1e 4 (by omega)]
          refine ⟨?_, ?_, se4⟩
          · rw [← hs1, up2_get, if_neg (by omega), up2_get, if_pos (by omega)]
          · rw [← hs1, up2_get, if_pos (by omega)]
        · by_cases e : a = 19
          · rw [e, s019, ← hst, upR_s]
          · by_cases e2 : a = 12
            · rw [e2, s0o 12 (by omega), s1e 12 (by omega), ← hst, upR_n (by omega), upR_s]
            · rw [s0o a e, s1o a a1 a2 a3 e2, sto a e2 e]
      exact Rel_step hRt hC c2 ⟨by rw [← ff]; exact w5, n'', by rw [← ff]; exact w6⟩
    · have w1 : r1 = (-1 : Int32) - nI p := w1
      exfalso
      refine neg_p (p := p) (by omega) ?_
      rw [← w1, v1]; exact Int32.not_lt.mp (nI_pos (by omega))
  · have v1 : r1 = (-1 : Int32) - nI p := v1
    have hbk := C_bringBack se se31 hsl
    rw [if_neg (by rw [v1]; exact neg_p (by omega)), hbk, Option.bind_some] at hx
    generalize hs1 : upR se 2 (va_cpy (se.1 4) (se.1 2) (sl * 171) 0 171) = s1 at hx
    have s1o : ∀ z, z ≠ 2 → z ≠ 4 → z ≠ 12 → s1.1 z = s.1 z := fun z z1 z2 z3 => by rw [← hs1, upR_n z1, seo z z1 z2 z3]
    have s12 : s1.2 = s.2 := by rw [← hs1, ← se2]; rfl
    obtain ⟨r', f', g', F', G', k3, k4, k6, k7, kx⟩ := two' s1 (s1o 28 (by omega) (by omega) (by omega)) (s1o 20 (by omega) (by omega) (by omega)) (s1o 19 (by omega) (by omega) (by omega))
    rcases k7 with ⟨v', n'', hv', w1, -⟩ | ⟨p', hp', w1, w2⟩
    · have w1 : r1 = nI v' := w1
      exfalso
      refine neg_p (p := p) (by omega) ?_
      rw [← v1, w1]; exact Int32.not_lt.mp (nI_pos (by omega))
    · have w1 : r1 = (-1 : Int32) - nI p' := w1
      have gL : G' 19 = nI L := by rw [k6 19 (by omega) (by omega) (by omega)]; exact l2
      rw [k4] at kx
      obtain ⟨G2, z1, z2, z3⟩ := M_endB (s := upR s1 23 (va_cpy (s1.1 20) (s1.1 23) 0 0 139)) g' G' r'.1 hL hp' gL w2
      rw [z1, ← w1] at kx
      refine ⟨r1, s1, _, hx, kx, ?_⟩
      refine Rel_txt (r2 := s.1 2) hR (fun j hj => ?_) (fun j hj => ?_) (fun sl' hsl' e => ?_) ?_ ?_ (fun j hj => ?_) (fun a a1 a2 a3 a4 a5 a6 => ?_) ?_
      · rw [upR_n (by omega), upR_n (by omega), upR_n (by omega), ← hs1, upR_s, pk_cpy_in (by omega) (by omega), se4, pk_cpy_in (by omega) (by omega), show 0 + (sl * 171 + (j - 0) - sl * 171) = j by omega]
      · rw [upR_n (by omega), upR_s, upR_s, pk_cpy_in (by omega) (by omega), pk_cpy_in (by omega) (by omega), show 0 + (0 + (j - 0) - 0) = j by omega, s1o 20 (by omega) (by omega) (by omega)]
      · rw [q1, nI_eq (by omega) (by omega)] at e
        rw [upR_n (by omega), upR_n (by omega), upR_n (by omega), ← hs1, upR_n (by omega), se4, e]
      · rw [upR_n (by omega), upR_n (by omega), upR_n (by omega), ← hs1, upR_n (by omega)]; exact se12
      · rw [upR_s, z2]; rfl
      · rw [upR_s, z3 j (by omega) (by omega), k6 j (by omega) (by omega) (by omega)]
      · rw [upR_n a4, upR_n a5, upR_n a6, s1o a a1 a2 a3]
      · rw [← s12]; rfl
