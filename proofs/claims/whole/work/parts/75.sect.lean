/-! sections: caps, opened, shut -/
theorem lef_0 {g : Nat → Int32} {n c so w : Nat} (hn : n ≤ 6) (hk : ∃ k, k ≤ 9 ∧ capG g c so w = nI k) : ((0 : Int32) ≤ lefG g n c so w (-1)) ↔ nI (takG g c so w (-1) n) ≤ capG g c so w := by
  obtain ⟨k, hk, e⟩ := hk
  have ht := takG_le g c so w (-1) n
  unfold lefG
  rw [e, i32_le, pk_sub_toInt (by omega) (by omega), nI_leI (by omega) (by omega)]
  show (0 : Int) ≤ _ ↔ _
  omega
theorem C_caps (s : Mem) {g : Nat → Int32} {n a : Nat} (hS : SG (s.1 2) g) (hP : PG (s.1 2) g n) (ha : a < 4) : ∃ b, lp (fun z => bX0_noCapIsPassed_2 s (nI a) z) 600 (0 : Int32) = some b ∧ ((b = .inl 0 ∧ ¬ W2 g n a) ∨ (b = .inr () ∧ W2 g n a)) := by
  have hn := hP.1
  have inner : ∀ so, so < 3 → ∃ b, lp (fun z => bX0_noCapIsPassed_9 s (nI a) (nI so) z) 600 (0 : Int32) = some b ∧ ((b = .inl 0 ∧ ¬ W2 g n a) ∨ (b = .inr () ∧ ∀ w, w < 2 → opn g a so w = true → nI (takG g a so w (-1) n) ≤ capG g a so w)) := by
    intro so hso
    refine lp_inv (α := Int32) (β := Int32 ⊕ Unit) (fun i z => z = nI i ∧ ∀ w, w < i → opn g a so w = true → nI (takG g a so w (-1) n) ≤ capG g a so w) (fun b => (b = .inl 0 ∧ ¬ W2 g n a) ∨ (b = .inr () ∧ ∀ w, w < 2 → opn g a so w = true → nI (takG g a so w (-1) n) ≤ capG g a so w)) 2 ?_ ?_ (by omega) ⟨rfl, fun p hp => by omega⟩
    · rintro i z hi ⟨rfl, h⟩
      unfold bX0_noCapIsPassed_9
      rw [if_neg (nI_c2 hi), C_isOpen s ha hso hi, Option.bind_some, bi_n0, SR_opn hS.1 ha hso hi]
      simp only [lt, nI_p1]
      cases e : opn g a so i
      · refine Or.inl ⟨_, rfl, rfl, fun w hw hq => ?_⟩
        by_cases e2 : w = i
        · subst e2; rw [e] at hq; cases hq
        · exact h w (by omega) hq
      · have hany : so = 0 ∨ anyO g a so = true := by
          right
          unfold anyO
          obtain rfl | rfl : i = 0 ∨ i = 1 := by omega
          · rw [e]; rfl
          · rw [e, Bool.or_true]
        have h2 := C_ofSection s ha hso hi (j := 2) (by omega)
        rw [show nI 2 = (2 : Int32) from rfl, cap_eq hS.1 ha hso hi e] at h2
        rw [if_pos rfl, C_taken s (-1) (Gd_BR hS hP) (PG_okP hP) ha hso hi (PG_snd hP a ha) hany, Option.bind_some, h2, Option.bind_some]
        by_cases q : nI (takG g a so i (-1) n) ≤ g (24 * a + 8 * so + 4 * i + 2)
        · rw [if_pos q]
          refine Or.inl ⟨_, rfl, rfl, fun w hw hq => ?_⟩
          by_cases e2 : w = i
          · subst e2; exact q
          · exact h w (by omega) hq
        · rw [if_neg q]
          exact Or.inr ⟨_, rfl, Or.inl ⟨rfl, fun z => q (z so hso i hi e)⟩⟩
    · rintro z ⟨rfl, h⟩
      unfold bX0_noCapIsPassed_9
      rw [if_pos (by decide)]
      exact ⟨_, rfl, Or.inr ⟨rfl, h⟩⟩
  refine lp_inv (α := Int32) (β := Int32 ⊕ Unit) (fun i z => z = nI i ∧ ∀ so, so < i → ∀ w, w < 2 → opn g a so w = true → nI (takG g a so w (-1) n) ≤ capG g a so w) (fun b => (b = .inl 0 ∧ ¬ W2 g n a) ∨ (b = .inr () ∧ W2 g n a)) 3 ?_ ?_ (by omega) ⟨rfl, fun p hp => by omega⟩
  · rintro i z hi ⟨rfl, h⟩
    obtain ⟨b, k1, k2⟩ := inner i hi
    unfold bX0_noCapIsPassed_2
    rw [if_neg (nI_c3 hi), k1, Option.bind_some]
    simp only [lt, nI_p1]
    rcases k2 with ⟨rfl, q⟩ | ⟨rfl, q⟩
    · exact Or.inr ⟨_, rfl, Or.inl ⟨rfl, q⟩⟩
    · refine Or.inl ⟨_, rfl, rfl, fun so hso w hw hq => ?_⟩
      by_cases e2 : so = i
      · subst e2; exact q w hw hq
      · exact h so (by omega) w hw hq
  · rintro z ⟨rfl, h⟩
    unfold bX0_noCapIsPassed_2
    rw [if_pos (by decide)]
    exact ⟨_, rfl, Or.inr ⟨rfl, h⟩⟩
theorem M_caps (s : Mem) {f : Nat → Int32} {n a : Nat} (hS : SG f (s.1 20)) (hP : PW f (s.1 20) n a) (ha : a < 4) : ∃ b, lp (fun z => bX7_isSound_53 s (nI a) z) 600 (0 : Int32) = some b ∧ ((b = .inl 0 ∧ ¬ W2 (s.1 20) n a) ∨ (b = .inr () ∧ W2 (s.1 20) n a)) := by
  have hn := hP.1
  have inner : ∀ so, so < 3 → ∃ b, lp (fun z => bX7_isSound_60 s (nI a) (nI so) z) 600 (0 : Int32) = some b ∧ ((b = .inl 0 ∧ ¬ W2 (s.1 20) n a) ∨ (b = .inr () ∧ ∀ w, w < 2 → opn (s.1 20) a so w = true → nI (takG (s.1 20) a so w (-1) n) ≤ capG (s.1 20) a so w)) := by
    intro so hso
    refine lp_inv (α := Int32) (β := Int32 ⊕ Unit) (fun i z => z = nI i ∧ ∀ w, w < i → opn (s.1 20) a so w = true → nI (takG (s.1 20) a so w (-1) n) ≤ capG (s.1 20) a so w) (fun b => (b = .inl 0 ∧ ¬ W2 (s.1 20) n a) ∨ (b = .inr () ∧ ∀ w, w < 2 → opn (s.1 20) a so w = true → nI (takG (s.1 20) a so w (-1) n) ≤ capG (s.1 20) a so w)) 2 ?_ ?_ (by omega) ⟨rfl, fun p hp => by omega⟩
    · rintro i z hi ⟨rfl, h⟩
      unfold bX7_isSound_60
      rw [if_neg (nI_c2 hi), M_isOpen s ha hso hi, Option.bind_some, bi_n0, M_left s (-1) ha hso hi (PW_okM hP), Option.bind_some]
      simp only [lt, nI_p1, lef_0 hn (hS.2.2 a ha so hso i hi).2.2.1]
      cases e : opn (s.1 20) a so i
      · refine Or.inl ⟨_, rfl, rfl, fun w hw hq => ?_⟩
        by_cases e2 : w = i
        · subst e2; rw [e] at hq; cases hq
        · exact h w (by omega) hq
      · rw [if_pos rfl]
        by_cases q : nI (takG (s.1 20) a so i (-1) n) ≤ capG (s.1 20) a so i
        · rw [if_pos q]
          refine Or.inl ⟨_, rfl, rfl, fun w hw hq => ?_⟩
          by_cases e2 : w = i
          · subst e2; exact q
          · exact h w (by omega) hq
        · rw [if_neg q]
          exact Or.inr ⟨_, rfl, Or.inl ⟨rfl, fun z => q (z so hso i hi e)⟩⟩
    · rintro z ⟨rfl, h⟩
      unfold bX7_isSound_60
      rw [if_pos (by decide)]
      exact ⟨_, rfl, Or.inr ⟨rfl, h⟩⟩
  refine lp_inv (α := Int32) (β := Int32 ⊕ Unit) (fun i z => z = nI i ∧ ∀ so, so < i → ∀ w, w < 2 → opn (s.1 20) a so w = true → nI (takG (s.1 20) a so w (-1) n) ≤ capG (s.1 20) a so w) (fun b => (b = .inl 0 ∧ ¬ W2 (s.1 20) n a) ∨ (b = .inr () ∧ W2 (s.1 20) n a)) 3 ?_ ?_ (by omega) ⟨rfl, fun p hp => by omega⟩
  · rintro i z hi ⟨rfl, h⟩
    obtain ⟨b, k1, k2⟩ := inner i hi
    unfold bX7_isSound_53
    rw [if_neg (nI_c3 hi), k1, Option.bind_some]
    simp only [lt, nI_p1]
    rcases k2 with ⟨rfl, q⟩ | ⟨rfl, q⟩
    · exact Or.inr ⟨_, rfl, Or.inl ⟨rfl, q⟩⟩
    · refine Or.inl ⟨_, rfl, rfl, fun so hso w hw hq => ?_⟩
      by_cases e2 : so = i
      · subst e2; exact q w hw hq
      · exact h so (by omega) w hw hq
  · rintro z ⟨rfl, h⟩
    unfold bX7_isSound_53
    rw [if_pos (by decide)]
    exact ⟨_, rfl, Or.inr ⟨rfl, h⟩⟩
theorem M_isSound (s : Mem) {f : Nat → Int32} {n a : Nat} (hS : SG f (s.1 20)) (hP : PW f (s.1 20) n a) (ha : a < 4) : fX7_isSound s (nI a) = some (bi (okO (s.1 20) n a)) := by
  obtain ⟨b, k1, k2⟩ := M_allWell s hP ha
  obtain ⟨d, j1, j2⟩ := M_caps s hS hP ha
  unfold fX7_isSound
  rw [k1, Option.bind_some]
  rcases k2 with ⟨rfl, q⟩ | ⟨rfl, q⟩
  · rw [okO_f (fun z => q z.1)]; rfl
  · simp only [Sum.elim_inr]
    rw [j1, Option.bind_some]
    rcases j2 with ⟨rfl, w⟩ | ⟨rfl, w⟩
    · rw [okO_f (fun z => w z.2)]; rfl
    · rw [okO_t ⟨q, w⟩]; rfl
theorem W1_law {g : Nat → Int32} {n a : Nat} (h : W1 g n a) : ∀ p, p < n → ∀ t, trp g p a = some t → lawG g a t = true := by
  intro p hp t ht
  have := h p hp t ht
  unfold freG at this
  exact (Bool.and_eq_true_iff.mp this).1
theorem C_opens (s : Mem) {g : Nat → Int32} {n a b d cp : Nat} {tm lk : Int32} (hS : SG (s.1 2) g) (hP : PG (s.1 2) g n) (ha : a < 4) (hb : b < 3) (hd : d < 2) (ht : hr tm) (hc : cp ≤ 9) (hl : lk = -1 ∨ lk = 0 ∨ lk = 1) : ∃ f', fX0_opens s (nI a) (nI b) (nI d) tm (nI cp) lk = some (bi (okO (opU g (24 * a + 8 * b + 4 * d) 1 tm (nI cp) lk) n a), upR s 2 f') ∧ SG f' (opU g (24 * a + 8 * b + 4 * d) 1 tm (nI cp) lk) ∧ PW f' (opU g (24 * a + 8 * b + 4 * d) 1 tm (nI cp) lk) n a := by
  have ha' : (24 : Int32) * nI a + (8 : Int32) * nI b + (4 : Int32) * nI d = nI (24 * a + 8 * b + 4 * d) := by
    have := ixS (c := a) (so := b) (w := d) (j := 0)
    rw [show nI 0 = (0 : Int32) from rfl, Nat.add_zero, Int32.add_zero] at this
    exact this
  generalize hg1 : opU g (24 * a + 8 * b + 4 * d) 1 tm (nI cp) lk = g1
  generalize hf1 : opU (s.1 2) (24 * a + 8 * b + 4 * d) 1 tm (nI cp) lk = f1
  have h1 : SR f1 g1 := by rw [← hf1, ← hg1]; exact SR_op 1 tm (nI cp) lk hS.1 ha hb hd (fun _ => hl)
  have h2 : secOK f1 g1 := by
    intro c hc' so hs w hw
    rw [← hf1, ← hg1]
    by_cases e : c = a ∧ so = b ∧ w = d
    · obtain ⟨rfl, rfl, rfl⟩ := e
      rw [opU_0, opU_1, opU_2, opU_2]
      exact ⟨Or.inr rfl, ht, ⟨cp, hc, rfl⟩, ⟨cp, hc, rfl⟩⟩
    · rw [opU_o (by omega), opU_o (by omega), opU_o (by omega), opU_o (by omega)]
      exact hS.2.2 c hc' so hs w hw
  obtain ⟨a1, a2⟩ := op_all hS hP ha h1 h2 (fun j hj => by rw [← hf1, opU_o (by omega)]) (fun j hj => by rw [← hg1, opU_o (by omega)])
  refine ⟨newF f1 g1 a, ?_, a1, a2⟩
  have hfl := C_findLawful (upR s 2 f1) (g := g1) (c := a) (by rw [upR_s]; exact h1) ha
  rw [finS_R] at hfl
  unfold fX0_opens
  simp only [lt]
  rw [ha', nI_p0, nI_p1, nI_p2, nI_p3, gd_in (by omega) (by omega), gd_in (by omega) (by omega), gd_in (by omega) (by omega), gd_in (by omega) (by omega), nI_clamp (by omega), nI_clamp (by omega), nI_clamp (by omega), nI_clamp (by omega), up2_R, up2_R, upR_s, upR_R, up2_R, upR_s, upR_R, up2_R, upR_s, upR_R]
  have hm : upR s 2 (upd (upd (upd (upd (s.1 2) (24 * a + 8 * b + 4 * d) 1) (24 * a + 8 * b + 4 * d + 1) tm) (24 * a + 8 * b + 4 * d + 2) (nI cp)) (24 * a + 8 * b + 4 * d + 3) lk) = upR s 2 f1 := by rw [← hf1]; rfl
  rw [hm, hfl, Option.bind_some]
  have hS' : SG ((upR s 2 (finF g1 a f1 8)).1 2) g1 := by rw [upR_s]; exact a1
  have hP' : PW ((upR s 2 (finF g1 a f1 8)).1 2) g1 n a := by rw [upR_s]; exact a2
  obtain ⟨w, k1, k2⟩ := C_allWell (upR s 2 (finF g1 a f1 8)) hS' hP' ha
  unfold fX0_allSitWell
  rw [k1, Option.bind_some]
  rcases k2 with ⟨rfl, q⟩ | ⟨rfl, q⟩
  · rw [okO_f (fun z => q z.1)]; rfl
  · obtain ⟨w2, j1, j2⟩ := C_caps (upR s 2 (finF g1 a f1 8)) hS' (PW_PG hP' ha (W1_law q)) ha
    simp only [Sum.elim_inr, Option.bind_some]
    rw [if_neg (by decide)]
    unfold fX0_noCapIsPassed
    rw [j1, Option.bind_some]
    rcases j2 with ⟨rfl, w⟩ | ⟨rfl, w⟩
    · rw [okO_f (fun z => w z.2)]; rfl
    · rw [okO_t ⟨q, w⟩]; rfl
theorem M_opens (s : Mem) {f : Nat → Int32} {n a b d cp : Nat} {tm lk : Int32} (hS : SG f (s.1 20)) (hP : PG f (s.1 20) n) (ha : a < 4) (hb : b < 3) (hd : d < 2) (ht : hr tm) (hc : cp ≤ 9) (hl : lk = -1 ∨ lk = 0 ∨ lk = 1) : fX7_opens s (nI a) (nI b) (nI d) tm (nI cp) lk = some (bi (okO (opU (s.1 20) (24 * a + 8 * b + 4 * d) 1 tm (nI cp) lk) n a), if okO (opU (s.1 20) (24 * a + 8 * b + 4 * d) 1 tm (nI cp) lk) n a then upR s 20 (opU (s.1 20) (24 * a + 8 * b + 4 * d) 1 tm (nI cp) lk) else s) := by
  obtain ⟨f', -, a1, a2⟩ := C_opens (upR s 2 f) (g := s.1 20) (n := n) (a := a) (b := b) (d := d) (cp := cp) (tm := tm) (lk := lk) (by rw [upR_s]; exact hS) (by rw [upR_s]; exact hP) ha hb hd ht hc hl
  have hb' := opU_back (s.1 20) (24 * a + 8 * b + 4 * d) 1 tm (nI cp) lk
  unfold fX7_opens
  rw [M_at a ha b hb d hd, Option.bind_some]
  simp only [lt]
  rw [nI_p0, nI_p1, nI_p2, nI_p3, nI_clamp (by omega), nI_clamp (by omega), nI_clamp (by omega), nI_clamp (by omega)]
  simp only [gd_in (show 24 * a + 8 * b + 4 * d < 139 by omega) (show 139 < 2 ^ 31 by omega), gd_in (show 24 * a + 8 * b + 4 * d + 1 < 139 by omega) (show 139 < 2 ^ 31 by omega), gd_in (show 24 * a + 8 * b + 4 * d + 2 < 139 by omega) (show 139 < 2 ^ 31 by omega), gd_in (show 24 * a + 8 * b + 4 * d + 3 < 139 by omega) (show 139 < 2 ^ 31 by omega)]
  have hm : up2 (up2 (up2 (up2 s 20 (24 * a + 8 * b + 4 * d) 1) 20 (24 * a + 8 * b + 4 * d + 1) tm) 20 (24 * a + 8 * b + 4 * d + 2) (nI cp)) 20 (24 * a + 8 * b + 4 * d + 3) lk = upR s 20 (opU (s.1 20) (24 * a + 8 * b + 4 * d) 1 tm (nI cp) lk) := by
    rw [up2_R, up2_R, up2_R, up2_R, upR_s, upR_R, upR_s, upR_R, upR_s, upR_R]; rfl
  rw [hm]
  generalize hg1 : opU (s.1 20) (24 * a + 8 * b + 4 * d) 1 tm (nI cp) lk = g1 at *
  have hm2 : up2 (up2 (up2 (up2 (upR s 20 g1) 20 (24 * a + 8 * b + 4 * d) (s.1 20 (24 * a + 8 * b + 4 * d))) 20 (24 * a + 8 * b + 4 * d + 1) (s.1 20 (24 * a + 8 * b + 4 * d + 1))) 20 (24 * a + 8 * b + 4 * d + 2) (s.1 20 (24 * a + 8 * b + 4 * d + 2))) 20 (24 * a + 8 * b + 4 * d + 3) (s.1 20 (24 * a + 8 * b + 4 * d + 3)) = s := by
    rw [up2_R, up2_R, up2_R, up2_R, upR_s, upR_R, upR_s, upR_R, upR_s, upR_R, upR_s, upR_R]
    have : upR s 20 (opU g1 (24 * a + 8 * b + 4 * d) (s.1 20 (24 * a + 8 * b + 4 * d)) (s.1 20 (24 * a + 8 * b + 4 * d + 1)) (s.1 20 (24 * a + 8 * b + 4 * d + 2)) (s.1 20 (24 * a + 8 * b + 4 * d + 3))) = s := by rw [hb', upR_id]
    exact this
  have hsd := M_isSound (upR s 20 g1) (f := f') (n := n) (a := a) (by rw [upR_s]; exact a1) (by rw [upR_s]; exact a2) ha
  rw [upR_s] at hsd
  rw [hsd, Option.bind_some, bi_n0, hm2]
  cases okO g1 n a <;> rfl
/-- nothing told: only the class's spare slot and what can be restored -/
theorem Rel_slot {s s2 : Mem} {r2 : Nat → Int32} (hR : Rel s) (h2 : ∀ j, j < 171 → s2.1 2 j = s.1 2 j) (h20 : s2.1 20 = s.1 20) (h4 : ∀ sl, sl < 31 → s.1 3 1 = nI sl → s2.1 4 = va_cpy r2 (s.1 4) 0 (sl * 171) 171) (hr : ∀ a, a ≠ 2 → a ≠ 4 → (a < 5 ∨ 11 < a) → (a < 23 ∨ 27 < a) → s2.1 a = s.1 a) (hl : s2.2 = s.2) : Rel s2 := by
  obtain ⟨r1, ⟨u, sl, fs, hu, hsl, hfs, e1, e2, e3, e4, hk⟩, r3, r4, r5, r6⟩ := hR
  refine ⟨?_, ?_, ?_, ?_, ?_, ?_⟩
  · rw [h20]; exact Gd_cg r1 h2 (fun j _ => rfl)
  · refine ⟨u, sl, fs, hu, hsl, hfs, by rw [hr 3 (by omega) (by omega) (by omega) (by omega)]; exact e1, by rw [hr 3 (by omega) (by omega) (by omega) (by omega)]; exact e2, by rw [hr 19 (by omega) (by omega) (by omega) (by omega)]; exact e3, by rw [hr 19 (by omega) (by omega) (by omega) (by omega)]; exact e4, fun i hi => ?_⟩
    rw [hr (37 + (fs + i) % 30) (by omega) (by omega) (by omega) (by omega), h4 sl hsl e1]
    refine Gd_cg (hk i hi) (fun j hj => ?_) (fun j _ => rfl)
    unfold cutF
    exact pk_cpy_out (by omega)
  · intro j hj
    rw [hr 18 (by omega) (by omega) (by omega) (by omega), hr 22 (by omega) (by omega) (by omega) (by omega)]; exact r3 j hj
  · rw [hr 0 (by omega) (by omega) (by omega) (by omega), hr 19 (by omega) (by omega) (by omega) (by omega)]; exact r4
  · obtain ⟨L, hL, l1, l2, l3⟩ := r5
    refine ⟨L, hL, ?_, ?_, fun i hi => ?_⟩
    · rw [hr 12 (by omega) (by omega) (by omega) (by omega)]; exact l1
    · rw [hr 19 (by omega) (by omega) (by omega) (by omega)]; exact l2
    · rw [hr 28 (by omega) (by omega) (by omega) (by omega), hr 13 (by omega) (by omega) (by omega) (by omega)]; exact l3 i hi
  · intro k hk'
    obtain ⟨q1, q2, q3, q4, q5⟩ := r6 k hk'
    rw [hr 16 (by omega) (by omega) (by omega) (by omega), hr 17 (by omega) (by omega) (by omega) (by omega), hr 29 (by omega) (by omega) (by omega) (by omega), hr 30 (by omega) (by omega) (by omega) (by omega), hl]
    exact ⟨q1, q2, q3, q4, q5⟩
theorem lk_ex {x : Int32} (h : inR x (-1) 1 = true) : x = -1 ∨ x = 0 ∨ x = 1 := by
  have := of_decide_eq_true h
  have key : x.toInt = -1 ∨ x.toInt = 0 ∨ x.toInt = 1 := by omega
  rcases key with q | q | q
  · left; apply Int32.toInt_inj.mp; exact q
  · right; left; apply Int32.toInt_inj.mp; exact q
  · right; right; apply Int32.toInt_inj.mp; exact q
theorem fnd23 {s : Mem} (hR : Rel s) (k : Nat) (hk : k < 8) {x : Option (Int32 × Mem)} {F : Mem → Option (Int32 × Mem)} (Y : Mem → (Nat → Int32)) (hx : x = (fX6_finding s (nI k)).bind (fun y => some (y.1, y.2))) (hy : ∀ s1 : Mem, (∀ a, a ≠ 18 → s1.1 a = s.1 a) → F s1 = (fX7_finds (upR s1 23 (Y s1)) (nI k)).bind (fun y => some (y.1, y.2))) : OK2 x F := by
  have h1 := Rel_told hR hk
  generalize hs1 : up2 s 18 k (s.1 18 k + 1) = s1 at h1
  have q1 : ∀ a, a ≠ 18 → s1.1 a = s.1 a := fun a ha => by rw [← hs1, up2_1, if_neg ha]
  refine ⟨(-1000001 : Int32) - nI k, s1, up2 (upR s1 23 (Y s1)) 22 k ((upR s1 23 (Y s1)).1 22 k + 1), ?_, ?_, ?_⟩
  · rw [hx, C_finding s hk, hs1]; rfl
  · rw [hy s1 q1, M_finds _ hk]; rfl
  · refine Rel_idle h1 (fun a a1 a2 a3 => ?_) (fun j _ => ?_) (fun a _ _ => rfl)
    · rw [up2_1, up2_1]
      by_cases e : a = 22
      · rw [if_pos e, if_pos e, upR_1, if_neg (by omega)]
      · rw [if_neg e, if_neg e, upR_1, if_neg (by omega)]
    · rw [up2_1, if_neg (by omega), up2_1, if_neg (by omega), upR_1, if_neg (by omega)]
theorem call_section {s : Mem} (hR : Rel s) (c so w tm cp lk : Int32) : OK2 (fX6_section s c so w tm cp lk) (fun s1 => fX7_section s1 c so w tm cp lk) := by
  obtain ⟨hS, n, hP⟩ := hR.1
  have hn := hP.1
  cases e1 : isSec c so w
  · refine fnd hR 0 (by omega) _ ?_ (fun s1 h1 _ => ?_)
    · unfold fX6_section gX6_section_43; rw [C_isSection, e1]; rfl
    · show fX7_section s1 c so w tm cp lk = _
      unfold fX7_section gX7_section_43; rw [M_isSection, e1]; rfl
  cases e2 : inR tm 0 1048575
  · refine fnd hR 0 (by omega) _ ?_ (fun s1 h1 _ => ?_)
    · unfold fX6_section gX6_section_43; rw [C_isSection, e1, C_isHours, e2]; rfl
    · show fX7_section s1 c so w tm cp lk = _
      unfold fX7_section gX7_section_43; rw [M_isSection, e1, M_areHours, e2]; rfl
  cases e3 : inR cp 0 9
  · refine fnd hR 0 (by omega) _ ?_ (fun s1 h1 _ => ?_)
    · unfold fX6_section gX6_section_43; rw [C_isSection, e1, C_isHours, e2, wi_in cp 0 9 (by decide) (by decide), e3]; rfl
    · show fX7_section s1 c so w tm cp lk = _
      unfold fX7_section gX7_section_43; rw [M_isSection, e1, M_areHours, e2, mi_in cp 0 9 (by decide) (by decide), e3]; rfl
  cases e4 : inR lk (-1) 1
  · refine fnd hR 0 (by omega) _ ?_ (fun s1 h1 _ => ?_)
    · unfold fX6_section gX6_section_43; rw [C_isSection, e1, C_isHours, e2, wi_in cp 0 9 (by decide) (by decide), e3, wi_in lk (-1) 1 (by decide) (by decide), e4]; rfl
    · show fX7_section s1 c so w tm cp lk = _
      unfold fX7_section gX7_section_43; rw [M_isSection, e1, M_areHours, e2, mi_in cp 0 9 (by decide) (by decide), e3, mi_in lk (-1) 1 (by decide) (by decide), e4]; rfl
  obtain ⟨a, b, d, ha, hb, hd, rfl, rfl, rfl⟩ := isSec_ex e1
  obtain ⟨t, ht, rfl⟩ := inR_ex (h := 1048575) (by omega) e2
  obtain ⟨k, hk, rfl⟩ := inR_ex (h := 9) (by omega) e3
  have hl := lk_ex e4
  have hR0 := hR.2.1
  obtain ⟨u, sl, fs, hu, hsl, hfs, q1, q2, q3, q4, q5⟩ := hR0
  generalize hsm : upR s 4 (va_cpy (s.1 2) (s.1 4) 0 (sl * 171) 171) = sm
  have hmark : fX2_mark s = some sm := by rw [C_mark s q1 hsl, hsm]
  have smo : ∀ z, z ≠ 4 → sm.1 z = s.1 z := fun z hz => by rw [← hsm, upR_1, if_neg hz]
  obtain ⟨f', o1, o2, o3⟩ := C_opens sm (g := s.1 20) (n := n) (a := a) (b := b) (d := d) (cp := k) (tm := nI t) (lk := lk) (by rw [smo 2 (by omega)]; exact hS) (by rw [smo 2 (by omega)]; exact hP) ha hb hd ⟨t, by omega, rfl⟩ (by omega) hl
  generalize hg1 : opU (s.1 20) (24 * a + 8 * b + 4 * d) 1 (nI t) (nI k) lk = g1 at *
  have hx : fX6_section s (nI a) (nI b) (nI d) (nI t) (nI k) lk = if okO g1 n a = true then (fX2_keep (upR sm 2 f')).bind (fun y8 => (fX0_lawfulSet y8 (nI a)).bind (fun y9 => some ((y9, y8)))) else (fX2_bringBack (upR sm 2 f')).bind (fun y10 => (fX6_finding y10 (4 : Int32)).bind (fun y11 => some ((y11.1, y11.2)))) := by
    unfold fX6_section
    rw [C_isSection, e1, C_isHours, e2, wi_in _ 0 9 (by decide) (by decide), e3, wi_in _ (-1) 1 (by decide) (by decide), e4, Option.bind_some, bi_n0, if_pos rfl, Option.bind_some, bi_n0, if_pos rfl, Option.bind_some, bi_n0, if_pos rfl, Option.bind_some, bi_n0, if_pos rfl, hmark, Option.bind_some, o1, Option.bind_some, bi_n0]
  have hy : ∀ s1 : Mem, s1.1 20 = s.1 20 → fX7_section s1 (nI a) (nI b) (nI d) (nI t) (nI k) lk = if okO g1 n a = true then (fX7_changes (upR (upR s1 23 (va_cpy (s1.1 20) (s1.1 23) 0 0 139)) 20 g1)).bind (fun y8 => (fX7_lawful y8 (nI a)).bind (fun y9 => some ((y9, y8)))) else (fX7_finds (upR s1 23 (va_cpy (s1.1 20) (s1.1 23) 0 0 139)) (4 : Int32)).bind (fun y10 => some ((y10.1, y10.2))) := by
    intro s1 e20
    have e20' : (upR s1 23 (va_cpy (s1.1 20) (s1.1 23) 0 0 139)).1 20 = s.1 20 := by rw [upR_1, if_neg (by omega), e20]
    have ho := M_opens (upR s1 23 (va_cpy (s1.1 20) (s1.1 23) 0 0 139)) (f := s.1 2) (n := n) (a := a) (b := b) (d := d) (cp := k) (tm := nI t) (lk := lk) (by rw [e20']; exact hS) (by rw [e20']; exact hP) ha hb hd ⟨t, by omega, rfl⟩ (by omega) hl
    rw [e20', hg1] at ho
    unfold fX7_section
    rw [M_isSection, e1, M_areHours, e2, mi_in _ 0 9 (by decide) (by decide), e3, mi_in _ (-1) 1 (by decide) (by decide), e4, Option.bind_some, bi_n0, if_pos rfl, Option.bind_some, bi_n0, if_pos rfl, Option.bind_some, bi_n0, if_pos rfl, Option.bind_some, bi_n0, if_pos rfl, M_aside, Option.bind_some, ho, Option.bind_some, bi_n0]
    cases okO g1 n a <;> rfl
  cases e5 : okO g1 n a
  · rw [e5, if_neg (by decide)] at hx
    have hb1 : fX2_bringBack (upR sm 2 f') = some (upR sm 2 (va_cpy (sm.1 4) f' (sl * 171) 0 171)) := by
      rw [C_bringBack (sl := sl) _ (by rw [upR_1, if_neg (by omega), smo 3 (by omega)]; exact q1) hsl, upR_s, upR_1, if_neg (by omega), upR_R]
    rw [hb1, Option.bind_some] at hx
    generalize hsb : upR sm 2 (va_cpy (sm.1 4) f' (sl * 171) 0 171) = sb at hx
    have sbo : ∀ z, z ≠ 2 → z ≠ 4 → sb.1 z = s.1 z := fun z z1 z2 => by rw [← hsb, upR_1, if_neg z1, smo z z2]
    have hRb : Rel sb := by
      refine Rel_slot (r2 := s.1 2) hR (fun j hj => ?_) (sbo 20 (by omega) (by omega)) (fun sl' hsl' e => ?_) (fun z z1 z2 _ _ => sbo z z1 z2) (by rw [← hsb, ← hsm]; rfl)
      · rw [← hsb, upR_s, pk_cpy_in (by omega) (by omega), ← hsm, upR_s, pk_cpy_in (by omega) (by omega), show 0 + (sl * 171 + (j - 0) - sl * 171) = j by omega]
      · rw [q1, nI_eq (by omega) (by omega)] at e
        rw [← hsb, upR_1, if_neg (by omega), ← hsm, upR_s, e]
    refine fnd23 hRb 4 (by omega) (fun s1 => va_cpy (s1.1 20) (s1.1 23) 0 0 139) hx (fun s1 h1 => ?_)
    show fX7_section s1 (nI a) (nI b) (nI d) (nI t) (nI k) lk = _
    rw [hy s1 (by rw [h1 20 (by omega), sbo 20 (by omega) (by omega)]), e5]
    rfl
  · rw [e5, if_pos rfl] at hx
    have hP1 := PW_PG o3 ha (W1_law (okO_of e5).1)
    have hkp := C_keep (upR sm 2 f') (sl := sl) (u := u) (by rw [upR_1, if_neg (by omega), smo 3 (by omega)]; exact q1) hsl (by rw [upR_1, if_neg (by omega), smo 3 (by omega)]; exact q2) hu
    generalize hs1 : up2 (up2 (upR sm 2 f') 3 1 (nI ((sl + 1) % 31))) 3 2 (nI (min 30 (u + 1))) = s1 at hkp
    have s12 : s1.1 2 = f' := by rw [← hs1, up2_1, if_neg (by omega), up2_1, if_neg (by omega), upR_s]
    have s1o : ∀ z, z ≠ 2 → z ≠ 3 → z ≠ 4 → s1.1 z = s.1 z := fun z z1 z2 z3 => by rw [← hs1, up2_1, if_neg z2, up2_1, if_neg z2, upR_1, if_neg z1, smo z z3]
    have hC : ChC s s1 f' := by
      refine ⟨s12, ?_, by rw [← hs1, ← hsm]; rfl, fun z z1 z2 z3 _ => s1o z z1 z2 z3⟩
      intro sl' u' w1 w2 w3 w4
      rw [q1, nI_eq (by omega) (by omega)] at w3
      rw [q2, nI_eq (by omega) (by omega)] at w4
      subst w3 w4
      refine ⟨?_, ?_, ?_⟩
      · rw [← hs1, up2_get, if_neg (by omega), up2_get, if_pos (by omega)]
      · rw [← hs1, up2_get, if_pos (by omega)]
      · rw [← hs1, up2_1, if_neg (by omega), up2_1, if_neg (by omega), upR_1, if_neg (by omega), ← hsm, upR_s]
    refine ok_chg hR (a := setG (lawG g1 a) 8) (s1 := s1) ?_ hC ⟨o2, n, hP1⟩ (fun s2 k1 k2 => ?_)
    · rw [hx, hkp, Option.bind_some, C_lawfulSet s1 (g := g1) (by rw [s12]; exact o2) ha]
      rfl
    · show fX7_section s1 (nI a) (nI b) (nI d) (nI t) (nI k) lk = _
      rw [hy s1 (s1o 20 (by omega) (by omega) (by omega)), e5, if_pos rfl, k1, Option.bind_some, M_lawful s2 ha, k2]
      rfl
/-! shut -/
def badG (g : Nat → Int32) (c p : Nat) : Bool := match trp g p c with
  | none => false
  | some t => !lawG g c t
def shG (g : Nat → Int32) (c : Nat) : Nat → (Nat → Int32) := itr (fun p G => if badG g c p then upd G (100 + 7 * p + c) (-1) else G) g
def shF (f g : Nat → Int32) (c : Nat) : Nat → (Nat → Int32) := itr (fun p F => if badG g c p then upd F (99 + 7 * p + c) (-1) else F) f
def shN (g : Nat → Int32) (c : Nat) : Nat → Nat := itr (fun p a => if badG g c p then a + 1 else a) 0
theorem shG_s (g : Nat → Int32) (c i : Nat) : shG g c (i + 1) = if badG g c i then upd (shG g c i) (100 + 7 * i + c) (-1) else shG g c i := rfl
theorem shF_s (f g : Nat → Int32) (c i : Nat) : shF f g c (i + 1) = if badG g c i then upd (shF f g c i) (99 + 7 * i + c) (-1) else shF f g c i := rfl
theorem shN_s (g : Nat → Int32) (c i : Nat) : shN g c (i + 1) = if badG g c i then shN g c i + 1 else shN g c i := rfl
theorem shG_o (g : Nat → Int32) (c j : Nat) : ∀ i, (∀ p, p < i → j ≠ 100 + 7 * p + c) → shG g c i j = g j
  | 0, _ => rfl
  | i + 1, h => by
    rw [shG_s]
    cases badG g c i
    · exact shG_o g c j i (fun p hp => h p (by omega))
    · show upd (shG g c i) (100 + 7 * i + c) (-1) j = _
      rw [pk_un (h i (by omega))]
      exact shG_o g c j i (fun p hp => h p (by omega))
theorem shF_o (f g : Nat → Int32) (c j : Nat) : ∀ i, (∀ p, p < i → j ≠ 99 + 7 * p + c) → shF f g c i j = f j
  | 0, _ => rfl
  | i + 1, h => by
    rw [shF_s]
    cases badG g c i
    · exact shF_o f g c j i (fun p hp => h p (by omega))
    · show upd (shF f g c i) (99 + 7 * i + c) (-1) j = _
      rw [pk_un (h i (by omega))]
      exact shF_o f g c j i (fun p hp => h p (by omega))
theorem shG_v (g : Nat → Int32) (c p : Nat) : ∀ i, p < i → shG g c i (100 + 7 * p + c) = if badG g c p then -1 else g (100 + 7 * p + c)
  | 0, h => by omega
  | i + 1, h => by
    rw [shG_s]
    by_cases e : p = i
    · subst e
      cases q : badG g c p
      · simp only [Bool.false_eq_true, if_false]
        exact shG_o g c _ p (fun p' hp' => by omega)
      · simp only [if_true]
        rw [pk_us]
    · have ih := shG_v g c p i (by omega)
      cases badG g c i
      · exact ih
      · show upd (shG g c i) (100 + 7 * i + c) (-1) (100 + 7 * p + c) = _
        rw [pk_un (by omega)]; exact ih
theorem shF_v (f g : Nat → Int32) (c p : Nat) : ∀ i, p < i → shF f g c i (99 + 7 * p + c) = if badG g c p then -1 else f (99 + 7 * p + c)
  | 0, h => by omega
  | i + 1, h => by
    rw [shF_s]
    by_cases e : p = i
    · subst e
      cases q : badG g c p
      · simp only [Bool.false_eq_true, if_false]
        exact shF_o f g c _ p (fun p' hp' => by omega)
      · simp only [if_true]
        rw [pk_us]
    · have ih := shF_v f g c p i (by omega)
      cases badG g c i
      · exact ih
      · show upd (shF f g c i) (99 + 7 * i + c) (-1) (99 + 7 * p + c) = _
        rw [pk_un (by omega)]; exact ih
theorem sh_all {f g : Nat → Int32} {n a : Nat} (hS : SG f g) (hP : PW f g n a) (ha : a < 4) : SG (shF f g a n) (shG g a n) ∧ PG (shF f g a n) (shG g a n) n := by
  have hn := hP.1
  have hg : ∀ j, j < 97 → shG g a n j = g j := fun j hj => shG_o g a j n (fun p hp => by omega)
  have hf : ∀ j, j < 96 ∨ 138 ≤ j → shF f g a n j = f j := fun j hj => shF_o f g a j n (fun p hp => by omega)
  obtain ⟨q1, q2, q3, q4, q5⟩ := hP
  refine ⟨SG_cg hS (fun j hj => hf j (by omega)) (fun j hj => hg j (by omega)) (fun j hj _ => hf j (by omega)), q1, by rw [hg _ (by omega)]; exact q2, by rw [hf _ (by omega)]; exact q3, fun p hp j hj => ?_, fun p hp => ?_⟩
  · by_cases e : j = 3 + a
    · subst e
      have := q4 p hp (3 + a) (by omega)
      rw [show 96 + 7 * p + (3 + a) = 99 + 7 * p + a by omega, show 97 + 7 * p + (3 + a) = 100 + 7 * p + a by omega] at this ⊢
      rw [shF_v f g a p n hp, shG_v g a p n hp, this]
    · rw [shF_o f g a _ n (fun p' hp' => by omega), shG_o g a _ n (fun p' hp' => by omega)]
      exact q4 p hp j hj
  · obtain ⟨w1, w2, w3, w4, w5⟩ := q5 p hp
    refine ⟨by rw [shG_o g a _ n (fun p' hp' => by omega)]; exact w1, by rw [shG_o g a _ n (fun p' hp' => by omega)]; exact w2, by rw [shG_o g a _ n (fun p' hp' => by omega)]; exact w3, fun c hc => ?_⟩
    by_cases e : c = a
    · subst e
      rw [shG_v g c p n hp]
      rcases sit_T w5 with ⟨h1, h2⟩ | ⟨t, ht, h1, h2, h3⟩
      · have hb : badG g c p = false := by unfold badG; rw [h1]
        rw [hb]
        left
        rcases trp_ok w5 with ⟨-, -, h4⟩ | ⟨t, ht, h4, -, -⟩
        · exact h4
        · rw [h1] at h4; cases h4
      · have hb : badG g c p = !lawG g c t := by unfold badG; rw [h1]
        rw [hb]
        cases e2 : lawG g c t
        · exact Or.inl rfl
        · exact Or.inr ⟨t, ht, h3, by rw [law_cg (fun j hj => hg j (by omega)) hc ht]; exact e2⟩
    · rw [shG_o g a _ n (fun p' hp' => by omega)]
      rcases w4 c hc e with q | ⟨t, ht, q, hl⟩
      · exact Or.inl q
      · exact Or.inr ⟨t, ht, q, by rw [law_cg (fun j hj => hg j (by omega)) hc ht]; exact hl⟩
theorem C_shL (s : Mem) {f g : Nat → Int32} {n a : Nat} (hS : SG f g) (hP : PW f g n a) (ha : a < 4) : lp (fun z => bX0_closes_32 z.2.2 (nI a) z.1 z.2.1) 600 ((0 : Int32), (0 : Int32), upR s 2 f) = some (nI (shN g a n), upR s 2 (shF f g a n)) := by
  have hn := hP.1
  have hs : ∀ i, i < n → bX0_closes_32 (upR s 2 (shF f g a i)) (nI a) (nI (shN g a i)) (nI i) = some (.inr (nI (shN g a (i + 1)), nI (i + 1), upR s 2 (shF f g a (i + 1)))) := by
    intro i hi
    have e138 : shF f g a i 138 = nI n := by rw [shF_o f g a _ i (fun p hp => by omega)]; exact hP.2.2.1
    have esit : shF f g a i (99 + 7 * i + a) = g (100 + 7 * i + a) := by
      rw [shF_o f g a _ i (fun p hp => by omega)]
      have := hP.2.2.2.1 i hi (3 + a) (by omega)
      rw [show 96 + 7 * i + (3 + a) = 99 + 7 * i + a by omega, show 97 + 7 * i + (3 + a) = 100 + 7 * i + a by omega] at this
      exact this
    unfold bX0_closes_32
    rw [C_pupils, upR_s, e138, Option.bind_some, if_neg (nI_cn hi hn), C_sits _ (by omega) ha, Option.bind_some, upR_s, esit, sits_up _ _ _ (by omega) ha, shF_s, shN_s]
    simp only [lt, nI_p1, Option.bind_some]
    rcases sit_T (hP.2.2.2.2 i hi).2.2.2.2 with ⟨h1, h2⟩ | ⟨t, ht, h1, h2, h3⟩
    · have hb : badG g a i = false := by unfold badG; rw [h1]
      rw [if_pos h2, hb]; rfl
    · have hb : badG g a i = !lawG g a t := by unfold badG; rw [h1]
      have eh : shF f g a i (139 + 8 * a + t) = hrsG g a t := by
        rw [shF_o f g a _ i (fun p hp => by omega)]; exact hS.2.1 a ha t ht
      rw [if_neg h2, h3, C_hoursOf _ ha ht, Option.bind_some, upR_s, eh, hb]
      unfold hrsG
      cases e2 : lawG g a t
      · rfl
      · rw [if_pos rfl, if_pos (by have := SG_hrOK hS a ha t ht; rw [i32_le]; rw [i32_lt] at this; exact Int.not_lt.mp this)]; rfl
  have he : bX0_closes_32 (upR s 2 (shF f g a n)) (nI a) (nI (shN g a n)) (nI n) = some (.inl (nI (shN g a n), upR s 2 (shF f g a n))) := by
    have e138 : shF f g a n 138 = nI n := by rw [shF_o f g a _ n (fun p hp => by omega)]; exact hP.2.2.1
    unfold bX0_closes_32
    rw [C_pupils, upR_s, e138, Option.bind_some, if_pos (nI_le (Nat.le_refl n) (by omega))]
  exact lp_at (body := fun z => bX0_closes_32 z.2.2 (nI a) z.1 z.2.1) (a := ((0 : Int32), (0 : Int32), upR s 2 f)) (k := 600) (fun i => (nI (shN g a i), nI i, upR s 2 (shF f g a i))) n rfl hs he (by omega)
theorem M_shL (s : Mem) {f g : Nat → Int32} {n a : Nat} (hP : PW f g n a) (ha : a < 4) : lp (fun z => bX7_shut_71 z.2.2 (nI a) z.1 z.2.1) 600 ((0 : Int32), (0 : Int32), upR s 20 g) = some (nI (shN g a n), upR s 20 (shG g a n)) := by
  have hn := hP.1
  have hs : ∀ i, i < n → bX7_shut_71 (upR s 20 (shG g a i)) (nI a) (nI (shN g a i)) (nI i) = some (.inr (nI (shN g a (i + 1)), nI (i + 1), upR s 20 (shG g a (i + 1)))) := by
    intro i hi
    have e96 : shG g a i 96 = nI n := by rw [shG_o g a _ i (fun p hp => by omega)]; exact hP.2.1
    have esit : shG g a i (100 + 7 * i + a) = g (100 + 7 * i + a) := shG_o g a _ i (fun p hp => by omega)
    unfold bX7_shut_71
    simp only [cl96]
    rw [gd96, upR_s, e96, if_neg (nI_cn hi hn), M_triple _ (by omega) ha, Option.bind_some, Option.bind_some, upR_s, esit, puts_up _ _ _ (by omega) ha, shG_s, shN_s]
    simp only [lt, nI_p1, Option.bind_some]
    rcases sit_T (hP.2.2.2.2 i hi).2.2.2.2 with ⟨h1, h2⟩ | ⟨t, ht, h1, h2, h3⟩
    · have hb : badG g a i = false := by unfold badG; rw [h1]
      rw [if_pos h2, hb]; rfl
    · have hb : badG g a i = !lawG g a t := by unfold badG; rw [h1]
      rw [if_neg h2, h3, M_isLawful _ ha ht, Option.bind_some, bi_n0, upR_s, law_cg (g := g) (fun j hj => shG_o g a j i (fun p hp => by omega)) ha ht, hb]
      cases e2 : lawG g a t <;> rfl
  have he : bX7_shut_71 (upR s 20 (shG g a n)) (nI a) (nI (shN g a n)) (nI n) = some (.inl (nI (shN g a n), upR s 20 (shG g a n))) := by
    have e96 : shG g a n 96 = nI n := by rw [shG_o g a _ n (fun p hp => by omega)]; exact hP.2.1
    unfold bX7_shut_71
    simp only [cl96]
    rw [gd96, upR_s, e96, if_pos (nI_le (Nat.le_refl n) (by omega))]
  exact lp_at (body := fun z => bX7_shut_71 z.2.2 (nI a) z.1 z.2.1) (a := ((0 : Int32), (0 : Int32), upR s 20 g)) (k := 600) (fun i => (nI (shN g a i), nI i, upR s 20 (shG g a i))) n rfl hs he (by omega)
theorem M_sh38 (s : Mem) (g : Nat → Int32) {a b d : Nat} (ha : a < 4) (hb : b < 3) (hd : d < 2) : lp (fun z => bX7_shut_38 z.2 (nI a) (nI b) (nI d) z.1) 600 ((0 : Int32), upR s 20 g) = some (upR s 20 (opU g (24 * a + 8 * b + 4 * d) 0 0 0 0)) := by
  have hs : ∀ i, i < 4 → bX7_shut_38 (upR s 20 (itr (fun j G => upd G (24 * a + 8 * b + 4 * d + j) 0) g i)) (nI a) (nI b) (nI d) (nI i) = some (.inr (nI (i + 1), upR s 20 (itr (fun j G => upd G (24 * a + 8 * b + 4 * d + j) 0) g (i + 1)))) := by
    intro i hi
    unfold bX7_shut_38
    rw [if_neg (nI_c4 hi), M_at a ha b hb d hd, Option.bind_some, nI_add, gd_in (by omega) (by omega), nI_clamp (by omega)]
    simp only [lt, nI_p1]
    rw [up2_R, upR_s, upR_R]
    rfl
  have he : bX7_shut_38 (upR s 20 (itr (fun j G => upd G (24 * a + 8 * b + 4 * d + j) 0) g 4)) (nI a) (nI b) (nI d) (nI 4) = some (.inl (upR s 20 (itr (fun j G => upd G (24 * a + 8 * b + 4 * d + j) 0) g 4))) := by
    unfold bX7_shut_38
    rw [if_pos (by decide)]
  exact lp_at (body := fun z => bX7_shut_38 z.2 (nI a) (nI b) (nI d) z.1) (a := ((0 : Int32), upR s 20 g)) (k := 600) (fun i => (nI i, upR s 20 (itr (fun j G => upd G (24 * a + 8 * b + 4 * d + j) 0) g i))) 4 rfl hs he (by omega)
theorem call_shut {s : Mem} (hR : Rel s) (c so w : Int32) : OK2 (fX6_shut s c so w) (fun s1 => fX7_shut s1 c so w) := by
  obtain ⟨hS, n, hP⟩ := hR.1
  have hn := hP.1
  cases e1 : isSec c so w
  · refine fnd hR 0 (by omega) _ ?_ (fun s1 h1 _ => ?_)
    · unfold fX6_shut; rw [C_isSection, e1]; rfl
    · show fX7_shut s1 c so w = _
      unfold fX7_shut; rw [M_isSection, e1]; rfl
  obtain ⟨a, b, d, ha, hb, hd, rfl, rfl, rfl⟩ := isSec_ex e1
  cases e2 : opn (s.1 20) a b d
  · refine fnd hR 3 (by omega) _ ?_ (fun s1 h1 _ => ?_)
    · unfold fX6_shut; rw [C_isSection, e1, Option.bind_some, bi_n0, if_pos rfl, C_isOpen s ha hb hd, SR_opn hS.1 ha hb hd, e2]; rfl
    · show fX7_shut s1 (nI a) (nI b) (nI d) = _
      unfold fX7_shut; rw [M_isSection, e1, Option.bind_some, bi_n0, if_pos rfl, M_isOpen s1 ha hb hd, h1 20 (by omega), e2]; rfl
  obtain ⟨s1, b1, b2, b3, b4, b5, b6, -⟩ := C_beg hR
  generalize hg1 : opU (s.1 20) (24 * a + 8 * b + 4 * d) 0 0 0 0 = g1
  generalize hf1 : upd (s.1 2) (24 * a + 8 * b + 4 * d) 0 = f1
  have f1o : ∀ j, j ≠ 24 * a + 8 * b + 4 * d → f1 j = s.1 2 j := fun j hj => by rw [← hf1, pk_un hj]
  have h1 : SR f1 g1 := by
    intro c hc so hs w hw
    rw [← hg1]
    by_cases e : c = a ∧ so = b ∧ w = d
    · obtain ⟨rfl, rfl, rfl⟩ := e
      rw [opU_0, ← hf1, pk_us]
      exact ⟨rfl, fun q => absurd q (by decide)⟩
    · rw [opU_o (by omega), opU_o (by omega), opU_o (by omega), opU_o (by omega), f1o _ (by omega), f1o _ (by omega), f1o _ (by omega), f1o _ (by omega)]
      exact hS.1 c hc so hs w hw
  have h2 : secOK f1 g1 := by
    intro c hc so hs w hw
    have := hS.2.2 c hc so hs w hw
    rw [f1o _ (by omega), ← hg1]
    by_cases e : c = a ∧ so = b ∧ w = d
    · obtain ⟨rfl, rfl, rfl⟩ := e
      rw [opU_0, opU_1, opU_2]
      exact ⟨Or.inl rfl, hr_0, ⟨0, by omega, rfl⟩, this.2.2.2⟩
    · rw [opU_o (by omega), opU_o (by omega), opU_o (by omega)]
      exact this
  obtain ⟨a1, a2⟩ := op_all hS hP ha h1 h2 (fun j hj => f1o j (by omega)) (fun j hj => by rw [← hg1, opU_o (by omega)])
  have hG := sh_all a1 a2 ha
  refine ok_chg hR (a := nI (shN g1 a n)) (s1 := upR s1 2 (shF (newF f1 g1 a) g1 a n)) ?_ (b2 _) ⟨hG.1, n, hG.2⟩ (fun s2 k1 k2 => ?_)
  · have hfl := C_findLawful (upR s1 2 f1) (g := g1) (c := a) (by rw [upR_s]; exact h1) ha
    rw [finS_R] at hfl
    have e0 : (24 : Int32) * nI a + (8 : Int32) * nI b + (4 : Int32) * nI d + (0 : Int32) = nI (24 * a + 8 * b + 4 * d) := ixS (c := a) (so := b) (w := d) (j := 0)
    unfold fX6_shut fX0_closes
    rw [C_isSection, e1, Option.bind_some, bi_n0, if_pos rfl, C_isOpen s ha hb hd, SR_opn hS.1 ha hb hd, e2, Option.bind_some, bi_n0, if_pos rfl, b1, Option.bind_some, e0, gd_in (by omega) (by omega), nI_clamp (by omega)]
    simp only [lt]
    rw [up2_R, b3, hf1, hfl, Option.bind_some]
    have := C_shL s1 a1 a2 ha
    unfold newF at this ⊢
    rw [this]
    rfl
  · have e20 : (upR s1 2 (shF (newF f1 g1 a) g1 a n)).1 20 = s.1 20 := by rw [upR_1, if_neg (by omega), b4]
    show fX7_shut (upR s1 2 (shF (newF f1 g1 a) g1 a n)) (nI a) (nI b) (nI d) = _
    unfold fX7_shut
    rw [M_isSection, e1, Option.bind_some, bi_n0, if_pos rfl, M_isOpen _ ha hb hd, e20, e2, Option.bind_some, bi_n0, if_pos rfl, M_aside, Option.bind_some, aside_id, e20, M_sh38 _ _ ha hb hd, Option.bind_some, hg1, M_shL _ a2 ha, Option.bind_some]
    simp only
    rw [e20] at k1
    rw [k1]
    rfl
