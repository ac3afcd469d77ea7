/-! count, seed -/
def opnC (g : Nat → Int32) (c : Nat) : Int32 → Nat → Int32 := fun v => itr (fun j a => a + bi (opn g c (j / 2) (j % 2))) v
def opnA (g : Nat → Int32) : Nat → Int32 := itr (fun c a => opnC g c a 6) 0
theorem opnC_s (g : Nat → Int32) (c : Nat) (v : Int32) (j : Nat) : opnC g c v (j + 1) = opnC g c v j + bi (opn g c (j / 2) (j % 2)) := rfl
theorem opn_cell {f g : Nat → Int32} (hS : SG f g) {c so w : Nat} (hc : c < 4) (hs : so < 3) (hw : w < 2) : f (24 * c + 8 * so + 4 * w) = bi (opn g c so w) := by
  rw [(hS.1 c hc so hs w hw).1]
  unfold opn
  rcases (hS.2.2 c hc so hs w hw).1 with h | h
  · rw [h]; rfl
  · rw [h]; rfl
theorem half : ∀ i, i < 6 → (nI i >>> ((1 : Int32) &&& 31)) = nI (i / 2) ∧ (nI i &&& (1 : Int32)) = nI (i % 2) := by decide +kernel
theorem C_openSections (s : Mem) {g : Nat → Int32} (hS : SG (s.1 2) g) : fX0_openSections s = some (opnA g 4) := by
  have hi : ∀ c, c < 4 → ∀ v, lp (fun a => bX0_openSections_11 s (nI c) a.1 a.2) 600 (v, (0 : Int32)) = some (opnC g c v 6) := by
    intro c hc v
    have hs : ∀ i, i < 6 → bX0_openSections_11 s (nI c) (opnC g c v i) (nI i) = some (.inr (opnC g c v (i + 1), nI (i + 1))) := by
      intro i hi
      have h6 : ¬ (6 : Int32) ≤ nI i := by rw [show (6 : Int32) = nI 6 from rfl, nI_leI (by omega) (by omega)]; omega
      have h0 := C_ofSection s hc (so := i / 2) (w := i % 2) (by omega) (by omega) (j := 0) (by omega)
      rw [show nI 0 = (0 : Int32) from rfl, Nat.add_zero, opn_cell hS hc (by omega) (by omega)] at h0
      unfold bX0_openSections_11
      rw [if_neg h6, (half i hi).1, (half i hi).2, h0, Option.bind_some, opnC_s]
      simp only [lt, nI_p1]
    have he : bX0_openSections_11 s (nI c) (opnC g c v 6) (nI 6) = some (.inl (opnC g c v 6)) := by
      unfold bX0_openSections_11
      rw [if_pos (by decide)]
    exact lp_at (body := fun a => bX0_openSections_11 s (nI c) a.1 a.2) (a := (v, (0 : Int32))) (k := 600) (fun i => (opnC g c v i, nI i)) 6 rfl hs he (by omega)
  have hs : ∀ i, i < 4 → bX0_openSections_4 s (opnA g i) (nI i) = some (.inr (opnA g (i + 1), nI (i + 1))) := by
    intro i hi'
    unfold bX0_openSections_4
    rw [if_neg (nI_c4 hi'), hi i hi', Option.bind_some]
    simp only [lt, nI_p1]
    rfl
  have he : bX0_openSections_4 s (opnA g 4) (nI 4) = some (.inl (opnA g 4)) := by
    unfold bX0_openSections_4
    rw [if_pos (by decide)]
  unfold fX0_openSections
  rw [lp_at (body := fun a => bX0_openSections_4 s a.1 a.2) (a := ((0 : Int32), (0 : Int32))) (k := 600) (fun i => (opnA g i, nI i)) 4 rfl hs he (by omega)]
  rfl
theorem M_openMany (s : Mem) : fX7_openMany s = some (opnA (s.1 20) 4) := by
  have h1 : ∀ c, c < 4 → ∀ so, so < 3 → ∀ v, lp (fun a => bX7_openMany_19 s (nI c) (nI so) a.1 a.2) 600 (v, (0 : Int32)) = some (v + bi (opn (s.1 20) c so 0) + bi (opn (s.1 20) c so 1)) := by
    intro c hc so hso v
    have hs : ∀ i, i < 2 → bX7_openMany_19 s (nI c) (nI so) (itr (fun w a => a + bi (opn (s.1 20) c so w)) v i) (nI i) = some (.inr (itr (fun w a => a + bi (opn (s.1 20) c so w)) v (i + 1), nI (i + 1))) := by
      intro i hi
      have e : itr (fun w a => a + bi (opn (s.1 20) c so w)) v (i + 1) = itr (fun w a => a + bi (opn (s.1 20) c so w)) v i + bi (opn (s.1 20) c so i) := rfl
      unfold bX7_openMany_19
      rw [if_neg (nI_c2 hi), M_isOpen s hc hso hi, Option.bind_some, bi_n0, e]
      simp only [lt, nI_p1]
      cases opn (s.1 20) c so i <;> rfl
    have he : bX7_openMany_19 s (nI c) (nI so) (itr (fun w a => a + bi (opn (s.1 20) c so w)) v 2) (nI 2) = some (.inl (itr (fun w a => a + bi (opn (s.1 20) c so w)) v 2)) := by
      unfold bX7_openMany_19
      rw [if_pos (by decide)]
    exact lp_at (body := fun a => bX7_openMany_19 s (nI c) (nI so) a.1 a.2) (a := (v, (0 : Int32))) (k := 600) (fun i => (itr (fun w a => a + bi (opn (s.1 20) c so w)) v i, nI i)) 2 rfl hs he (by omega)
  have h2 : ∀ c, c < 4 → ∀ v, lp (fun a => bX7_openMany_11 s (nI c) a.1 a.2) 600 (v, (0 : Int32)) = some (opnC (s.1 20) c v 6) := by
    intro c hc v
    have hs : ∀ i, i < 3 → bX7_openMany_11 s (nI c) (opnC (s.1 20) c v (2 * i)) (nI i) = some (.inr (opnC (s.1 20) c v (2 * (i + 1)), nI (i + 1))) := by
      intro i hi
      unfold bX7_openMany_11
      rw [if_neg (nI_c3 hi), h1 c hc i hi, Option.bind_some, show 2 * (i + 1) = 2 * i + 1 + 1 by omega, opnC_s, opnC_s, show 2 * i / 2 = i by omega, show 2 * i % 2 = 0 by omega, show (2 * i + 1) / 2 = i by omega, show (2 * i + 1) % 2 = 1 by omega]
      simp only [lt, nI_p1]
    have he : bX7_openMany_11 s (nI c) (opnC (s.1 20) c v (2 * 3)) (nI 3) = some (.inl (opnC (s.1 20) c v 6)) := by
      unfold bX7_openMany_11
      rw [if_pos (by decide)]
    exact lp_at (body := fun a => bX7_openMany_11 s (nI c) a.1 a.2) (a := (v, (0 : Int32))) (k := 600) (fun i => (opnC (s.1 20) c v (2 * i), nI i)) 3 rfl hs he (by omega)
  have hs : ∀ i, i < 4 → bX7_openMany_4 s (opnA (s.1 20) i) (nI i) = some (.inr (opnA (s.1 20) (i + 1), nI (i + 1))) := by
    intro i hi'
    unfold bX7_openMany_4
    rw [if_neg (nI_c4 hi'), h2 i hi', Option.bind_some]
    simp only [lt, nI_p1]
    rfl
  have he : bX7_openMany_4 s (opnA (s.1 20) 4) (nI 4) = some (.inl (opnA (s.1 20) 4)) := by
    unfold bX7_openMany_4
    rw [if_pos (by decide)]
  unfold fX7_openMany
  rw [lp_at (body := fun a => bX7_openMany_4 s a.1 a.2) (a := ((0 : Int32), (0 : Int32))) (k := 600) (fun i => (opnA (s.1 20) i, nI i)) 4 rfl hs he (by omega)]
  rfl
theorem nI_cn {i n : Nat} (h : i < n) (hn : n ≤ 6) : ¬ nI n ≤ nI i := by rw [nI_leI (by omega) (by omega)]; omega
theorem wsh_hr {f g : Nat → Int32} {n p : Nat} (hP : PG f g n) (hp : p < n) : hr (g (99 + 7 * p)) := by
  obtain ⟨w, hw, e⟩ := (hP.2.2.2.2 p hp).2.2.1
  exact ⟨w, by omega, e⟩
theorem C_priceOfAll (s : Mem) {g : Nat → Int32} {n : Nat} (hS : SG (s.1 2) g) (hP : PG (s.1 2) g n) : fX0_priceOfAll s = some (sumI (prcG g) n) := by
  have hn := hP.1
  have hs : ∀ i, i < n → bX0_priceOfAll_4 s (sumI (prcG g) i) (nI i) = some (.inr (sumI (prcG g) (i + 1), nI (i + 1))) := by
    intro i hi
    unfold bX0_priceOfAll_4
    rw [C_pupils, hP.2.2.1, Option.bind_some, if_neg (nI_cn hi hn), C_priceP s hS hP hi, Option.bind_some, sumI_s]
    simp only [lt, nI_p1]
  have he : bX0_priceOfAll_4 s (sumI (prcG g) n) (nI n) = some (.inl (sumI (prcG g) n)) := by
    unfold bX0_priceOfAll_4
    rw [C_pupils, hP.2.2.1, Option.bind_some, if_pos (nI_le (Nat.le_refl n) (by omega))]
  unfold fX0_priceOfAll
  rw [lp_at (body := fun a => bX0_priceOfAll_4 s a.1 a.2) (a := ((0 : Int32), (0 : Int32))) (k := 600) (fun i => (sumI (prcG g) i, nI i)) n rfl hs he (by omega)]
  rfl
theorem C_seats (s : Mem) {g : Nat → Int32} {n : Nat} (hS : SG (s.1 2) g) (hP : PG (s.1 2) g n) : fX0_seats s = some (sumI (fun p => nI (sitN g p 4)) n) := by
  have hn := hP.1
  have hs : ∀ i, i < n → bX0_seats_4 s (sumI (fun p => nI (sitN g p 4)) i) (nI i) = some (.inr (sumI (fun p => nI (sitN g p 4)) (i + 1), nI (i + 1))) := by
    intro i hi
    unfold bX0_seats_4
    rw [C_pupils, hP.2.2.1, Option.bind_some, if_neg (nI_cn hi hn), C_sitsIn s (Gd_BR hS hP) hi, Option.bind_some, sumI_s]
    simp only [lt, nI_p1]
  have he : bX0_seats_4 s (sumI (fun p => nI (sitN g p 4)) n) (nI n) = some (.inl (sumI (fun p => nI (sitN g p 4)) n)) := by
    unfold bX0_seats_4
    rw [C_pupils, hP.2.2.1, Option.bind_some, if_pos (nI_le (Nat.le_refl n) (by omega))]
  unfold fX0_seats
  rw [lp_at (body := fun a => bX0_seats_4 s a.1 a.2) (a := ((0 : Int32), (0 : Int32))) (k := 600) (fun i => (sumI (fun p => nI (sitN g p 4)) i, nI i)) n rfl hs he (by omega)]
  rfl
def wshI (g : Nat → Int32) (p : Nat) : Int32 := bitI (g (99 + 7 * p))
theorem C_openWishes (s : Mem) {g : Nat → Int32} {n : Nat} (hS : SG (s.1 2) g) (hP : PG (s.1 2) g n) : fX0_openWishes s = some (sumI (fun p => wshI g p - nI (sitN g p 4)) n) := by
  have hn := hP.1
  have hs : ∀ i, i < n → bX0_openWishes_4 s (sumI (fun p => wshI g p - nI (sitN g p 4)) i) (nI i) = some (.inr (sumI (fun p => wshI g p - nI (sitN g p 4)) (i + 1), nI (i + 1))) := by
    intro i hi
    have hw := C_ofPupil s (p := i) (by omega) (j := 2) (by omega)
    rw [show nI 2 = (2 : Int32) from rfl, hP.2.2.2.1 i hi 2 (by omega), show 97 + 7 * i + 2 = 99 + 7 * i by omega] at hw
    unfold bX0_openWishes_4
    rw [C_pupils, hP.2.2.1, Option.bind_some, if_neg (nI_cn hi hn), hw, Option.bind_some, C_bitI (wsh_hr hP hi), Option.bind_some, C_sitsIn s (Gd_BR hS hP) hi, Option.bind_some, sumI_s]
    simp only [lt, nI_p1]
    rfl
  have he : bX0_openWishes_4 s (sumI (fun p => wshI g p - nI (sitN g p 4)) n) (nI n) = some (.inl (sumI (fun p => wshI g p - nI (sitN g p 4)) n)) := by
    unfold bX0_openWishes_4
    rw [C_pupils, hP.2.2.1, Option.bind_some, if_pos (nI_le (Nat.le_refl n) (by omega))]
  unfold fX0_openWishes
  rw [lp_at (body := fun a => bX0_openWishes_4 s a.1 a.2) (a := ((0 : Int32), (0 : Int32))) (k := 600) (fun i => (sumI (fun p => wshI g p - nI (sitN g p 4)) i, nI i)) n rfl hs he (by omega)]
  rfl
theorem M_countL {f : Nat → Int32} (s : Mem) {n : Nat} (x : Int32) (hS : SG f (s.1 20)) (hP : PG f (s.1 20) n) : lp (fun a => bX7_count_10 s x a.1 a.2.1 a.2.2.1 a.2.2.2) 600 ((0 : Int32), (0 : Int32), (0 : Int32), (0 : Int32)) = some (sumI (fun p => nI (sitN (s.1 20) p 4)) n, sumI (prcG (s.1 20)) n, sumI (wshI (s.1 20)) n) := by
  have hn := hP.1
  have hs : ∀ i, i < n → bX7_count_10 s x (sumI (fun p => nI (sitN (s.1 20) p 4)) i) (sumI (prcG (s.1 20)) i) (sumI (wshI (s.1 20)) i) (nI i) = some (.inr (sumI (fun p => nI (sitN (s.1 20) p 4)) (i + 1), sumI (prcG (s.1 20)) (i + 1), sumI (wshI (s.1 20)) (i + 1), nI (i + 1))) := by
    intro i hi
    unfold bX7_count_10
    simp only [cl96]
    rw [gd96, hP.2.1, if_neg (nI_cn hi hn), M_putMany s (by omega), Option.bind_some]
    simp only [lt]
    rw [M_costP s hS hP hi, Option.bind_some, M_wishes s (by omega), Option.bind_some, M_bitI (wsh_hr hP hi), Option.bind_some, sumI_s, sumI_s, sumI_s, nI_p1]
    rfl
  have he : bX7_count_10 s x (sumI (fun p => nI (sitN (s.1 20) p 4)) n) (sumI (prcG (s.1 20)) n) (sumI (wshI (s.1 20)) n) (nI n) = some (.inl (sumI (fun p => nI (sitN (s.1 20) p 4)) n, sumI (prcG (s.1 20)) n, sumI (wshI (s.1 20)) n)) := by
    unfold bX7_count_10
    simp only [cl96]
    rw [gd96, hP.2.1, if_pos (nI_le (Nat.le_refl n) (by omega))]
  exact lp_at (body := fun a => bX7_count_10 s x a.1 a.2.1 a.2.2.1 a.2.2.2) (a := ((0 : Int32), (0 : Int32), (0 : Int32), (0 : Int32))) (k := 600) (fun i => (sumI (fun p => nI (sitN (s.1 20) p 4)) i, sumI (prcG (s.1 20)) i, sumI (wshI (s.1 20)) i, nI i)) n rfl hs he (by omega)
theorem call_count {s : Mem} (hR : Rel s) (x : Int32) : OK2 (fX6_count s x) (fun s1 => fX7_count s1 x) := by
  obtain ⟨hS, n, hP⟩ := hR.1
  have hn := hP.1
  obtain ⟨u, sl, fs, hu, hsl, hfs, e1, e2, e3, e4, -⟩ := hR.2.1
  obtain ⟨L, hL, l1, l2, -⟩ := hR.2.2.2.2.1
  have hz := hR.2.2.2.1
  have hM := M_countL s x hS hP
  by_cases q0 : x = 0
  · refine ⟨nI n, s, s, ?_, ?_, hR⟩
    · unfold fX6_count; rw [if_pos q0, C_pupils, hP.2.2.1]; rfl
    · show fX7_count s x = _
      unfold fX7_count; rw [hM, Option.bind_some, if_pos q0, gd96, cl96, hP.2.1]
  · by_cases q1 : x = 1
    · refine ⟨opnA (s.1 20) 4, s, s, ?_, ?_, hR⟩
      · unfold fX6_count; rw [if_neg q0, if_pos q1, C_openSections s hS]; rfl
      · show fX7_count s x = _
        unfold fX7_count; rw [hM, Option.bind_some, if_neg q0, if_pos q1, M_openMany]; rfl
    · by_cases q2 : x = 2
      · refine ⟨sumI (fun p => nI (sitN (s.1 20) p 4)) n, s, s, ?_, ?_, hR⟩
        · unfold fX6_count; rw [if_neg q0, if_neg q1, if_pos q2, C_seats s hS hP]; rfl
        · show fX7_count s x = _
          unfold fX7_count; rw [hM, Option.bind_some, if_neg q0, if_neg q1, if_pos q2]
      · by_cases q3 : x = 3
        · refine ⟨sumI (prcG (s.1 20)) n, s, s, ?_, ?_, hR⟩
          · unfold fX6_count; rw [if_neg q0, if_neg q1, if_neg q2, if_pos q3, C_priceOfAll s hS hP]; rfl
          · show fX7_count s x = _
            unfold fX7_count; rw [hM, Option.bind_some, if_neg q0, if_neg q1, if_neg q2, if_pos q3]
        · by_cases q4 : x = 4
          · refine ⟨nI u, s, s, ?_, ?_, hR⟩
            · unfold fX6_count fX2_kept; rw [if_neg q0, if_neg q1, if_neg q2, if_neg q3, if_pos q4, e2]; rfl
            · show fX7_count s x = _
              unfold fX7_count; rw [hM, Option.bind_some, if_neg q0, if_neg q1, if_neg q2, if_neg q3, if_pos q4, e4]
          · by_cases q5 : x = 5
            · refine ⟨s.1 0 6, s, s, ?_, ?_, hR⟩
              · unfold fX6_count; rw [if_neg q0, if_neg q1, if_neg q2, if_neg q3, if_neg q4, if_pos q5]
              · show fX7_count s x = _
                unfold fX7_count; rw [hM, Option.bind_some, if_neg q0, if_neg q1, if_neg q2, if_neg q3, if_neg q4, if_pos q5, hz]
            · by_cases q6 : x = 6
              · refine ⟨nI L, s, s, ?_, ?_, hR⟩
                · unfold fX6_count fX5_length; rw [if_neg q0, if_neg q1, if_neg q2, if_neg q3, if_neg q4, if_neg q5, if_pos q6, l1]; rfl
                · show fX7_count s x = _
                  unfold fX7_count; rw [hM, Option.bind_some, if_neg q0, if_neg q1, if_neg q2, if_neg q3, if_neg q4, if_neg q5, if_pos q6, l2]
              · by_cases q7 : x = 7
                · refine ⟨sumI (wshI (s.1 20)) n - sumI (fun p => nI (sitN (s.1 20) p 4)) n, s, s, ?_, ?_, hR⟩
                  · unfold fX6_count; rw [if_neg q0, if_neg q1, if_neg q2, if_neg q3, if_neg q4, if_neg q5, if_neg q6, if_pos q7, C_openWishes s hS hP, sumI_sub]; rfl
                  · show fX7_count s x = _
                    unfold fX7_count; rw [hM, Option.bind_some, if_neg q0, if_neg q1, if_neg q2, if_neg q3, if_neg q4, if_neg q5, if_neg q6, if_pos q7]
                · refine fnd hR 0 (by omega) _ ?_ (fun s1 h1 _ => ?_)
                  · unfold fX6_count; rw [if_neg q0, if_neg q1, if_neg q2, if_neg q3, if_neg q4, if_neg q5, if_neg q6, if_neg q7]; rfl
                  · have e20 : s1.1 20 = s.1 20 := h1 20 (by omega)
                    have hM1 := M_countL (f := s.1 2) (n := n) s1 x (by rw [e20]; exact hS) (by rw [e20]; exact hP)
                    show fX7_count s1 x = _
                    unfold fX7_count; rw [hM1, Option.bind_some, if_neg q0, if_neg q1, if_neg q2, if_neg q3, if_neg q4, if_neg q5, if_neg q6, if_neg q7]; rfl
/-- rows that change: z -/
theorem Rel_z {s : Mem} (hR : Rel s) (v : Int32) : Rel (up2 (up2 s 0 6 v) 19 4 v) := by
  obtain ⟨r1, r2, r3, r4, r5, r6⟩ := hR
  generalize hs2 : up2 (up2 s 0 6 v) 19 4 v = s2
  have rr : ∀ a, a ≠ 0 → a ≠ 19 → s2.1 a = s.1 a := fun a q1 q2 => by rw [← hs2, up2_1, if_neg q2, up2_1, if_neg q1]
  have r19 : ∀ j, j ≠ 4 → s2.1 19 j = s.1 19 j := fun j q => by rw [← hs2, up2_get, if_neg (by omega), up2_get, if_neg (by omega)]
  have rl : s2.2 = s.2 := by rw [← hs2]; rfl
  refine ⟨?_, ?_, ?_, ?_, ?_, ?_⟩
  · rw [rr 2 (by omega) (by omega), rr 20 (by omega) (by omega)]; exact r1
  · obtain ⟨u, sl, fs, hu, hsl, hfs, e1, e2, e3, e4, hk⟩ := r2
    refine ⟨u, sl, fs, hu, hsl, hfs, by rw [rr 3 (by omega) (by omega)]; exact e1, by rw [rr 3 (by omega) (by omega)]; exact e2, by rw [r19 2 (by omega)]; exact e3, by rw [r19 3 (by omega)]; exact e4, fun i hi => ?_⟩
    rw [rr 4 (by omega) (by omega), rr (37 + (fs + i) % 30) (by omega) (by omega)]
    exact hk i hi
  · intro j hj
    rw [rr 18 (by omega) (by omega), rr 22 (by omega) (by omega)]
    exact r3 j hj
  · rw [← hs2, up2_get, if_neg (by omega), up2_get, if_pos (by omega), up2_get, if_pos (by omega)]
  · obtain ⟨L, hL, e1, e2, e3⟩ := r5
    refine ⟨L, hL, ?_, ?_, fun i hi => ?_⟩
    · rw [rr 12 (by omega) (by omega)]; exact e1
    · rw [r19 19 (by omega)]; exact e2
    · rw [rr 28 (by omega) (by omega), rr 13 (by omega) (by omega)]; exact e3 i hi
  · intro k hk
    obtain ⟨e1, e2, e3, e4, e5⟩ := r6 k hk
    rw [rr 16 (by omega) (by omega), rr 17 (by omega) (by omega), rr 29 (by omega) (by omega), rr 30 (by omega) (by omega)]
    refine ⟨e1, e2, e3, e4, fun i hi => ?_⟩
    rw [rl]
    exact e5 i hi
theorem call_seed {s : Mem} (hR : Rel s) (v : Int32) : OK2 (fX6_seed s v) (fun s1 => fX7_seed s1 v) := by
  refine ⟨s.1 0 6, up2 s 0 6 v, _, rfl, ?_, Rel_z hR v⟩
  show some ((up2 s 0 6 v).1 19 4, up2 (up2 s 0 6 v) 19 4 v) = _
  rw [up2_get, if_neg (by omega), hR.2.2.2.1]
