/-! feed, wipe -/
theorem Rel_tp {s s2 : Mem} (hR : Rel s) (h : TpR s2) (hr : ∀ a, a ≠ 12 → a ≠ 13 → a ≠ 28 → a ≠ 19 → s2.1 a = s.1 a) (h19 : ∀ j, j = 2 ∨ j = 3 ∨ j = 4 → s2.1 19 j = s.1 19 j) (hl : s2.2 = s.2) : Rel s2 := by
  obtain ⟨r1, r2, r3, r4, r5, r6⟩ := hR
  refine ⟨?_, ?_, ?_, ?_, h, ?_⟩
  · rw [hr 2 (by omega) (by omega) (by omega) (by omega), hr 20 (by omega) (by omega) (by omega) (by omega)]; exact r1
  · obtain ⟨u, sl, fs, hu, hsl, hfs, e1, e2, e3, e4, hk⟩ := r2
    refine ⟨u, sl, fs, hu, hsl, hfs, by rw [hr 3 (by omega) (by omega) (by omega) (by omega)]; exact e1, by rw [hr 3 (by omega) (by omega) (by omega) (by omega)]; exact e2, by rw [h19 2 (by omega)]; exact e3, by rw [h19 3 (by omega)]; exact e4, fun i hi => ?_⟩
    rw [hr 4 (by omega) (by omega) (by omega) (by omega), hr (37 + (fs + i) % 30) (by omega) (by omega) (by omega) (by omega)]
    exact hk i hi
  · intro k hk
    rw [hr 18 (by omega) (by omega) (by omega) (by omega), hr 22 (by omega) (by omega) (by omega) (by omega)]
    exact r3 k hk
  · rw [hr 0 (by omega) (by omega) (by omega) (by omega), h19 4 (by omega)]; exact r4
  · intro k hk'
    obtain ⟨q1, q2, q3, q4, q5⟩ := r6 k hk'
    rw [hr 16 (by omega) (by omega) (by omega) (by omega), hr 17 (by omega) (by omega) (by omega) (by omega), hr 29 (by omega) (by omega) (by omega) (by omega), hr 30 (by omega) (by omega) (by omega) (by omega), hl]
    exact ⟨q1, q2, q3, q4, q5⟩
theorem call_wipe {s : Mem} (hR : Rel s) : OK2 (fX6_wipe s) (fun s1 => fX7_wipe s1) := by
  obtain ⟨L, hL, l1, l2, l3⟩ := hR.2.2.2.2.1
  refine ⟨nI L, up2 s 12 1 0, up2 (up2 s 12 1 0) 19 19 0, ?_, ?_, ?_⟩
  · unfold fX6_wipe fX5_empties
    rw [l1]; rfl
  · show fX7_wipe (up2 s 12 1 0) = _
    unfold fX7_wipe
    rw [up2_n (by omega), l2]; rfl
  · refine Rel_tp hR ⟨0, by omega, ?_, ?_, fun i hi => by omega⟩ (fun a q1 q2 q3 q4 => ?_) (fun j hj => ?_) rfl
    · rw [up2_n (by omega), up2_s, pk_us]; rfl
    · rw [up2_s, pk_us]; rfl
    · rw [up2_n q4, up2_n q1]
    · rw [up2_get, if_neg (by omega), up2_n (by omega)]
/-- the i-th byte that is fed of n -/
def fdB (v : Int32) (n i : Nat) : Int32 := v >>> (((8 : Int32) * nI (n - 1 - i)) &&& 31)
theorem byte_ok (x : Int32) : ∃ b, b < 256 ∧ (x &&& (255 : Int32)) = nI b ∧ x.toInt8.toInt32 = (nI b).toInt8.toInt32 := by
  obtain ⟨j, hj, e⟩ := pk_andE x (m := 255) 8 (by decide +kernel)
  refine ⟨j, hj, e, ?_⟩
  rw [← e]
  apply Int32.toBitVec_inj.mp
  have h : (x &&& (255 : Int32)).toInt8 = x.toInt8 := by
    apply Int8.toBitVec_inj.mp
    apply BitVec.eq_of_getLsbD_eq
    intro i hi
    simp only [Int32.toBitVec_toInt8, Int32.toBitVec_and, BitVec.getLsbD_setWidth, BitVec.getLsbD_and, BitVec.getLsbD_signExtend]
    have : ∀ i, i < 8 → (255 : Int32).toBitVec.getLsbD i = true := by decide +kernel
    simp only [hi, show i < 32 by omega, decide_true, if_true, Bool.true_and]
    rw [this i hi, Bool.and_true]
  rw [h]
def fdR (v : Int32) (n L : Nat) (r : Nat → Int32) : Nat → (Nat → Int32) := itr (fun i r' => upd r' (L + i) ((fdB v n i).toInt8.toInt32)) r
def fdM (v : Int32) (n L : Nat) (r : Nat → Int32) : Nat → (Nat → Int32) := itr (fun i r' => upd r' (L + i) (fdB v n i &&& 255)) r
theorem fdR_s (v : Int32) (n L : Nat) (r : Nat → Int32) (i : Nat) : fdR v n L r (i + 1) = upd (fdR v n L r i) (L + i) ((fdB v n i).toInt8.toInt32) := itr_s (fun i r' => upd r' (L + i) ((fdB v n i).toInt8.toInt32)) r i
theorem fdM_s (v : Int32) (n L : Nat) (r : Nat → Int32) (i : Nat) : fdM v n L r (i + 1) = upd (fdM v n L r i) (L + i) (fdB v n i &&& 255) := itr_s (fun i r' => upd r' (L + i) (fdB v n i &&& 255)) r i
theorem fdR_get (v : Int32) (n L : Nat) (r : Nat → Int32) : ∀ i j, fdR v n L r i j = if L ≤ j ∧ j < L + i then (fdB v n (j - L)).toInt8.toInt32 else r j
  | 0, j => by rw [if_neg (by omega)]; rfl
  | i + 1, j => by
    rw [fdR_s]
    by_cases h : j = L + i
    · rw [h, pk_us, if_pos (by omega), Nat.add_sub_cancel_left]
    · rw [pk_un h, fdR_get v n L r i j]
      by_cases h2 : L ≤ j ∧ j < L + i
      · rw [if_pos h2, if_pos (by omega)]
      · rw [if_neg h2, if_neg (by omega)]
theorem fdM_get (v : Int32) (n L : Nat) (r : Nat → Int32) : ∀ i j, fdM v n L r i j = if L ≤ j ∧ j < L + i then (fdB v n (j - L) &&& 255) else r j
  | 0, j => by rw [if_neg (by omega)]; rfl
  | i + 1, j => by
    rw [fdM_s]
    by_cases h : j = L + i
    · rw [h, pk_us, if_pos (by omega), Nat.add_sub_cancel_left]
    · rw [pk_un h, fdM_get v n L r i j]
      by_cases h2 : L ≤ j ∧ j < L + i
      · rw [if_pos h2, if_pos (by omega)]
      · rw [if_neg h2, if_neg (by omega)]
theorem upR_upd_id (s : Mem) (k j : Nat) {x : Int32} (h : s.1 k j = x) : upR s k (upd (s.1 k) j x) = s := by
  rw [← h, upd_id, upR_id]
theorem C_gets (s : Mem) {L n : Nat} (v : Int32) (hn : 1 ≤ n) (hn4 : n ≤ 4) (hL : L + n ≤ 120) (h : s.1 12 1 = nI L) : fX5_gets s v (nI n) = some (nI (L + n), upR (upR s 13 (fdR v n L (s.1 13) n)) 12 (upd (s.1 12) 1 (nI (L + n)))) := by
  have hs : ∀ i, i < n → bX5_gets_4 (upR (upR s 13 (fdR v n L (s.1 13) i)) 12 (upd (s.1 12) 1 (nI (L + i)))) v (nI (n - i) + (-1)) = some (.inr (nI (n - (i + 1)) + (-1), upR (upR s 13 (fdR v n L (s.1 13) (i + 1))) 12 (upd (s.1 12) 1 (nI (L + (i + 1)))))) := by
    intro i hi
    have e1 : nI (n - i) + (-1) = nI (n - 1 - i) := by
      rw [show n - i = n - 1 - i + 1 by omega, pk_m1]
    have g1 : (upR (upR s 13 (fdR v n L (s.1 13) i)) 12 (upd (s.1 12) 1 (nI (L + i)))).1 12 1 = nI (L + i) := by rw [upR_s, pk_us]
    have g3 : (upR (upR s 13 (fdR v n L (s.1 13) i)) 12 (upd (s.1 12) 1 (nI (L + i)))).1 13 = fdR v n L (s.1 13) i := by rw [upR_n (by omega), upR_s]
    unfold bX5_gets_4
    rw [e1, if_neg (nI_pos (by omega)), g1, if_neg (by rw [show (120 : Int32) = nI 120 from rfl, nI_leI (by omega) (by omega)]; omega), gd_in (by omega) (by omega), nI_clamp (by omega), pk_vb, lt_e, lt_e, lt_e]
    have e2 : nI (n - 1 - i) + (-1) = nI (n - (i + 1)) + (-1) := by rw [show n - 1 - i = n - (i + 1) by omega]
    rw [e2]
    congr 2
    refine Prod.ext rfl ?_
    show up2 (up2 (upR (upR s 13 (fdR v n L (s.1 13) i)) 12 (upd (s.1 12) 1 (nI (L + i)))) 13 (L + i) ((fdB v n i).toInt8.toInt32)) 12 1 ((up2 (upR (upR s 13 (fdR v n L (s.1 13) i)) 12 (upd (s.1 12) 1 (nI (L + i)))) 13 (L + i) ((fdB v n i).toInt8.toInt32)).1 12 1 + 1) = _
    rw [up2_n (show 12 ≠ 13 by omega), g1, nI_p1, fdR_s]
    refine Prod.ext (funext fun a => ?_) rfl
    by_cases a12 : a = 12
    · subst a12
      rw [up2_s, up2_n (by omega), upR_s, upR_s, upd_upd, Nat.add_assoc]
    · rw [up2_n a12, upR_n a12]
      by_cases a13 : a = 13
      · subst a13
        rw [up2_s, g3, upR_s]
      · rw [up2_n a13, upR_n a12, upR_n a13, upR_n a13]
  have he : bX5_gets_4 (upR (upR s 13 (fdR v n L (s.1 13) n)) 12 (upd (s.1 12) 1 (nI (L + n)))) v (nI (n - n) + (-1)) = some (.inl (upR (upR s 13 (fdR v n L (s.1 13) n)) 12 (upd (s.1 12) 1 (nI (L + n))))) := by
    unfold bX5_gets_4
    rw [Nat.sub_self, if_pos (by decide)]
  have h0 : ((nI n - 1, s) : Int32 × Mem) = (nI (n - 0) + (-1), upR (upR s 13 (fdR v n L (s.1 13) 0)) 12 (upd (s.1 12) 1 (nI (L + 0)))) := by
    have : upR (upR s 13 (fdR v n L (s.1 13) 0)) 12 (upd (s.1 12) 1 (nI (L + 0))) = s := by
      show upR (upR s 13 (s.1 13)) 12 (upd (s.1 12) 1 (nI L)) = s
      rw [upR_id, upR_upd_id s 12 1 h]
    rw [this, Nat.sub_zero, show n = n - 1 + 1 by omega, pk_m1, nI_pred]
  unfold fX5_gets
  rw [lt_e, lp_at (body := fun a => bX5_gets_4 a.2 v a.1) (a := (nI n - 1, s)) (k := 600) (fun i => (nI (n - i) + (-1), upR (upR s 13 (fdR v n L (s.1 13) i)) 12 (upd (s.1 12) 1 (nI (L + i))))) n h0 hs he (by omega), Option.bind_some, upR_s, pk_us]
theorem M_gets (s : Mem) {L n : Nat} (v : Int32) (hn : 1 ≤ n) (hn4 : n ≤ 4) (hL : L + n ≤ 120) (h : s.1 19 19 = nI L) : lp (fun a => bX7_feed_39 a.2 v a.1) 600 (nI n - 1, s) = some (upR (upR s 28 (fdM v n L (s.1 28) n)) 19 (upd (s.1 19) 19 (nI (L + n)))) := by
  have hs : ∀ i, i < n → bX7_feed_39 (upR (upR s 28 (fdM v n L (s.1 28) i)) 19 (upd (s.1 19) 19 (nI (L + i)))) v (nI (n - i) + (-1)) = some (.inr (nI (n - (i + 1)) + (-1), upR (upR s 28 (fdM v n L (s.1 28) (i + 1))) 19 (upd (s.1 19) 19 (nI (L + (i + 1)))))) := by
    intro i hi
    have e1 : nI (n - i) + (-1) = nI (n - 1 - i) := by
      rw [show n - i = n - 1 - i + 1 by omega, pk_m1]
    have g1 : (upR (upR s 28 (fdM v n L (s.1 28) i)) 19 (upd (s.1 19) 19 (nI (L + i)))).1 19 19 = nI (L + i) := by rw [upR_s, pk_us]
    have g3 : (upR (upR s 28 (fdM v n L (s.1 28) i)) 19 (upd (s.1 19) 19 (nI (L + i)))).1 28 = fdM v n L (s.1 28) i := by rw [upR_n (by omega), upR_s]
    unfold bX7_feed_39
    rw [e1, if_neg (nI_pos (by omega)), g1, gd_in (by omega) (by omega), nI_clamp (by omega), lt_e, lt_e, lt_e]
    have e2 : nI (n - 1 - i) + (-1) = nI (n - (i + 1)) + (-1) := by rw [show n - 1 - i = n - (i + 1) by omega]
    rw [e2]
    congr 2
    refine Prod.ext rfl ?_
    show up2 (up2 (upR (upR s 28 (fdM v n L (s.1 28) i)) 19 (upd (s.1 19) 19 (nI (L + i)))) 28 (L + i) (fdB v n i &&& 255)) 19 19 ((up2 (upR (upR s 28 (fdM v n L (s.1 28) i)) 19 (upd (s.1 19) 19 (nI (L + i)))) 28 (L + i) (fdB v n i &&& 255)).1 19 19 + 1) = _
    rw [up2_n (show 19 ≠ 28 by omega), g1, nI_p1, fdM_s]
    refine Prod.ext (funext fun a => ?_) rfl
    by_cases a12 : a = 19
    · subst a12
      rw [up2_s, up2_n (by omega), upR_s, upR_s, upd_upd, Nat.add_assoc]
    · rw [up2_n a12, upR_n a12]
      by_cases a13 : a = 28
      · subst a13
        rw [up2_s, g3, upR_s]
      · rw [up2_n a13, upR_n a12, upR_n a13, upR_n a13]
  have he : bX7_feed_39 (upR (upR s 28 (fdM v n L (s.1 28) n)) 19 (upd (s.1 19) 19 (nI (L + n)))) v (nI (n - n) + (-1)) = some (.inl (upR (upR s 28 (fdM v n L (s.1 28) n)) 19 (upd (s.1 19) 19 (nI (L + n))))) := by
    unfold bX7_feed_39
    rw [Nat.sub_self, if_pos (by decide)]
  have h0 : ((nI n - 1, s) : Int32 × Mem) = (nI (n - 0) + (-1), upR (upR s 28 (fdM v n L (s.1 28) 0)) 19 (upd (s.1 19) 19 (nI (L + 0)))) := by
    have : upR (upR s 28 (fdM v n L (s.1 28) 0)) 19 (upd (s.1 19) 19 (nI (L + 0))) = s := by
      show upR (upR s 28 (s.1 28)) 19 (upd (s.1 19) 19 (nI L)) = s
      rw [upR_id, upR_upd_id s 19 19 h]
    rw [this, Nat.sub_zero, show n = n - 1 + 1 by omega, pk_m1, nI_pred]
  exact lp_at (body := fun a => bX7_feed_39 a.2 v a.1) (a := (nI n - 1, s)) (k := 600) (fun i => (nI (n - i) + (-1), upR (upR s 28 (fdM v n L (s.1 28) i)) 19 (upd (s.1 19) 19 (nI (L + i))))) n h0 hs he (by omega)
theorem call_feed {s : Mem} (hR : Rel s) (v x : Int32) : OK2 (fX6_feed s v x) (fun s1 => fX7_feed s1 v x) := by
  obtain ⟨L, hL, l1, l2, l3⟩ := hR.2.2.2.2.1
  cases e : inR x 1 4
  · refine fnd hR 0 (by omega) _ ?_ (fun s1 h1 _ => ?_)
    · unfold fX6_feed; rw [wi_in x 1 4 (by decide) (by decide), e]; rfl
    · show fX7_feed s1 v x = _
      unfold fX7_feed; rw [mi_in x 1 4 (by decide) (by decide), e]; rfl
  obtain ⟨n, hn1, hn, rfl⟩ := inR_exL (l := 1) (h := 4) (by omega) e
  by_cases q : L + n ≤ 120
  · refine ⟨nI (L + n), upR (upR s 13 (fdR v n L (s.1 13) n)) 12 (upd (s.1 12) 1 (nI (L + n))), upR (upR (upR (upR s 13 (fdR v n L (s.1 13) n)) 12 (upd (s.1 12) 1 (nI (L + n)))) 28 (fdM v n L (s.1 28) n)) 19 (upd (s.1 19) 19 (nI (L + n))), ?_, ?_, ?_⟩
    · unfold fX6_feed fX5_hasRoom
      rw [wi_in _ 1 4 (by decide) (by decide), e, Option.bind_some, bi_n0, if_pos rfl, l1, nI_add, if_neg (by rw [show (120 : Int32) = nI 120 from rfl, nI_ltI (by omega) (by omega)]; omega), Option.bind_some, if_neg (by decide), C_gets s v hn1 hn q l1]
      rfl
    · generalize hs1 : upR (upR s 13 (fdR v n L (s.1 13) n)) 12 (upd (s.1 12) 1 (nI (L + n))) = s1
      have g19 : s1.1 19 = s.1 19 := by rw [← hs1, upR_n (by omega), upR_n (by omega)]
      have g28 : s1.1 28 = s.1 28 := by rw [← hs1, upR_n (by omega), upR_n (by omega)]
      have hm := M_gets s1 (L := L) (n := n) v hn1 hn q (by rw [g19]; exact l2)
      rw [g19, g28] at hm
      show fX7_feed s1 v (nI n) = _
      unfold fX7_feed
      rw [mi_in _ 1 4 (by decide) (by decide), e, Option.bind_some, bi_n0, if_pos rfl, g19, l2, nI_add, if_pos (show nI (L + n) ≤ (120 : Int32) from nI_le (b := 120) q (by omega)), lt_e, hm, Option.bind_some, upR_s, pk_us]
    · refine Rel_tp hR ⟨L + n, q, ?_, ?_, fun i hi => ?_⟩ (fun a q1 q2 q3 q4 => ?_) (fun j hj => ?_) rfl
      · rw [upR_n (by omega), upR_n (by omega), upR_s, pk_us]
      · rw [upR_s, pk_us]
      · rw [upR_n (by omega), upR_s, upR_n (show 13 ≠ 19 by omega), upR_n (show 13 ≠ 28 by omega), upR_n (show 13 ≠ 12 by omega), upR_s, fdM_get, fdR_get]
        by_cases c : i < L
        · rw [if_neg (by omega), if_neg (by omega)]; exact l3 i c
        · rw [if_pos (by omega), if_pos (by omega)]
          obtain ⟨b, hb, b1, b2⟩ := byte_ok (fdB v n (i - L))
          exact ⟨b, hb, b1, b2⟩
      · rw [upR_n q4, upR_n q3, upR_n q1, upR_n q2]
      · rw [upR_s, pk_un (by omega)]
  · refine fnd hR 1 (by omega) _ ?_ (fun s1 h1 _ => ?_)
    · unfold fX6_feed fX5_hasRoom
      rw [wi_in _ 1 4 (by decide) (by decide), e, Option.bind_some, bi_n0, if_pos rfl, l1, nI_add, if_pos (show (120 : Int32) < nI (L + n) from nI_lt (a := 120) (by omega) (by omega))]
      rfl
    · show fX7_feed s1 v (nI n) = _
      unfold fX7_feed
      rw [mi_in _ 1 4 (by decide) (by decide), e, Option.bind_some, bi_n0, if_pos rfl, h1 19 (by omega), l2, nI_add, if_neg (by rw [show (120 : Int32) = nI 120 from rfl, nI_leI (by omega) (by omega)]; omega)]
      rfl
