/-! line -/
def wdL (k : Nat) : Nat := (strB.getD k []).length
def wdC (k i : Nat) : Int32 := (strB.getD k []).getD i 0
theorem wd_Cl : ∀ k, k < 6 → fT_length k = some (nI (wdL k)) := by decide +kernel
theorem wd_Ml : ∀ k, k < 6 → fT_length (14 + k) = some (nI (wdL k)) := by decide +kernel
theorem wd_Cc : ∀ k, k < 6 → ∀ i, i < wdL k → fT_charAt k (nI i) = some (wdC k i) := by decide +kernel
theorem wd_Mc : ∀ k, k < 6 → ∀ i, i < wdL k → fT_charAt (14 + k) (nI i) = some (wdC k i) := by decide +kernel
theorem wd_le : ∀ k, k < 6 → 0 < wdL k ∧ wdL k ≤ 7 := by decide +kernel
theorem wd_C : ∀ k, k < 6 → fX1_word (nI k) = some k := by decide +kernel
theorem wd_M : ∀ k, k < 6 → fX7_kindWord (nI k) = some (14 + k) := by decide +kernel
def chL (g : Nat → Int32) (p c r : Nat) : Int32 := if r = 0 then 32 else if r = 1 then (97 : Int32) + nI c else if opn g c (r - 2) (prt (g (100 + 7 * p + c)).toNatClampNeg (r - 2)) then (48 : Int32) + nI (prt (g (100 + 7 * p + c)).toNatClampNeg (r - 2)) else 45
def crN (g : Nat → Int32) (p m : Nat) : Nat := if ¬ g (100 + 7 * p + 0) < 0 ∧ sitN g p 0 = m then 0 else if ¬ g (100 + 7 * p + 1) < 0 ∧ sitN g p 1 = m then 1 else if ¬ g (100 + 7 * p + 2) < 0 ∧ sitN g p 2 = m then 2 else 3
theorem sitN_mono (g : Nat → Int32) (p c' : Nat) (h : ¬ g (100 + 7 * p + c') < 0) : ∀ c, c' < c → sitN g p c' < sitN g p c
  | 0, hc => by omega
  | c + 1, hc => by
    rw [sitN_s]
    by_cases e : c' = c
    · subst e; rw [if_neg h]; omega
    · have := sitN_mono g p c' h c (by omega)
      split <;> omega
theorem crN_at (g : Nat → Int32) (p c : Nat) (hc : c < 4) (h : ¬ g (100 + 7 * p + c) < 0) : crN g p (sitN g p c) = c := by
  unfold crN
  have no : ∀ c', c' < c → ¬ (¬ g (100 + 7 * p + c') < 0 ∧ sitN g p c' = sitN g p c) := fun c' h1 h2 => by
    have := sitN_mono g p c' h2.1 c h1
    omega
  have h4 : c = 0 ∨ c = 1 ∨ c = 2 ∨ c = 3 := by omega
  rcases h4 with rfl | rfl | rfl | rfl
  · rw [if_pos ⟨h, rfl⟩]
  · rw [if_neg (no 0 (by omega)), if_pos ⟨h, rfl⟩]
  · rw [if_neg (no 0 (by omega)), if_neg (no 1 (by omega)), if_pos ⟨h, rfl⟩]
  · rw [if_neg (no 0 (by omega)), if_neg (no 1 (by omega)), if_neg (no 2 (by omega))]
def cnL (g : Nat → Int32) (p k i : Nat) : Int32 := if i < wdL k then wdC k i else chL g p (crN g p ((i - wdL k) / 5)) ((i - wdL k) % 5)
theorem cnL_at (g : Nat → Int32) (p k c r : Nat) (hc : c < 4) (h : ¬ g (100 + 7 * p + c) < 0) (hr : r < 5) : cnL g p k (wdL k + 5 * sitN g p c + r) = chL g p c r := by
  unfold cnL
  rw [if_neg (by omega), show (wdL k + 5 * sitN g p c + r - wdL k) / 5 = sitN g p c from by omega, show (wdL k + 5 * sitN g p c + r - wdL k) % 5 = r from by omega, crN_at g p c hc h]
def sgL (C : Nat → Int32) (k z : Int32) : Nat → Int32 := itr (fun i a => if nI i = k then C i else a) z
theorem sgL_s (C : Nat → Int32) (k z : Int32) (i : Nat) : sgL C k z (i + 1) = if nI i = k then C i else sgL C k z i := rfl
theorem sgL_at (C : Nat → Int32) (z : Int32) (i : Nat) : ∀ L, i < L → L < 100 → sgL C (nI i) z L = C i
  | 0, h, _ => by omega
  | L + 1, h, h2 => by
    rw [sgL_s]
    by_cases e : L = i
    · subst e; rw [if_pos rfl]
    · rw [if_neg (fun q => e ((nI_eq (by omega) (by omega)).mp q)), sgL_at C z i L (by omega) (by omega)]
def lnM (s : Mem) (C : Nat → Int32) (k : Int32) (L : Nat) : Mem := upR s 19 (upd (upd (s.1 19) 23 (nI L)) 24 (sgL C k (s.1 19 24) L))
theorem up2_upR (s : Mem) (F : Nat → Int32) (j : Nat) (x : Int32) : up2 (upR s 19 F) 19 j x = upR s 19 (upd F j x) := by rw [up2_R, upR_s, upR_R]
theorem lnM_n (s : Mem) (C : Nat → Int32) (k : Int32) (L a : Nat) (h : a ≠ 19) : (lnM s C k L).1 a = s.1 a := upR_n h
theorem lnM_23 (s : Mem) (C : Nat → Int32) (k : Int32) (L : Nat) : (lnM s C k L).1 19 23 = nI L := rfl
theorem lnM_24 (s : Mem) (C : Nat → Int32) (k : Int32) (L : Nat) : (lnM s C k L).1 19 24 = sgL C k (s.1 19 24) L := rfl
theorem upd_c23 (f : Nat → Int32) (a b d : Int32) : upd (upd (upd f 23 a) 24 b) 23 d = upd (upd f 23 d) 24 b := by
  funext j
  unfold upd
  by_cases e : j = 23
  · subst e; rfl
  · by_cases e2 : j = 24
    · subst e2; rfl
    · simp only [if_neg e, if_neg e2]
theorem lnM_0 (s : Mem) (C : Nat → Int32) (k : Int32) : up2 s 19 23 (0 : Int32) = lnM s C k 0 := by
  unfold lnM
  rw [up2_R]
  congr 1
  have e : (s.1 19 24) = upd (s.1 19) 23 (0 : Int32) 24 := rfl
  show _ = upd (upd (s.1 19) 23 (0 : Int32)) 24 (s.1 19 24)
  rw [e, upd_id]
theorem M_says (s : Mem) (C : Nat → Int32) (k : Int32) (L : Nat) (x : Int32) (hx : x = C L) : fX7_says (lnM s C k L) k x = some (lnM s C k (L + 1)) := by
  subst hx
  have hg : ∀ F : Nat → Int32, ∀ b : Int32, F = upd (upd (s.1 19) 23 (nI L)) 24 b → gX7_says_13 (upR s 19 F) = some (upR s 19 (upd (upd (s.1 19) 23 (nI (L + 1))) 24 b)) := by
    intro F b hF
    unfold gX7_says_13
    rw [lt_e, up2_upR, upR_s, hF]
    have e : (upd (upd (s.1 19) 23 (nI L)) 24 b) 23 = nI L := rfl
    rw [e, nI_p1, upd_c23]
  unfold fX7_says
  rw [lnM_23]
  unfold lnM
  rw [sgL_s]
  by_cases e : nI L = k
  · rw [if_pos e, if_pos e, lt_e, up2_upR]
    exact hg _ _ (by rw [upd_upd])
  · rw [if_neg e, if_neg e]
    exact hg _ _ rfl
theorem M_lineW (s : Mem) (C : Nat → Int32) (k : Int32) (P : Int32) {kd : Nat} (hk : kd < 6) (hC : ∀ i, i < wdL kd → C i = wdC kd i) : lp (α := Int32 × Mem) (β := Mem) (fun a => bX7_saysLine_17 a.2 P k (14 + kd) a.1) 600 ((0 : Int32), lnM s C k 0) = some (lnM s C k (wdL kd)) := by
  have hw := wd_le kd hk
  refine lp_at (α := Int32 × Mem) (β := Mem) (fun i => (nI i, lnM s C k i)) (wdL kd) rfl ?_ ?_ (by omega)
  · intro i hi
    show bX7_saysLine_17 (lnM s C k i) P k (14 + kd) (nI i) = _
    unfold bX7_saysLine_17
    rw [wd_Ml kd hk, Option.bind_some, if_neg (by rw [nI_leI (by omega) (by omega)]; omega), wd_Mc kd hk i hi, Option.bind_some, M_says s C k i _ (hC i hi).symm, Option.bind_some, lt_e, nI_p1]
  · show bX7_saysLine_17 (lnM s C k (wdL kd)) P k (14 + kd) (nI (wdL kd)) = _
    unfold bX7_saysLine_17
    rw [wd_Ml kd hk, Option.bind_some, if_pos (by rw [nI_leI (by omega) (by omega)]; omega)]
theorem M_lineT (s : Mem) (C : Nat → Int32) (k : Int32) (P : Int32) {p c t L : Nat} (hc : c < 4) (ht : t < 8) (hg : s.1 20 (100 + 7 * p + c) = nI t) (hC : ∀ r, r < 5 → C (L + r) = chL (s.1 20) p c r) : lp (α := Int32 × Mem) (β := Mem) (fun a => bX7_saysLine_89 a.2 P k (nI c) (nI t) a.1) 600 ((0 : Int32), lnM s C k (L + 2)) = some (lnM s C k (L + 5)) := by
  refine lp_at (α := Int32 × Mem) (β := Mem) (fun i => (nI i, lnM s C k (L + 2 + i))) 3 rfl ?_ ?_ (by omega)
  · intro i hi
    show bX7_saysLine_89 (lnM s C k (L + 2 + i)) P k (nI c) (nI t) (nI i) = _
    unfold bX7_saysLine_89
    have h5 := hC (2 + i) (by omega)
    unfold chL at h5
    rw [if_neg (by omega), if_neg (by omega), show 2 + i - 2 = i from by omega, hg, nI_clamp (by omega), ← Nat.add_assoc] at h5
    rw [if_neg (nI_c3 hi), M_counts _ hc ht hi, Option.bind_some, lnM_n _ _ _ _ _ (by omega), bi_n0]
    unfold gX7_saysLine_125
    by_cases e : opn (s.1 20) c i (prt t i) = true
    · rw [if_pos e, M_part t ht i hi, Option.bind_some]
      rw [if_pos e] at h5
      rw [M_says s C k _ _ h5.symm, Option.bind_some, lt_e, nI_p1]; rfl
    · rw [if_neg e]
      rw [if_neg e] at h5
      rw [M_says s C k _ _ h5.symm, Option.bind_some, lt_e, nI_p1]; rfl
  · show bX7_saysLine_89 (lnM s C k (L + 2 + 3)) P k (nI c) (nI t) (nI 3) = _
    unfold bX7_saysLine_89
    rw [if_pos (by decide)]
theorem M_saysLine (s : Mem) (k : Int32) {f : Nat → Int32} {n p kd : Nat} (hP : PG f (s.1 20) n) (hp : p < n) (hk : kd < 6) (hkd : s.1 20 (97 + 7 * p) = nI kd) : fX7_saysLine s (nI p) k = some (lnM s (cnL (s.1 20) p kd) k (wdL kd + 5 * sitN (s.1 20) p 4)) := by
  have hn := hP.1
  have hT := PG_okP hP p hp
  have hL : lp (α := Int32 × Mem) (β := Mem) (fun a => bX7_saysLine_46 a.2 (nI p) k a.1) 600 ((0 : Int32), lnM s (cnL (s.1 20) p kd) k (wdL kd)) = some (lnM s (cnL (s.1 20) p kd) k (wdL kd + 5 * sitN (s.1 20) p 4)) := by
    refine lp_at (α := Int32 × Mem) (β := Mem) (fun i => (nI i, lnM s (cnL (s.1 20) p kd) k (wdL kd + 5 * sitN (s.1 20) p i))) 4 rfl ?_ ?_ (by omega)
    · intro i hi
      show bX7_saysLine_46 (lnM s (cnL (s.1 20) p kd) k (wdL kd + 5 * sitN (s.1 20) p i)) (nI p) k (nI i) = _
      unfold bX7_saysLine_46
      rw [if_neg (nI_c4 hi), M_triple _ (by omega) hi, Option.bind_some, lnM_n _ _ _ _ _ (by omega), sitN_s]
      rcases trp_ok (hT i hi) with ⟨-, h2, -⟩ | ⟨t, ht, -, h2, h3⟩
      · rw [if_neg (fun q => absurd h2 (Int32.not_lt.mpr q)), if_pos h2, lt_e, nI_p1]
      · rw [if_pos (Int32.not_lt.mp h2), if_neg h2]
        have hC : ∀ r, r < 5 → cnL (s.1 20) p kd (wdL kd + 5 * sitN (s.1 20) p i + r) = chL (s.1 20) p i r := fun r hr => cnL_at (s.1 20) p kd i r hi h2 hr
        rw [M_says s (cnL (s.1 20) p kd) k (wdL kd + 5 * sitN (s.1 20) p i) (32 : Int32) (hC 0 (by omega)).symm, Option.bind_some, M_says s (cnL (s.1 20) p kd) k (wdL kd + 5 * sitN (s.1 20) p i + 1) ((97 : Int32) + nI i) (hC 1 (by omega)).symm, Option.bind_some, h3, M_lineT s _ k (nI p) hi ht h3 hC, Option.bind_some, lt_e, nI_p1]
        rfl
    · show bX7_saysLine_46 (lnM s (cnL (s.1 20) p kd) k (wdL kd + 5 * sitN (s.1 20) p 4)) (nI p) k (nI 4) = _
      unfold bX7_saysLine_46
      rw [if_pos (by decide)]
  unfold fX7_saysLine
  rw [lt_e, lnM_0 s (cnL (s.1 20) p kd) k, M_kindOf _ (by omega), Option.bind_some, lnM_n _ _ _ _ _ (by omega), hkd, wd_M kd hk, Option.bind_some, M_lineW s (cnL (s.1 20) p kd) k (nI p) hk (fun i hi => if_pos hi), Option.bind_some, hL, Option.bind_some]
theorem C_courseOf (s : Mem) {g : Nat → Int32} {n p m : Nat} (hB : BR (s.1 2) g n) (hp : p < n) (hm : m < sitN g p 4) : ∃ c, c < 4 ∧ fX0_courseOf s (nI p) (nI m) = some (nI c) ∧ ¬ g (100 + 7 * p + c) < 0 ∧ sitN g p c = m := by
  have hn := hB.2.1
  have key : ∃ b, lp (α := Int32 × Int32) (β := Int32 ⊕ Unit) (fun a => bX0_courseOf_5 s (nI p) (nI m) a.1 a.2) 600 ((0 : Int32), (0 : Int32)) = some b ∧ (∃ c, c < 4 ∧ b = .inl (nI c) ∧ ¬ g (100 + 7 * p + c) < 0 ∧ sitN g p c = m) := by
    refine lp_inv (α := Int32 × Int32) (β := Int32 ⊕ Unit) (fun c a => a = (nI (sitN g p c), nI c) ∧ sitN g p c ≤ m) (fun b => ∃ c, c < 4 ∧ b = .inl (nI c) ∧ ¬ g (100 + 7 * p + c) < 0 ∧ sitN g p c = m) 4 ?_ ?_ (k := 600) (by omega) ⟨rfl, Nat.zero_le m⟩
    · rintro c a hc ⟨rfl, h2⟩
      have hle := sitN_le g p c
      show (∃ a', bX0_courseOf_5 s (nI p) (nI m) (nI (sitN g p c)) (nI c) = some (.inr a') ∧ _) ∨ (∃ b, bX0_courseOf_5 s (nI p) (nI m) (nI (sitN g p c)) (nI c) = some (.inl b) ∧ _)
      have hm4 : m < 4 := Nat.lt_of_lt_of_le hm (sitN_le g p 4)
      unfold bX0_courseOf_5
      rw [if_neg (nI_c4 hc), C_sits s (by omega) hc, Option.bind_some, BR_sits hB hp hc, sitN_s]
      by_cases e : g (100 + 7 * p + c) < 0
      · rw [if_pos e, if_pos e, lt_e, nI_p1]
        exact Or.inl ⟨_, rfl, rfl, h2⟩
      · rw [if_neg e, if_neg e]
        by_cases e2 : sitN g p c = m
        · rw [if_pos (by rw [e2])]
          exact Or.inr ⟨_, rfl, c, hc, rfl, e, e2⟩
        · rw [if_neg (fun q => e2 ((nI_eq (by omega) (by omega)).mp q)), lt_e, lt_e, nI_p1, nI_p1]
          exact Or.inl ⟨_, rfl, rfl, by omega⟩
    · rintro a ⟨rfl, h2⟩
      omega
  obtain ⟨b, hb, c, hc, rfl, h1, h2⟩ := key
  refine ⟨c, hc, ?_, h1, h2⟩
  unfold fX0_courseOf
  rw [hb]; rfl
theorem C_sign (s : Mem) {n p m r : Nat} (hS : SG (s.1 2) (s.1 20)) (hP : PG (s.1 2) (s.1 20) n) (hp : p < n) (hm : m < sitN (s.1 20) p 4) (hr : r < 5) : fX0_sign s (nI p) (nI m) (nI r) = some (chL (s.1 20) p (crN (s.1 20) p m) r) := by
  have hn := hP.1
  obtain ⟨c, hc, h1, h2, h3⟩ := C_courseOf s (Gd_BR hS hP) hp hm
  have ec : crN (s.1 20) p m = c := by rw [← h3]; exact crN_at _ p c hc h2
  rw [ec]
  unfold fX0_sign chL
  rw [h1, Option.bind_some]
  by_cases r0 : r = 0
  · subst r0; rw [if_pos (show nI 0 = (0 : Int32) from rfl), if_pos rfl]
  rw [if_neg (show ¬ nI r = (0 : Int32) from fun q => r0 ((nI_eq (b := 0) (by omega) (by omega)).mp q)), if_neg r0]
  by_cases r1 : r = 1
  · subst r1; rw [if_pos (show nI 1 = (1 : Int32) from rfl), if_pos rfl]
  rw [if_neg (show ¬ nI r = (1 : Int32) from fun q => r1 ((nI_eq (b := 1) (by omega) (by omega)).mp q)), if_neg r1, lt_e, show (2 : Int32) = nI 2 from rfl, pk_sub (by omega), C_counts s hc (by omega), Option.bind_some]
  rcases (hP.2.2.2.2 p hp).2.2.2 c hc with q | ⟨t, ht, q, hl⟩
  · rw [q] at h2; exact absurd (by decide) h2
  rw [q, nI_clamp (by omega), cnt_law hS.1 hc ht (by omega) hl, bi_n0, C_sits s (by omega) hc, Option.bind_some, BR_sits (Gd_BR hS hP) hp hc, q, C_part t ht (r - 2) (by omega), Option.bind_some]
  cases opn (s.1 20) c (r - 2) (prt t (r - 2)) <;> rfl
theorem nI_div5 : ∀ i, i < 20 → nI i / (5 : Int32) = nI (i / 5) ∧ nI i - nI (i / 5) * (5 : Int32) = nI (i % 5) := by decide +kernel
theorem call_line {s : Mem} (hR : Rel s) (x k : Int32) : OK2 (fX6_line s x k) (fun s1 => fX7_line s1 x k) := by
  obtain ⟨⟨hS, n, hP⟩, hrest⟩ := id hR
  have hn := hP.1
  cases e : inR x 0 ((n : Int) - 1) with
  | false =>
    refine fnd hR 0 (by omega) (fun s1 => fX7_line s1 x k) ?_ ?_
    · unfold fX6_line
      rw [C_isPupil s x hn hP.2.2.1, Option.bind_some, e, if_pos (show bi false = (0 : Int32) from rfl)]; rfl
    · intro s1 q1 q2
      show fX7_line s1 x k = _
      unfold fX7_line
      rw [M_isPupil s1 x hn (by rw [q1 20 (by omega)]; exact hP.2.1), Option.bind_some, e, if_pos (show bi false = (0 : Int32) from rfl)]; rfl
  | true =>
    obtain ⟨p, hp, rfl⟩ := isP_ex hn e
    obtain ⟨kd, hk, hkd⟩ := (hP.2.2.2.2 p hp).1
    have hw := wd_le kd hk
    have h4 := sitN_le (s.1 20) p 4
    generalize hT : wdL kd + 5 * sitN (s.1 20) p 4 = T
    have c2 : s.1 2 (96 + 7 * p + 0) = nI kd := by rw [hP.2.2.2.1 p hp 0 (by omega)]; exact hkd
    have hC : fX6_line s (nI p) k = (if k = (-1 : Int32) then some (nI T, s) else (fX6_within (k.toInt64) (0 : Int64) ((nI T - (1 : Int32)).toInt64)).bind (fun y8 => if y8 = (0 : Int32) then (fX6_finding s (3 : Int32)).bind (fun y19 => some ((y19.1, y19.2))) else if nI (wdL kd) ≤ k then (fX0_sign s (nI p) ((k - nI (wdL kd)) / (5 : Int32)) ((k - nI (wdL kd)) - (k - nI (wdL kd)) / (5 : Int32) * (5 : Int32))).bind (fun y15 => some ((y15, s))) else (fT_charAt kd k).bind (fun y16 => some ((y16, s))))) := by
      unfold fX6_line
      rw [C_isPupil s _ hn hP.2.2.1, Option.bind_some, e, if_neg (show ¬ bi true = (0 : Int32) from by decide), show (0 : Int32) = nI 0 from rfl, C_ofPupil s (by omega) (by omega), Option.bind_some, c2, wd_C kd hk, Option.bind_some, wd_Cl kd hk, Option.bind_some, C_sitsIn s (Gd_BR hS hP) hp, Option.bind_some, lt_e, show (5 : Int32) = nI 5 from rfl, pk_mul, nI_add, hT]
      rfl
    have hM : ∀ s1 : Mem, (∀ a, a ≠ 18 → s1.1 a = s.1 a) → fX7_line s1 (nI p) k = (if k = (-1 : Int32) then some (nI T, lnM s1 (cnL (s.1 20) p kd) k T) else (fX7_in (k.toInt64) (0 : Int64) ((nI T - (1 : Int32)).toInt64)).bind (fun y3 => if y3 = (0 : Int32) then (fX7_finds (lnM s1 (cnL (s.1 20) p kd) k T) (3 : Int32)).bind (fun y4 => some ((y4.1, y4.2))) else some (sgL (cnL (s.1 20) p kd) k (s1.1 19 24) T, lnM s1 (cnL (s.1 20) p kd) k T))) := by
      intro s1 q1
      have e20 : s1.1 20 = s.1 20 := q1 20 (by omega)
      unfold fX7_line
      rw [M_isPupil s1 _ hn (by rw [e20]; exact hP.2.1), Option.bind_some, e, if_neg (show ¬ bi true = (0 : Int32) from by decide), M_saysLine s1 k (f := s.1 2) (n := n) (by rw [e20]; exact hP) hp hk (by rw [e20]; exact hkd), Option.bind_some, e20, hT, lnM_23, lnM_24]
    have hid : ∀ s1 : Mem, (∀ a, a ≠ 18 → s1.1 a = s.1 a) → s1.2 = s.2 → Rel s1 → Rel (lnM s1 (cnL (s.1 20) p kd) k T) := fun s1 _ _ r1 => Rel_idle r1 (fun a _ a2 _ => upR_n a2) (fun j hj => by rcases hj with rfl | rfl | rfl | rfl <;> rfl) (fun a _ _ => rfl)
    by_cases ek : k = -1
    · refine ⟨nI T, s, lnM s (cnL (s.1 20) p kd) k T, ?_, ?_, hid s (fun _ _ => rfl) rfl hR⟩
      · rw [hC, if_pos ek]
      · show fX7_line s (nI p) k = _
        rw [hM s (fun _ _ => rfl), if_pos ek]
    · rw [if_neg ek, wi_in k 0 ((T : Int) - 1) (by decide) (by rw [Int32.toInt_toInt64, show (1 : Int32) = nI 1 from rfl, pk_sub_toInt (by omega) (by omega)]; rfl), Option.bind_some] at hC
      have hM2 : ∀ s1 : Mem, (∀ a, a ≠ 18 → s1.1 a = s.1 a) → fX7_line s1 (nI p) k = _ := fun s1 q1 => by
        rw [hM s1 q1, if_neg ek, mi_in k 0 ((T : Int) - 1) (by decide) (by rw [Int32.toInt_toInt64, show (1 : Int32) = nI 1 from rfl, pk_sub_toInt (by omega) (by omega)]; rfl), Option.bind_some]
      cases e2 : inR k 0 ((T : Int) - 1) with
      | false =>
        rw [e2, if_pos (show bi false = (0 : Int32) from rfl)] at hC
        refine fndY hR 3 (by omega) hC ?_
        intro s1 q1 q2
        refine ⟨lnM s1 (cnL (s.1 20) p kd) k T, ?_, fun a a1 _ => upR_n a1, fun j hj => by rcases hj with rfl | rfl | rfl | rfl <;> rfl, fun a _ => rfl⟩
        show fX7_line s1 (nI p) k = _
        rw [hM2 s1 q1, e2, if_pos (show bi false = (0 : Int32) from rfl)]; rfl
      | true =>
        obtain ⟨i, hi, rfl⟩ := inR_ex (x := k) (h := T - 1) (by omega) (by rw [← e2]; congr 1; omega)
        rw [e2, if_neg (show ¬ bi true = (0 : Int32) from by decide)] at hC
        refine ⟨cnL (s.1 20) p kd i, s, lnM s (cnL (s.1 20) p kd) (nI i) T, ?_, ?_, hid s (fun _ _ => rfl) rfl hR⟩
        · rw [hC]
          unfold cnL
          by_cases e3 : i < wdL kd
          · rw [if_neg (by rw [nI_leI (by omega) (by omega)]; omega), if_pos e3, wd_Cc kd hk i e3]; rfl
          · rw [if_pos (by rw [nI_leI (by omega) (by omega)]; omega), if_neg e3, pk_sub (by omega), (nI_div5 (i - wdL kd) (by omega)).1, (nI_div5 (i - wdL kd) (by omega)).2, C_sign s hS hP hp (by omega) (by omega)]; rfl
        · show fX7_line s (nI p) (nI i) = _
          rw [hM2 s (fun _ _ => rfl), e2, if_neg (show ¬ bi true = (0 : Int32) from by decide), sgL_at _ _ i T (by omega) (by omega)]
