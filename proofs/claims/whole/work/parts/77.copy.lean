/-! copy, feed, wipe -/
def okRow (m : Nat) (x n : Int32) : Bool := decide (0 ≤ x.toInt ∧ 0 ≤ n.toInt ∧ x.toInt + n.toInt ≤ m)
theorem okRow_x {m : Nat} {x n : Int32} (h : x < 0) : okRow m x n = false := by
  have h1 : x.toInt < 0 := i32_lt.mp h
  exact decide_eq_false (by omega)
theorem okRow_n {m : Nat} {x n : Int32} (h : n < 0) : okRow m x n = false := by
  have h1 : n.toInt < 0 := i32_lt.mp h
  exact decide_eq_false (by omega)
theorem C_hasRow (s : Mem) {k m : Nat} (x n : Int32) (hk : k < 4) (hm : m ≤ 40) (h : s.1 17 k = nI m) : fX4_hasRow s (nI k) x n = some (bi (okRow m x n)) := by
  unfold fX4_hasRow okRow
  have k1 : (x < 0) ↔ x.toInt < 0 := i32_lt
  have k2 : (n < 0) ↔ n.toInt < 0 := i32_lt
  have k3 : (nI m < n) ↔ (m : Int) < n.toInt := by rw [i32_lt, nI_toInt (by omega)]
  rw [gd_in hk (by omega), gd_in hk (by omega), nI_clamp (by omega), h]
  by_cases h1 : x.toInt < 0
  · rw [if_pos (k1.mpr h1), decide_eq_false (by omega)]; rfl
  · rw [if_neg (fun q => h1 (k1.mp q))]
    by_cases h2 : n.toInt < 0
    · rw [if_pos (k2.mpr h2), decide_eq_false (by omega)]; rfl
    · rw [if_neg (fun q => h2 (k2.mp q))]
      by_cases h3 : (m : Int) < n.toInt
      · rw [if_pos (k3.mpr h3), decide_eq_false (by omega)]; rfl
      · rw [if_neg (fun q => h3 (k3.mp q))]
        obtain ⟨q, hq, rfl⟩ : ∃ q : Nat, q ≤ m ∧ n = nI q := by
          refine ⟨n.toInt.toNat, by omega, ?_⟩
          apply Int32.toInt_inj.mp
          rw [nI_toInt (by omega)]
          omega
        rw [nI_toInt (by omega)] at h2 h3 ⊢
        have k4 : (nI m - nI q < x) ↔ ((m - q : Nat) : Int) < x.toInt := by rw [pk_sub hq, i32_lt, nI_toInt (by omega)]
        by_cases h4 : ((m - q : Nat) : Int) < x.toInt
        · rw [if_pos (k4.mpr h4), decide_eq_false (by omega)]; rfl
        · rw [if_neg (fun z => h4 (k4.mp z)), decide_eq_true (by omega)]; rfl
theorem row_ex {m : Nat} {x n : Int32} (hm : m ≤ 40) (h : okRow m x n = true) : ∃ a b : Nat, a + b ≤ m ∧ x = nI a ∧ n = nI b := by
  have := of_decide_eq_true h
  refine ⟨x.toInt.toNat, n.toInt.toNat, by omega, ?_, ?_⟩
  · apply Int32.toInt_inj.mp
    rw [nI_toInt (by omega)]
    omega
  · apply Int32.toInt_inj.mp
    rw [nI_toInt (by omega)]
    omega
theorem row_sum {m : Nat} {x n : Int32} (hm : m ≤ 40) (hx : ¬ x < 0) (hn : ¬ n < 0) : ((0 : Int32) < lg_cmp (x.toInt64 + n.toInt64) ((nI m).toInt64)) ↔ okRow m x n = false := by
  obtain ⟨a, ha, rfl⟩ := nI_of hx
  obtain ⟨b, hb, rfl⟩ := nI_of hn
  rw [lg_cmp_gt, nI_l ha, nI_l hb, nI_l (by omega), lN_add, pk_lLT (by omega) (by omega)]
  unfold okRow
  rw [nI_toInt ha, nI_toInt hb, decide_eq_false_iff_not]
  omega
def cpL (src : Nat → Int64) (a b : Nat) (r : Nat → Int64) : Nat → (Nat → Int64) := itr (fun j r' => vp_updL r' (b + j) (src (a + j))) r
theorem cpL_s (src : Nat → Int64) (a b : Nat) (r : Nat → Int64) (i : Nat) : cpL src a b r (i + 1) = vp_updL (cpL src a b r i) (b + i) (src (a + i)) := rfl
theorem cpL_get (src : Nat → Int64) (a b : Nat) (r : Nat → Int64) : ∀ i j, cpL src a b r i j = if b ≤ j ∧ j < b + i then src (a + (j - b)) else r j
  | 0, j => by rw [if_neg (by omega)]; rfl
  | i + 1, j => by
    rw [cpL_s]
    by_cases h : j = b + i
    · rw [h, pk_uLs, if_pos (by omega), Nat.add_sub_cancel_left]
    · rw [pk_uLn h, cpL_get src a b r i j]
      by_cases h2 : b ≤ j ∧ j < b + i
      · rw [if_pos h2, if_pos (by omega)]
      · rw [if_neg h2, if_neg (by omega)]
theorem upRL_id (σ : Mem) (k : Nat) : upRL σ k (σ.2 k) = σ := by
  unfold upRL
  refine Prod.ext rfl (funext fun a => ?_)
  show (if a = k then σ.2 k else σ.2 a) = σ.2 a
  by_cases h : a = k
  · rw [if_pos h, h]
  · rw [if_neg h]
theorem M_copyL (s : Mem) {k t a b q : Nat} (hk : k < 4) (ht : t < 4) (ha : a + q ≤ 40) (hb : b + q ≤ 40) (p2 p3 : Int32) : ∃ y18, lp (fun z => bX7_copy_123 z.2 (nI k) (nI a) p2 p3 (nI q) z.1) 600 ((0 : Int32), s) = some y18 ∧ ∃ y25, lp (fun z => bX7_copy_157 z.2 (nI t) (nI b) (nI q) z.1) 600 ((0 : Int32), y18) = some y25 ∧ y25.1 = s.1 ∧ y25.2 (33 + t) = cpL (s.2 (33 + k)) a b (s.2 (33 + t)) q ∧ ∀ c, c ≠ 32 → c ≠ 33 + t → y25.2 c = s.2 c := by
  have hs : ∀ i, i < q → bX7_copy_123 (upRL s 32 (cpL (s.2 (33 + k)) a 0 (s.2 32) i)) (nI k) (nI a) p2 p3 (nI q) (nI i) = some (.inr (nI (i + 1), upRL s 32 (cpL (s.2 (33 + k)) a 0 (s.2 32) (i + 1)))) := by
    intro i hi
    unfold bX7_copy_123
    rw [if_neg (by rw [nI_leI (by omega) (by omega)]; omega), nI_add, gd_in hk (by omega), gd_in (by omega) (by omega), gd_in (by omega) (by omega), nI_clamp (by omega), nI_clamp (by omega), nI_clamp (by omega)]
    simp only [lt, nI_p1]
    rw [upL_R, upRL_s, upRL_n (by omega), upRL_RL, cpL_s, Nat.zero_add]
  have he : bX7_copy_123 (upRL s 32 (cpL (s.2 (33 + k)) a 0 (s.2 32) q)) (nI k) (nI a) p2 p3 (nI q) (nI q) = some (.inl (upRL s 32 (cpL (s.2 (33 + k)) a 0 (s.2 32) q))) := by
    unfold bX7_copy_123
    rw [if_pos (nI_le (Nat.le_refl q) (by omega))]
  have l1 := lp_at (body := fun z => bX7_copy_123 z.2 (nI k) (nI a) p2 p3 (nI q) z.1) (a := ((0 : Int32), s)) (k := 600) (fun i => (nI i, upRL s 32 (cpL (s.2 (33 + k)) a 0 (s.2 32) i))) q (by show _ = ((0 : Int32), upRL s 32 (s.2 32)); rw [upRL_id]) hs he (by omega)
  refine ⟨_, l1, ?_⟩
  generalize hm : upRL s 32 (cpL (s.2 (33 + k)) a 0 (s.2 32) q) = m
  have m32 : ∀ i, i < q → m.2 32 i = s.2 (33 + k) (a + i) := fun i hi => by rw [← hm, upRL_s, cpL_get, if_pos (by omega), show i - 0 = i by omega]
  have hs2 : ∀ i, i < q → bX7_copy_157 (upRL m (33 + t) (cpL (s.2 (33 + k)) a b (m.2 (33 + t)) i)) (nI t) (nI b) (nI q) (nI i) = some (.inr (nI (i + 1), upRL m (33 + t) (cpL (s.2 (33 + k)) a b (m.2 (33 + t)) (i + 1)))) := by
    intro i hi
    unfold bX7_copy_157
    rw [if_neg (by rw [nI_leI (by omega) (by omega)]; omega), nI_add, gd_in ht (by omega), gd_in (by omega) (by omega), gd_in (by omega) (by omega), nI_clamp (by omega), nI_clamp (by omega), nI_clamp (by omega)]
    simp only [lt, nI_p1]
    rw [upL_R, upRL_s, upRL_n (show 32 ≠ 33 + t by omega), m32 i hi, upRL_RL, cpL_s]
  have he2 : bX7_copy_157 (upRL m (33 + t) (cpL (s.2 (33 + k)) a b (m.2 (33 + t)) q)) (nI t) (nI b) (nI q) (nI q) = some (.inl (upRL m (33 + t) (cpL (s.2 (33 + k)) a b (m.2 (33 + t)) q))) := by
    unfold bX7_copy_157
    rw [if_pos (nI_le (Nat.le_refl q) (by omega))]
  have l2 := lp_at (body := fun z => bX7_copy_157 z.2 (nI t) (nI b) (nI q) z.1) (a := ((0 : Int32), m)) (k := 600) (fun i => (nI i, upRL m (33 + t) (cpL (s.2 (33 + k)) a b (m.2 (33 + t)) i))) q (by show _ = ((0 : Int32), upRL m (33 + t) (m.2 (33 + t))); rw [upRL_id]) hs2 he2 (by omega)
  have m33 : m.2 (33 + t) = s.2 (33 + t) := by rw [← hm, upRL_n (by omega)]
  refine ⟨_, l2, ?_, ?_, fun c c1 c2 => ?_⟩
  · rw [upRL_1, ← hm, upRL_1]
  · rw [upRL_s, m33]
  · rw [upRL_n c2, ← hm, upRL_n c1]
theorem call_copy {s : Mem} (hR : Rel s) (x i t j n : Int32) : OK2 (fX6_copy s x i t j n) (fun s1 => fX7_copy s1 x i t j n) := by
  cases e : inR x 0 3
  · refine fnd hR 0 (by omega) _ ?_ (fun s1 h1 _ => ?_)
    · unfold fX6_copy gX6_copy_22; rw [C_isOne, e]; rfl
    · show fX7_copy s1 x i t j n = _
      unfold fX7_copy gX7_copy_14; rw [M_isSheet, e]; rfl
  cases e2 : inR t 0 3
  · refine fnd hR 0 (by omega) _ ?_ (fun s1 h1 _ => ?_)
    · unfold fX6_copy gX6_copy_22; rw [C_isOne, e, C_isOne, e2]; rfl
    · show fX7_copy s1 x i t j n = _
      unfold fX7_copy gX7_copy_14; rw [M_isSheet, e, M_isSheet, e2]; rfl
  obtain ⟨k, hk, rfl⟩ := inR_ex (h := 3) (by omega) e
  obtain ⟨u, hu, rfl⟩ := inR_ex (h := 3) (by omega) e2
  obtain ⟨r1, r2, r3, ⟨m, hm, r4⟩, r5⟩ := hR.2.2.2.2.2 k (by omega)
  obtain ⟨p1, p2, p3, ⟨m', hm', p4⟩, p5⟩ := hR.2.2.2.2.2 u (by omega)
  have hx : fX6_copy s (nI k) i (nI u) j n = if (0 : Int32) ≤ s.1 29 k then (if (0 : Int32) ≤ s.1 29 u then (if s.1 29 k = s.1 29 u then (if okRow m i n = true then (if okRow m' j n = true then (fX4_carry s (nI k) i (nI u) j n).bind (fun y12 => some ((n, y12))) else gX6_copy_110 s) else gX6_copy_110 s) else (fX6_finding s (2 : Int32)).bind (fun y15 => some ((y15.1, y15.2)))) else gX6_copy_50 s) else gX6_copy_50 s := by
    unfold fX6_copy fX4_isMissing fX4_sortOf
    rw [C_isOne, e, C_isOne, e2, Option.bind_some, bi_n0, if_pos rfl, Option.bind_some, bi_n0, if_pos rfl, gd_in (by omega) (by omega), gd_in (by omega) (by omega), gd_in (by omega) (by omega), gd_in (by omega) (by omega), nI_clamp (by omega), nI_clamp (by omega), r1, p1, C_hasRow s i n (by omega) hm (by rw [r2, r4]), C_hasRow s j n (by omega) hm' (by rw [p2, p4]), Option.bind_some, Option.bind_some, Option.bind_some, bi_n0, Option.bind_some, bi_n0]
    by_cases q1 : (0 : Int32) ≤ s.1 29 k
    · rw [if_pos q1, if_pos q1]
      by_cases q2 : (0 : Int32) ≤ s.1 29 u
      · rw [if_pos q2, if_pos q2]; rfl
      · rw [if_neg q2, if_neg q2]; rfl
    · rw [if_neg q1, if_neg q1]; rfl
  have hy : ∀ s1 : Mem, (∀ a, a = 29 ∨ a = 30 → s1.1 a = s.1 a) → fX7_copy s1 (nI k) i (nI u) j n = if (0 : Int32) ≤ s.1 29 k then (if (0 : Int32) ≤ s.1 29 u then (if s.1 29 k = s.1 29 u then (if okRow m i n = true then (if okRow m' j n = true then (lp (fun a => bX7_copy_123 a.2 (nI k) i (nI u) j n a.1) 600 ((0 : Int32), s1)).bind (fun y18 => (lp (fun a => bX7_copy_157 a.2 (nI u) j n a.1) 600 ((0 : Int32), y18)).bind (fun y25 => some ((n, y25)))) else gX7_copy_114 s1) else gX7_copy_114 s1) else (fX7_finds s1 (2 : Int32)).bind (fun y15 => some ((y15.1, y15.2)))) else gX7_copy_38 s1) else gX7_copy_38 s1 := by
    intro s1 h1
    generalize hA : (lp (fun a => bX7_copy_123 a.2 (nI k) i (nI u) j n a.1) 600 ((0 : Int32), s1)).bind (fun y18 => (lp (fun a => bX7_copy_157 a.2 (nI u) j n a.1) 600 ((0 : Int32), y18)).bind (fun y25 => some ((n, y25)))) = A
    unfold fX7_copy
    rw [hA, M_isSheet, e, M_isSheet, e2, Option.bind_some, bi_n0, if_pos rfl, Option.bind_some, bi_n0, if_pos rfl, gd_in (by omega) (by omega), gd_in (by omega) (by omega), gd_in (by omega) (by omega), gd_in (by omega) (by omega), gd_in (by omega) (by omega), gd_in (by omega) (by omega), nI_clamp (by omega), nI_clamp (by omega), h1 29 (by omega), h1 30 (by omega), r4, p4]
    have le_lt : ∀ z : Int32, (0 : Int32) ≤ z ↔ ¬ z < 0 := fun z => by rw [i32_le, i32_lt]; exact Int.not_lt.symm
    by_cases q1 : s.1 29 k < 0
    · rw [if_pos q1, if_neg (fun z => (le_lt _).mp z q1)]
    · rw [if_neg q1, if_pos ((le_lt _).mpr q1)]
      by_cases q2 : (0 : Int32) ≤ s.1 29 u
      · rw [if_pos q2, if_pos q2]
        by_cases q3 : s.1 29 k = s.1 29 u
        · rw [if_pos q3, if_pos q3]
          by_cases w1 : i < 0
          · have : okRow m i n = false := okRow_x w1
            rw [if_pos w1, this]; rfl
          · rw [if_neg w1]
            by_cases w2 : j < 0
            · have : okRow m' j n = false := okRow_x w2
              rw [if_pos w2, this]
              cases okRow m i n <;> rfl
            · rw [if_neg w2]
              by_cases w3 : n < 0
              · have : okRow m i n = false := okRow_n w3
                rw [if_pos w3, this]; rfl
              · rw [if_neg w3]
                have t1 := row_sum hm w1 w3
                have t2 := row_sum hm' w2 w3
                cases o1 : okRow m i n
                · rw [if_pos (t1.mpr o1)]; rfl
                · rw [if_neg (fun z => by have := t1.mp z; rw [o1] at this; cases this), if_pos rfl]
                  have le0 : ∀ z : Int32, z ≤ 0 ↔ ¬ (0 : Int32) < z := fun z => by rw [i32_le, i32_lt]; exact Int.not_lt.symm
                  cases o2 : okRow m' j n
                  · rw [if_neg (fun z => (le0 _).mp z (t2.mpr o2))]; rfl
                  · rw [if_pos ((le0 _).mpr (fun z => by have := t2.mp z; rw [o2] at this; cases this))]; rfl
        · rw [if_neg q3, if_neg q3]
      · rw [if_neg q2, if_neg q2]
  by_cases q1 : (0 : Int32) ≤ s.1 29 k
  rotate_left
  · refine fnd hR 5 (by omega) _ ?_ (fun s1 h1 _ => ?_)
    · rw [hx, if_neg q1]; rfl
    · show fX7_copy s1 (nI k) i (nI u) j n = _
      rw [hy s1 (fun a ha => h1 a (by omega)), if_neg q1]; rfl
  by_cases q2 : (0 : Int32) ≤ s.1 29 u
  rotate_left
  · refine fnd hR 5 (by omega) _ ?_ (fun s1 h1 _ => ?_)
    · rw [hx, if_pos q1, if_neg q2]; rfl
    · show fX7_copy s1 (nI k) i (nI u) j n = _
      rw [hy s1 (fun a ha => h1 a (by omega)), if_pos q1, if_neg q2]; rfl
  by_cases q3 : s.1 29 k = s.1 29 u
  rotate_left
  · refine fnd hR 2 (by omega) _ ?_ (fun s1 h1 _ => ?_)
    · rw [hx, if_pos q1, if_pos q2, if_neg q3]; rfl
    · show fX7_copy s1 (nI k) i (nI u) j n = _
      rw [hy s1 (fun a ha => h1 a (by omega)), if_pos q1, if_pos q2, if_neg q3]; rfl
  cases o1 : okRow m i n
  · refine fnd hR 0 (by omega) _ ?_ (fun s1 h1 _ => ?_)
    · rw [hx, if_pos q1, if_pos q2, if_pos q3, o1]; rfl
    · show fX7_copy s1 (nI k) i (nI u) j n = _
      rw [hy s1 (fun a ha => h1 a (by omega)), if_pos q1, if_pos q2, if_pos q3, o1]; rfl
  cases o2 : okRow m' j n
  · refine fnd hR 0 (by omega) _ ?_ (fun s1 h1 _ => ?_)
    · rw [hx, if_pos q1, if_pos q2, if_pos q3, o1, o2]; rfl
    · show fX7_copy s1 (nI k) i (nI u) j n = _
      rw [hy s1 (fun a ha => h1 a (by omega)), if_pos q1, if_pos q2, if_pos q3, o1, o2]; rfl
  obtain ⟨a, q, haq, rfl, rfl⟩ := row_ex hm o1
  obtain ⟨b, q', hbq, rfl, hq'⟩ := row_ex hm' o2
  rw [nI_eq (by omega) (by omega)] at hq'
  subst hq'
  generalize hs1 : upRL s 15 (va_cpy (s.2 15) (s.2 15) (40 * k + a) (40 * u + b) q) = s1
  have s1r : s1.1 = s.1 := by rw [← hs1]; rfl
  have s1o : ∀ c, c ≠ 15 → s1.2 c = s.2 c := fun c hc => by rw [← hs1, upRL_n hc]
  obtain ⟨y18, l1, y25, l2, l3, l4, l5⟩ := M_copyL s1 (k := k) (t := u) (a := a) (b := b) (q := q) (by omega) (by omega) (by omega) (by omega) (nI u) (nI b)
  refine ⟨nI q, s1, y25, ?_, ?_, ?_⟩
  · rw [hx, if_pos q1, if_pos q2, if_pos q3, o1, o2, if_pos rfl, if_pos rfl]
    unfold fX4_carry gcp
    rw [ix40, ix40, nI_clamp (by omega), nI_clamp (by omega), nI_clamp (by omega), if_neg (by
      rintro (z | z | z | z | z)
      · exact nI_pos (by omega) z
      · exact nI_pos (by omega) z
      · exact nI_pos (by omega) z
      · omega
      · omega)]
    show some (nI q, upRL s 15 (va_cpy (s.2 15) (s.2 15) (40 * k + a) (40 * u + b) q)) = _
    rw [hs1]
  · show fX7_copy s1 (nI k) (nI a) (nI u) (nI b) (nI q) = _
    rw [hy s1 (fun c _ => by rw [s1r]), if_pos q1, if_pos q2, if_pos q3, o1, o2, if_pos rfl, if_pos rfl, l1, Option.bind_some, l2, Option.bind_some]
  · refine Rel_sh hR (fun k' hk' => ?_) (fun c _ _ _ _ => by rw [l3, s1r])
    obtain ⟨e1, e2', e3, e4, e5⟩ := hR.2.2.2.2.2 k' hk'
    rw [l3, s1r]
    refine ⟨e1, e2', e3, e4, fun i hi => ?_⟩
    rw [l5 15 (by omega) (by omega), ← hs1, upRL_s]
    by_cases c : k' = u
    · subst c
      rw [l4, cpL_get, s1o _ (by omega), s1o _ (by omega)]
      by_cases z : b ≤ i ∧ i < b + q
      · rw [if_pos z, pk_cpy_in (by omega) (by omega), show 40 * k + a + (40 * k' + i - (40 * k' + b)) = 40 * k + (a + (i - b)) by omega]
        exact r5 _ (by omega)
      · rw [if_neg z, pk_cpy_out (by omega)]; exact e5 i hi
    · rw [l5 _ (by omega) (by omega), s1o _ (by omega), pk_cpy_out (by omega)]; exact e5 i hi
