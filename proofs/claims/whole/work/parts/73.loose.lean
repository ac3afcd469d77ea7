/-! loose, undo -/
theorem lt_e {α β : Type} (e : α) (f : α → Option β) : lt e f = f e := rfl
def zN (z : Int32) : Int32 := z * (1103515245 : Int32) + (12345 : Int32)
def zD (z : Int32) : Int32 := (z.toUInt32 >>> ((8 : Int32).toUInt32 &&& Int32.toUInt32 31)).toInt32
def zM (z d : Int32) : Int32 := zD z - zD z / d * d
def z3 (z : Int32) : Int32 := zN (zN (zN z))
def zI (z : Int32) : Nat → Int32 := itr (fun _ w => z3 w) z
theorem zI_s (z : Int32) (i : Nat) : zI z (i + 1) = z3 (zI z i) := itr_s (fun _ w => z3 w) z i
theorem zM_e (a d : Int32) : zD a - zD a / d * d = zM a d := rfl
theorem z3_e (a : Int32) : zN (zN (zN a)) = z3 a := rfl
def dX (z : Int32) (i : Nat) : Int32 := zM (zN (zI z i)) 6
def dY (z : Int32) (i : Nat) : Int32 := zM (zN (zN (zI z i))) 4
def dR (z : Int32) (i : Nat) : Int32 := zM (z3 (zI z i)) 5
theorem dX_e (z : Int32) (i : Nat) : zM (zN (zI z i)) 6 = dX z i := rfl
theorem dY_e (z : Int32) (i : Nat) : zM (zN (zN (zI z i))) 4 = dY z i := rfl
theorem dR_e (z : Int32) (i : Nat) : zM (z3 (zI z i)) 5 = dR z i := rfl
/-- picked one behind another -/
def seqG (X Y R : Nat → Int32) (n : Nat) (g : Nat → Int32) : Nat → Int32 × (Nat → Int32) := itr (fun i a => (a.1 + (stepG a.2 n (X i) (Y i) (R i)).1, (stepG a.2 n (X i) (Y i) (R i)).2)) (0, g)
theorem seqG_s (X Y R : Nat → Int32) (n : Nat) (g : Nat → Int32) (i : Nat) : seqG X Y R n g (i + 1) = ((seqG X Y R n g i).1 + (stepG (seqG X Y R n g i).2 n (X i) (Y i) (R i)).1, (stepG (seqG X Y R n g i).2 n (X i) (Y i) (R i)).2) := itr_s (fun i a => (a.1 + (stepG a.2 n (X i) (Y i) (R i)).1, (stepG a.2 n (X i) (Y i) (R i)).2)) (0, g) i
theorem fst_mk {α β : Type} (a : α) (b : β) : (a, b).1 = a := rfl
theorem snd_mk {α β : Type} (a : α) (b : β) : (a, b).2 = b := rfl
theorem seqG_1 (X Y R : Nat → Int32) (n : Nat) (g : Nat → Int32) (i : Nat) : (seqG X Y R n g (i + 1)).1 = (seqG X Y R n g i).1 + (stepG (seqG X Y R n g i).2 n (X i) (Y i) (R i)).1 := (congrArg Prod.fst (seqG_s X Y R n g i)).trans (fst_mk _ _)
theorem seqG_2 (X Y R : Nat → Int32) (n : Nat) (g : Nat → Int32) (i : Nat) : (seqG X Y R n g (i + 1)).2 = (stepG (seqG X Y R n g i).2 n (X i) (Y i) (R i)).2 := (congrArg Prod.snd (seqG_s X Y R n g i)).trans (snd_mk _ _)
theorem okG_seq {X Y R : Nat → Int32} {n : Nat} {g : Nat → Int32} (h : okG n g) : ∀ i, okG n (seqG X Y R n g i).2
  | 0 => h
  | i + 1 => by rw [seqG_s]; exact okG_step (okG_seq h i) _ _ _
theorem upd_upd (f : Nat → Int32) (k : Nat) (x y : Int32) : upd (upd f k x) k y = upd f k y := by
  funext j
  by_cases h : j = k
  · rw [h, pk_us, pk_us]
  · rw [pk_un h, pk_un h, pk_un h]
theorem upd_id (f : Nat → Int32) (k : Nat) : upd f k (f k) = f := by
  funext j
  by_cases h : j = k
  · rw [h, pk_us]
  · rw [pk_un h]
/-- the class's memory while it draws: row 0 and row 2 alone -/
def lk2 (s : Mem) (n : Nat) (z : Int32) (G : Nat → Int32) (m : Mem) : Prop := ∃ f', m.1 2 = f' ∧ m.1 0 = upd (s.1 0) 6 z ∧ m.2 = s.2 ∧ (∀ b, b ≠ 0 → b ≠ 2 → m.1 b = s.1 b) ∧ SG f' G ∧ PG f' G n
theorem C_draw (m : Mem) : fX6_draw m = some (zD (zN (m.1 0 6)), up2 m 0 6 (zN (m.1 0 6))) := by
  unfold fX6_draw
  simp only [lt]
  rw [up2_get, if_pos ⟨rfl, rfl⟩]
  rfl
theorem C_draw3 (m : Mem) {z : Int32} {h : Nat → Int32} (e : m.1 0 = upd h 6 z) : ∃ y3 y5 y7 : Int32 × Mem, fX6_draw m = some y3 ∧ fX6_draw y3.2 = some y5 ∧ fX6_draw y5.2 = some y7 ∧ y3.1 - y3.1 / 6 * 6 = zM (zN z) 6 ∧ y5.1 - y5.1 / 4 * 4 = zM (zN (zN z)) 4 ∧ y7.1 - y7.1 / 5 * 5 = zM (z3 z) 5 ∧ y7.2.1 0 = upd h 6 (z3 z) ∧ y7.2.2 = m.2 ∧ ∀ b, b ≠ 0 → y7.2.1 b = m.1 b := by
  have e0 : m.1 0 6 = z := by rw [e, pk_us]
  have h1 := C_draw m
  rw [e0] at h1
  have h2 := C_draw (up2 m 0 6 (zN z))
  rw [up2_s, pk_us] at h2
  have h3 := C_draw (up2 (up2 m 0 6 (zN z)) 0 6 (zN (zN z)))
  rw [up2_s, pk_us, z3_e] at h3
  refine ⟨_, _, _, h1, h2, h3, zM_e _ _, zM_e _ _, zM_e _ _, ?_, rfl, fun b hb => ?_⟩
  · show (up2 (up2 (up2 m 0 6 (zN z)) 0 6 (zN (zN z))) 0 6 (z3 z)).1 0 = _
    rw [up2_s, up2_s, up2_s, e, upd_upd, upd_upd, upd_upd]
  · show (up2 (up2 (up2 m 0 6 (zN z)) 0 6 (zN (zN z))) 0 6 (z3 z)).1 b = _
    rw [up2_n hb, up2_n hb, up2_n hb]
theorem loo_st {m' : Mem} {y3 y5 y7 y9 : Int32 × Mem} {xx yy rr v : Int32} {k i : Nat} (hi : i < k) (hk : k ≤ 20) (d1 : fX6_draw m' = some y3) (d2 : fX6_draw y3.2 = some y5) (d3 : fX6_draw y5.2 = some y7) (x1 : y3.1 - y3.1 / 6 * 6 = xx) (x2 : y5.1 - y5.1 / 4 * 4 = yy) (x3 : y7.1 - y7.1 / 5 * 5 = rr) (k1 : fX6_carriedOut y7.2 xx.toInt64 yy.toInt64 rr.toInt64 = some y9) : bX6_loose_26 m' (nI k) v (nI i) = some (.inr (v + y9.1, nI (i + 1), y9.2)) := by
  unfold bX6_loose_26
  rw [if_neg (by rw [nI_leI (by omega) (by omega)]; omega), d1, Option.bind_some, lt_e, d2, Option.bind_some, lt_e, d3, Option.bind_some, lt_e, x1, x2, x3, k1, Option.bind_some, lt_e, lt_e, nI_p1]
theorem loo_fin {s m' : Mem} {n k i : Nat} {y3 y5 y7 : Int32 × Mem} {sq sq1 st : Int32 × (Nat → Int32)} {xx yy rr z1 z2 : Int32} {f2 : Nat → Int32} (hi : i < k) (hk : k ≤ 20) (d1 : fX6_draw m' = some y3) (d2 : fX6_draw y3.2 = some y5) (d3 : fX6_draw y5.2 = some y7) (x1 : y3.1 - y3.1 / 6 * 6 = xx) (x2 : y5.1 - y5.1 / 4 * 4 = yy) (x3 : y7.1 - y7.1 / 5 * 5 = rr) (k1 : fX6_carriedOut y7.2 xx.toInt64 yy.toInt64 rr.toInt64 = some (st.1, upR y7.2 2 f2)) (k2 : SG f2 st.2) (k3 : PG f2 st.2 n) (s1 : sq1.1 = sq.1 + st.1) (s2 : sq1.2 = st.2) (s3 : z1 = z2) (d4 : y7.2.1 0 = upd (s.1 0) 6 z2) (d5 : y7.2.2 = m'.2) (d6 : ∀ b, b ≠ 0 → y7.2.1 b = m'.1 b) (h5 : m'.2 = s.2) (h6 : ∀ b, b ≠ 0 → b ≠ 2 → m'.1 b = s.1 b) : ∃ a', bX6_loose_26 m' (nI k) sq.1 (nI i) = some (.inr a') ∧ a'.1 = sq1.1 ∧ a'.2.1 = nI (i + 1) ∧ lk2 s n z1 sq1.2 a'.2.2 := by
  have hb := loo_st (v := sq.1) hi hk d1 d2 d3 x1 x2 x3 k1
  refine ⟨(sq.1 + st.1, nI (i + 1), upR y7.2 2 f2), hb, s1.symm, rfl, f2, upR_s, ?_, ?_, fun b q1 q2 => ?_, by rw [s2]; exact k2, by rw [s2]; exact k3⟩
  · show (upR y7.2 2 f2).1 0 = _
    rw [upR_n (by omega), d4, s3]
  · show (upR y7.2 2 f2).2 = _
    rw [upR_2, d5, h5]
  · show (upR y7.2 2 f2).1 b = _
    rw [upR_n q2, d6 b q1, h6 b q1 q2]
theorem C_loo (s : Mem) {n k : Nat} (z : Int32) (g : Nat → Int32) {m : Mem} (hk : k ≤ 20) (h : lk2 s n z g m) : ∃ b, lp (fun a => bX6_loose_26 a.2.2 (nI k) a.1 a.2.1) 600 ((0 : Int32), (0 : Int32), m) = some b ∧ (b.1 = (seqG (dX z) (dY z) (dR z) n g k).1 ∧ lk2 s n (zI z k) (seqG (dX z) (dY z) (dR z) n g k).2 b.2) := by
  refine lp_inv (α := Int32 × Int32 × Mem) (β := Int32 × Mem) (fun i w => w.1 = (seqG (dX z) (dY z) (dR z) n g i).1 ∧ w.2.1 = nI i ∧ lk2 s n (zI z i) (seqG (dX z) (dY z) (dR z) n g i).2 w.2.2) (fun b => b.1 = (seqG (dX z) (dY z) (dR z) n g k).1 ∧ lk2 s n (zI z k) (seqG (dX z) (dY z) (dR z) n g k).2 b.2) k ?_ ?_ (by omega) ⟨rfl, rfl, h⟩
  · rintro i ⟨v, j, m'⟩ hi ⟨h1, h2, f', h3, h4, h5, h6, h7, h8⟩
    simp only at h1 h2 h3 h4 h5 h6
    subst h1 h2
    left
    obtain ⟨y3, y5, y7, d1, d2, d3, x1, x2, x3, d4, d5, d6⟩ := C_draw3 m' h4
    rw [dX_e] at x1
    rw [dY_e] at x2
    rw [dR_e] at x3
    have g2 : y7.2.1 2 = f' := by rw [d6 2 (by omega), h3]
    obtain ⟨f2, k1, k2, k3⟩ := C_carried y7.2 (g := (seqG (dX z) (dY z) (dR z) n g i).2) (n := n) (dX z i).toInt64 (dY z i).toInt64 (dR z i).toInt64 (by rw [g2]; exact h7) (by rw [g2]; exact h8)
    rw [stepL_i] at k1 k2 k3
    exact loo_fin hi hk d1 d2 d3 x1 x2 x3 k1 k2 k3 (seqG_1 (dX z) (dY z) (dR z) n g i) (seqG_2 (dX z) (dY z) (dR z) n g i) (zI_s z i) d4 d5 d6 h5 h6
  · rintro ⟨v, j, m'⟩ ⟨h1, h2, h3⟩
    simp only at h1 h2 h3
    subst h1 h2
    refine ⟨((seqG (dX z) (dY z) (dR z) n g k).1, m'), ?_, rfl, h3⟩
    show bX6_loose_26 m' (nI k) (seqG (dX z) (dY z) (dR z) n g k).1 (nI k) = _
    unfold bX6_loose_26
    rw [if_pos (nI_le (Nat.le_refl k) (by omega))]
/-- the reference's memory while it draws -/
def lm2 (s : Mem) (z : Int32) (G : Nat → Int32) (m : Mem) : Prop := m.1 20 = G ∧ m.1 19 = upd (s.1 19) 4 z ∧ m.2 = s.2 ∧ ∀ b, b ≠ 19 → b ≠ 20 → m.1 b = s.1 b
theorem M_drawn (m : Mem) {d : Int32} (hd : ¬ d = 0) : fX7_drawn m d = some (zM (zN (m.1 19 4)) d, up2 m 19 4 (zN (m.1 19 4))) := by
  unfold fX7_drawn gn
  simp only [lt]
  rw [if_neg hd, up2_get, if_pos ⟨rfl, rfl⟩]
  rfl
theorem M_draw3 (m : Mem) {z : Int32} {h : Nat → Int32} (e : m.1 19 = upd h 4 z) : ∃ y3 y4 y5 : Int32 × Mem, fX7_drawn m 6 = some y3 ∧ fX7_drawn y3.2 4 = some y4 ∧ fX7_drawn y4.2 5 = some y5 ∧ y3.1 = zM (zN z) 6 ∧ y4.1 = zM (zN (zN z)) 4 ∧ y5.1 = zM (z3 z) 5 ∧ y5.2.1 19 = upd h 4 (z3 z) ∧ y5.2.2 = m.2 ∧ ∀ b, b ≠ 19 → y5.2.1 b = m.1 b := by
  have e0 : m.1 19 4 = z := by rw [e, pk_us]
  have h1 := M_drawn m (d := 6) (by decide)
  rw [e0] at h1
  have h2 := M_drawn (up2 m 19 4 (zN z)) (d := 4) (by decide)
  rw [up2_s, pk_us] at h2
  have h3 := M_drawn (up2 (up2 m 19 4 (zN z)) 19 4 (zN (zN z))) (d := 5) (by decide)
  rw [up2_s, pk_us, z3_e] at h3
  refine ⟨_, _, _, h1, h2, h3, rfl, rfl, rfl, ?_, rfl, fun b hb => ?_⟩
  · show (up2 (up2 (up2 m 19 4 (zN z)) 19 4 (zN (zN z))) 19 4 (z3 z)).1 19 = _
    rw [up2_s, up2_s, up2_s, e, upd_upd, upd_upd, upd_upd]
  · show (up2 (up2 (up2 m 19 4 (zN z)) 19 4 (zN (zN z))) 19 4 (z3 z)).1 b = _
    rw [up2_n hb, up2_n hb, up2_n hb]
theorem loo_sm {m' : Mem} {y3 y4 y5 y6 : Int32 × Mem} {v : Int32} {k i : Nat} (hi : i < k) (hk : k ≤ 20) (d1 : fX7_drawn m' 6 = some y3) (d2 : fX7_drawn y3.2 4 = some y4) (d3 : fX7_drawn y4.2 5 = some y5) (k1 : fX7_isPicked y5.2 y3.1 y4.1 y5.1 = some y6) (q01 : y6.1 = 0 ∨ y6.1 = 1) : bX7_loose_26 m' (nI k) v (nI i) = some (.inr (v + y6.1, nI (i + 1), y6.2)) := by
  unfold bX7_loose_26
  rw [if_neg (by rw [nI_leI (by omega) (by omega)]; omega), d1, Option.bind_some, d2, Option.bind_some, d3, Option.bind_some, k1, Option.bind_some, lt_e, lt_e, lt_e, lt_e, nI_p1]
  rcases q01 with q | q
  · rw [q, if_pos rfl]
  · rw [q, if_neg (by decide)]
theorem M_loo (s : Mem) {n k : Nat} (z : Int32) (g : Nat → Int32) {m : Mem} (hk : k ≤ 20) (hg : okG n g) (h : lm2 s z g m) : ∃ b, lp (fun a => bX7_loose_26 a.2.2 (nI k) a.1 a.2.1) 600 ((0 : Int32), (0 : Int32), m) = some b ∧ (b.1 = (seqG (dX z) (dY z) (dR z) n g k).1 ∧ lm2 s (zI z k) (seqG (dX z) (dY z) (dR z) n g k).2 b.2) := by
  refine lp_inv (α := Int32 × Int32 × Mem) (β := Int32 × Mem) (fun i w => w.1 = (seqG (dX z) (dY z) (dR z) n g i).1 ∧ w.2.1 = nI i ∧ lm2 s (zI z i) (seqG (dX z) (dY z) (dR z) n g i).2 w.2.2) (fun b => b.1 = (seqG (dX z) (dY z) (dR z) n g k).1 ∧ lm2 s (zI z k) (seqG (dX z) (dY z) (dR z) n g k).2 b.2) k ?_ ?_ (by omega) ⟨rfl, rfl, h⟩
  · rintro i ⟨v, j, m'⟩ hi ⟨h1, h2, h3, h4, h5, h6⟩
    simp only at h1 h2 h3 h4 h5 h6
    subst h1 h2
    left
    have hok := okG_seq (X := dX z) (Y := dY z) (R := dR z) hg i
    obtain ⟨y3, y4, y5, d1, d2, d3, x1, x2, x3, d4, d5, d6⟩ := M_draw3 m' h4
    rw [dX_e] at x1
    rw [dY_e] at x2
    rw [dR_e] at x3
    have g2 : y5.2.1 20 = (seqG (dX z) (dY z) (dR z) n g i).2 := by rw [d6 20 (by omega), h3]
    have e3 : upR y5.2 20 (seqG (dX z) (dY z) (dR z) n g i).2 = y5.2 := by rw [← g2, upR_id]
    have k1 := M_pick1 y5.2 hok y3.1 y4.1 y5.1
    rw [e3] at k1
    have q01 := step_01 (seqG (dX z) (dY z) (dR z) n g i).2 n y3.1 y4.1 y5.1
    have hb := loo_sm (v := (seqG (dX z) (dY z) (dR z) n g i).1) hi hk d1 d2 d3 k1 q01
    rw [seqG_s, ← x1, ← x2, ← x3]
    refine ⟨_, hb, rfl, rfl, upR_s, ?_, ?_, fun b q1 q2 => ?_⟩
    · show (upR y5.2 20 _).1 19 = _
      rw [upR_n (by omega), d4, zI_s]
    · show (upR y5.2 20 _).2 = _
      rw [upR_2, d5, h5]
    · show (upR y5.2 20 _).1 b = _
      rw [upR_n q2, d6 b q1, h6 b q1 q2]
  · rintro ⟨v, j, m'⟩ ⟨h1, h2, h3⟩
    simp only at h1 h2 h3
    subst h1 h2
    refine ⟨((seqG (dX z) (dY z) (dR z) n g k).1, m'), ?_, rfl, h3⟩
    show bX7_loose_26 m' (nI k) (seqG (dX z) (dY z) (dR z) n g k).1 (nI k) = _
    unfold bX7_loose_26
    rw [if_pos (nI_le (Nat.le_refl k) (by omega))]
theorem call_loose {s : Mem} (hR : Rel s) (x : Int32) : OK2 (fX6_loose s x) (fun s1 => fX7_loose s1 x) := by
  obtain ⟨hS, n, hP⟩ := hR.1
  have hn := hP.1
  have hz := hR.2.2.2.1
  cases e : inR x 1 20
  · refine fnd hR 0 (by omega) _ ?_ (fun s1 h1 _ => ?_)
    · unfold fX6_loose; rw [wi_in x 1 20 (by decide) (by decide), e]; rfl
    · show fX7_loose s1 x = _
      unfold fX7_loose; rw [mi_in x 1 20 (by decide) (by decide), e]; rfl
  obtain ⟨k, hk1, hk, rfl⟩ := inR_exL (l := 1) (h := 20) (by omega) e
  obtain ⟨s1, b1, b2, b3, b4, b5, b6, b7⟩ := C_beg hR
  obtain ⟨b, k1, k2, f', k3, k4, k5, k6, k7, k8⟩ := C_loo s1 (n := n) (k := k) (s.1 0 6) (s.1 20) (m := s1) hk ⟨s.1 2, b3, by rw [← b7 0 (by omega) (by omega), upd_id], rfl, fun _ _ _ => rfl, hS, hP⟩
  obtain ⟨bv, m⟩ := b
  simp only at k2 k3 k4 k5 k6
  subst k2
  generalize hz' : zI (s.1 0 6) k = z' at *
  have m19 : m.1 19 = s.1 19 := by rw [k6 19 (by omega) (by omega), b7 19 (by omega) (by omega)]
  have m20 : m.1 20 = s.1 20 := by rw [k6 20 (by omega) (by omega), b4]
  obtain ⟨d, j1, j2, j3, j4, j5, j6⟩ := M_loo (upR m 23 (va_cpy (m.1 20) (m.1 23) 0 0 139)) (n := n) (k := k) (s.1 0 6) (s.1 20) (m := upR m 23 (va_cpy (m.1 20) (m.1 23) 0 0 139)) hk ⟨s.1 2, hS, hP⟩ ⟨by rw [upR_1, if_neg (by omega), m20], by rw [upR_1, if_neg (by omega), m19, hz, upd_id], rfl, fun _ _ _ => rfl⟩
  obtain ⟨dv, m2⟩ := d
  simp only at j2 j3 j4 j5 j6
  subst j2
  rw [hz'] at j4
  obtain ⟨u, sl, fs, hu, hsl, hfs, -, -, e3, e4, -⟩ := hR.2.1
  have r19 : (upR m 23 (va_cpy (m.1 20) (m.1 23) 0 0 139)).1 19 = s.1 19 := by rw [upR_1, if_neg (by omega), m19]
  have t19 : (up2 m 19 4 z').1 19 = upd (s.1 19) 4 z' := by rw [up2_s, m19]
  have to : ∀ a, a ≠ 19 → (up2 m 19 4 z').1 a = m.1 a := fun a ha => by rw [up2_1, if_neg ha]
  rw [r19] at j4
  obtain ⟨s2, w1, w2, -, -⟩ := M_changes (up2 m 19 4 z') m2 hfs hu (by rw [t19, pk_un (by omega)]; exact e3) (by rw [t19, pk_un (by omega)]; exact e4)
    (fun i hi => by rw [j6 23 (by omega) (by omega), upR_s, pk_cpy_in (by omega) (by omega), to 20 (by omega), show 0 + (i - 0) = i by omega])
    (by rw [j4, t19]) (by rw [j4, t19]) (by rw [j4, t19]) (by rw [j4, t19]) (fun a _ => by rw [j5]; rfl)
    (fun a ha => by rw [j6 a (by omega) (by omega), upR_1, if_neg (by omega), to a (by omega)])
  rw [j3] at w2
  have hC : ChC (up2 (up2 s 0 6 z') 19 4 z') (up2 m 19 4 z') f' := by
    obtain ⟨-, c2, c3, c4⟩ := b6
    refine ⟨by rw [to 2 (by omega), k3], ?_, ?_, ?_⟩
    · intro sl' u' q1 q2 q3 q4
      rw [up2_1, if_neg (by omega), up2_1, if_neg (by omega)] at q3 q4
      obtain ⟨v1, v2, v3⟩ := c2 sl' u' q1 q2 q3 q4
      rw [to 3 (by omega), to 4 (by omega), k6 3 (by omega) (by omega), k6 4 (by omega) (by omega), up2_1, if_neg (by omega), up2_1, if_neg (by omega), up2_1, if_neg (by omega), up2_1, if_neg (by omega)]
      exact ⟨v1, v2, v3⟩
    · rw [up2_2, up2_2, up2_2, k5, c3]
    · intro a q1 q2 q3 q4
      by_cases z0 : a = 0
      · subst z0
        rw [to 0 (by omega), k4, up2_1, if_neg (by omega), up2_s, b7 0 (by omega) (by omega)]
      · by_cases z9 : a = 19
        · subst z9
          rw [t19, up2_s, up2_1, if_neg (by omega)]
        · rw [to a z9, k6 a z0 q1, b7 a q2 q3, up2_1, if_neg z9, up2_1, if_neg z0]
  refine ⟨(seqG (dX (s.1 0 6)) (dY (s.1 0 6)) (dR (s.1 0 6)) n (s.1 20) k).1, m, s2, ?_, ?_, Rel_step (Rel_z hR z') hC w2 ⟨k7, n, k8⟩⟩
  · unfold fX6_loose
    rw [wi_in _ 1 20 (by decide) (by decide), e, Option.bind_some, bi_n0, if_pos rfl, b1, Option.bind_some, k1]
    rfl
  · show fX7_loose m (nI k) = _
    unfold fX7_loose
    rw [mi_in _ 1 20 (by decide) (by decide), e, Option.bind_some, bi_n0, if_pos rfl, M_aside, Option.bind_some, j1, Option.bind_some]
    simp only
    rw [w1]
    rfl
/-! undo -/
theorem M_undoL (s : Mem) {k : Nat} (hk : k < 30) : lp (fun a => bX7_undo_38 a.2 (nI k) a.1) 600 ((0 : Int32), s) = some (upR s 20 (va_cpy (s.1 (37 + k)) (s.1 20) 0 0 139)) := by
  have hs : ∀ i, i < 139 → bX7_undo_38 (upR s 20 (va_cpy (s.1 (37 + k)) (s.1 20) 0 0 i)) (nI k) (nI i) = some (.inr (nI (i + 1), upR s 20 (va_cpy (s.1 (37 + k)) (s.1 20) 0 0 (i + 1)))) := by
    intro i hi
    unfold bX7_undo_38
    rw [if_neg (nI_c139 hi), gd_in hk (by omega), gd_in hi (by omega), gd_in hi (by omega), nI_clamp (by omega), nI_clamp (by omega)]
    simp only [lt, nI_p1]
    rw [upR_1, if_neg (by omega), up2_R, upR_s, upR_R, cpy_step]
  have he : bX7_undo_38 (upR s 20 (va_cpy (s.1 (37 + k)) (s.1 20) 0 0 139)) (nI k) (nI 139) = some (.inl (upR s 20 (va_cpy (s.1 (37 + k)) (s.1 20) 0 0 139))) := by
    unfold bX7_undo_38
    rw [if_pos (by decide)]
  exact lp_at (body := fun a => bX7_undo_38 a.2 (nI k) a.1) (a := ((0 : Int32), s)) (k := 600) (fun i => (nI i, upR s 20 (va_cpy (s.1 (37 + k)) (s.1 20) 0 0 i))) 139 (by rw [cpy_0, upR_id]; rfl) hs he (by omega)
theorem call_undo {s : Mem} (hR : Rel s) : OK2 (fX6_undo s) (fun s1 => fX7_undo s1) := by
  have hR0 := hR
  obtain ⟨r1, ⟨u, sl, fs, hu, hsl, hfs, e1, e2, e3, e4, hk⟩, r3, r4, r5, r6⟩ := hR
  by_cases h0 : u = 0
  · refine fnd hR0 3 (by omega) _ ?_ (fun s1 h1 _ => ?_)
    · unfold fX6_undo fX2_kept; rw [e2, h0]; rfl
    · show fX7_undo s1 = _
      unfold fX7_undo; rw [h1 19 (by omega), e4, h0]; rfl
  obtain ⟨v, rfl⟩ : ∃ v, u = v + 1 := ⟨u - 1, by omega⟩
  have hne : ¬ nI (v + 1) = (0 : Int32) := nI_ne0 (by omega) (by omega)
  have hsl' : (sl + 30) % 31 < 31 := Nat.mod_lt _ (by omega)
  have hcx : fX6_undo s = some (nI v, upR (up2 (up2 s 3 1 (nI ((sl + 30) % 31))) 3 2 (nI v)) 2 (va_cpy (s.1 4) (s.1 2) ((sl + 30) % 31 * 171) 0 171)) := by
    unfold fX6_undo fX2_kept fX2_goBack
    rw [e2, Option.bind_some, if_neg hne]
    simp only [lt]
    rw [e1, show (31 : Int32) = nI 31 from rfl, nI_add, show (1 : Int32) = nI 1 from rfl, pk_sub (by omega), pk_rem (by omega) (by omega) (by omega), show (sl + 31 - 1) % 31 = (sl + 30) % 31 by congr 1, up2_get, if_neg (by omega), e2, pk_sub (by omega), show v + 1 - 1 = v by omega, C_bringBack (sl := (sl + 30) % 31) _ (by rw [up2_get, if_neg (by omega), up2_get, if_pos (by omega)]) hsl', Option.bind_some, up2_1, if_neg (by omega), up2_1, if_neg (by omega), up2_1, if_neg (by omega), up2_1, if_neg (by omega), Option.bind_some, upR_1, if_neg (by omega), up2_get, if_pos (by omega)]
  generalize hs1 : upR (up2 (up2 s 3 1 (nI ((sl + 30) % 31))) 3 2 (nI v)) 2 (va_cpy (s.1 4) (s.1 2) ((sl + 30) % 31 * 171) 0 171) = s1 at hcx
  have s1o : ∀ a, a ≠ 2 → a ≠ 3 → s1.1 a = s.1 a := fun a q1 q2 => by rw [← hs1, upR_1, if_neg q1, up2_1, if_neg q2, up2_1, if_neg q2]
  have s12 : s1.1 2 = va_cpy (s.1 4) (s.1 2) ((sl + 30) % 31 * 171) 0 171 := by rw [← hs1, upR_s]
  have s131 : s1.1 3 1 = nI ((sl + 30) % 31) := by rw [← hs1, upR_1, if_neg (by omega), up2_get, if_neg (by omega), up2_get, if_pos (by omega)]
  have s132 : s1.1 3 2 = nI v := by rw [← hs1, upR_1, if_neg (by omega), up2_get, if_pos (by omega)]
  have s1L : s1.2 = s.2 := by rw [← hs1]; rfl
  have hat : (fs + v) % 30 < 30 := Nat.mod_lt _ (by omega)
  have hmx : fX7_undo s1 = some (nI v, upR (up2 s1 19 3 (nI v)) 20 (va_cpy (s.1 (37 + (fs + v) % 30)) (s.1 20) 0 0 139)) := by
    unfold fX7_undo
    rw [s1o 19 (by omega) (by omega), e4, if_neg hne]
    simp only [lt]
    rw [show (1 : Int32) = nI 1 from rfl, pk_sub (by omega), show v + 1 - 1 = v by omega]
    rw [up2_get, if_neg (by omega), up2_get, if_pos (by omega), s1o 19 (by omega) (by omega), e3, nI_add, show (30 : Int32) = nI 30 from rfl, pk_rem (by omega) (by omega) (by omega), M_undoL _ hat, Option.bind_some, up2_1, if_neg (by omega), up2_1, if_neg (by omega), s1o _ (by omega) (by omega), s1o _ (by omega) (by omega), upR_1, if_neg (by omega), up2_get, if_pos (by omega)]
  refine ⟨nI v, s1, _, hcx, hmx, ?_⟩
  generalize hs2 : upR (up2 s1 19 3 (nI v)) 20 (va_cpy (s.1 (37 + (fs + v) % 30)) (s.1 20) 0 0 139) = s2
  have s2o : ∀ a, a ≠ 2 → a ≠ 3 → a ≠ 19 → a ≠ 20 → s2.1 a = s.1 a := fun a q1 q2 q3 q4 => by rw [← hs2, upR_1, if_neg q4, up2_1, if_neg q3, s1o a q1 q2]
  have s22 : s2.1 2 = s1.1 2 := by rw [← hs2, upR_1, if_neg (by omega), up2_1, if_neg (by omega)]
  have s23 : s2.1 3 = s1.1 3 := by rw [← hs2, upR_1, if_neg (by omega), up2_1, if_neg (by omega)]
  have s220 : s2.1 20 = va_cpy (s.1 (37 + (fs + v) % 30)) (s.1 20) 0 0 139 := by rw [← hs2, upR_s]
  have s2j : ∀ j, j ≠ 3 → s2.1 19 j = s.1 19 j := fun j hj => by rw [← hs2, upR_1, if_neg (by omega), up2_get, if_neg (by omega), s1o 19 (by omega) (by omega)]
  have s2L : s2.2 = s.2 := by rw [← hs2, upR_2, up2_2, s1L]
  refine ⟨?_, ?_, ?_, ?_, ?_, ?_⟩
  · have := hk v (by omega)
    rw [s22, s12, s220]
    refine Gd_cg this (fun j hj => ?_) (fun j hj => ?_)
    · rw [pk_cpy_in (by omega) (by omega)]
      unfold cutF
      have w0 : sl + 31 - (v + 1) + v = sl + 30 := by omega
      have w1 : (sl + 30) % 31 * 171 + (j - 0) = (sl + 30) % 31 * 171 + j := by omega
      rw [w0, w1]
    · rw [pk_cpy_in (by omega) (by omega), show 0 + (j - 0) = j by omega]
  · refine ⟨v, (sl + 30) % 31, fs, by omega, hsl', hfs, by rw [s23]; exact s131, by rw [s23]; exact s132, by rw [s2j 2 (by omega)]; exact e3, ?_, fun i hi => ?_⟩
    · rw [← hs2, upR_1, if_neg (by omega), up2_get, if_pos (by omega)]
    · have := hk i (by omega)
      rw [s2o 4 (by omega) (by omega) (by omega) (by omega), s2o (37 + (fs + i) % 30) (by omega) (by omega) (by omega) (by omega)]
      have w1 : ((sl + 30) % 31 + 31 - v + i) % 31 = (sl + 31 - (v + 1) + i) % 31 := by omega
      rw [w1]; exact this
  · intro j hj
    rw [s2o 18 (by omega) (by omega) (by omega) (by omega), s2o 22 (by omega) (by omega) (by omega) (by omega)]; exact r3 j hj
  · rw [s2o 0 (by omega) (by omega) (by omega) (by omega), s2j 4 (by omega)]; exact r4
  · obtain ⟨L, hL, l1, l2, l3⟩ := r5
    refine ⟨L, hL, ?_, ?_, fun i hi => ?_⟩
    · rw [s2o 12 (by omega) (by omega) (by omega) (by omega)]; exact l1
    · rw [s2j 19 (by omega)]; exact l2
    · rw [s2o 28 (by omega) (by omega) (by omega) (by omega), s2o 13 (by omega) (by omega) (by omega) (by omega)]; exact l3 i hi
  · intro k hk'
    obtain ⟨q1, q2, q3, q4, q5⟩ := r6 k hk'
    rw [s2o 16 (by omega) (by omega) (by omega) (by omega), s2o 17 (by omega) (by omega) (by omega) (by omega), s2o 29 (by omega) (by omega) (by omega) (by omega), s2o 30 (by omega) (by omega) (by omega) (by omega), s2L]
    exact ⟨q1, q2, q3, q4, q5⟩
