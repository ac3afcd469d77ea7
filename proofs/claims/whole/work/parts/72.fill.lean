/-! many picked: fill, orders -/
theorem upR_n {σ : Mem} {k a : Nat} {f : Nat → Int32} (h : a ≠ k) : (upR σ k f).1 a = σ.1 a := if_neg h
theorem up2_n {σ : Mem} {k i a : Nat} {x : Int32} (h : a ≠ k) : (up2 σ k i x).1 a = σ.1 a := if_neg h
theorem itr_s {α : Type} (f : Nat → α → α) (a : α) (n : Nat) : itr f a (n + 1) = f n (itr f a n) := rfl
def stepG (g : Nat → Int32) (n : Nat) (x y r : Int32) : Int32 × (Nat → Int32) := match R_would x y r g n with
  | .inl t => (1, upd g (100 + 7 * x.toNatClampNeg + y.toNatClampNeg) t)
  | .inr _ => (0, g)
theorem step_01 (g : Nat → Int32) (n : Nat) (x y r : Int32) : (stepG g n x y r).1 = 0 ∨ (stepG g n x y r).1 = 1 := by
  unfold stepG
  cases R_would x y r g n with
  | inl a => exact Or.inr rfl
  | inr k => exact Or.inl rfl
theorem M_isPicked {f : Nat → Int32} (s : Mem) {n : Nat} (x y r : Int32) (hS : SG f (s.1 20)) (hP : PG f (s.1 20) n) : fX7_isPicked s x y r = some ((stepG (s.1 20) n x y r).1, upR s 20 (stepG (s.1 20) n x y r).2) := by
  have hn := hP.1
  unfold fX7_isPicked stepG
  rw [M_whyNoPick s x y r hS hP, Option.bind_some]
  cases e : R_would x y r (s.1 20) n with
  | inl a =>
    obtain ⟨p, c, rr, t, hp, hc, hr, ht, rfl, rfl, rfl, rfl, h1, h2⟩ := would_inl hP.1 e
    rw [show whyR (.inl (nI t)) = -1 from rfl, if_pos (by decide), M_picked s hS hP hp hc hr, Option.bind_some, h2, M_puts s _ (by omega) hc, Option.bind_some, nI_clamp (by omega), nI_clamp (by omega), up2_R]
  | inr k =>
    rw [show whyR (.inr k) = nI k.val from rfl, if_neg (nI_pos (by omega)), upR_id]
def isI (p : Int64) : Bool := decide (lg_cmp p (p.toInt32.toInt64) = 0)
theorem M_isInt (p : Int64) : fX7_isInt p = some (bi (isI p)) := by
  unfold fX7_isInt isI
  rw [bi_ite]
def stepL (g : Nat → Int32) (n : Nat) (x y r : Int64) : Int32 × (Nat → Int32) := if isI x then (if isI y then (if isI r then stepG g n x.toInt32 y.toInt32 r.toInt32 else (0, g)) else (0, g)) else (0, g)
theorem C_carried (s : Mem) {g : Nat → Int32} {n : Nat} (x y r : Int64) (hS : SG (s.1 2) g) (hP : PG (s.1 2) g n) : ∃ f', fX6_carriedOut s x y r = some ((stepL g n x y r).1, upR s 2 f') ∧ SG f' (stepL g n x y r).2 ∧ PG f' (stepL g n x y r).2 n := by
  have hn := hP.1
  have e0 : ∀ z : Int64, (lg_cmp z (z.toInt32.toInt64) = 0) ↔ isI z = true := fun z => by unfold isI; rw [decide_eq_true_iff]
  have idle : fX6_carriedOut s x y r = some (0, s) → stepL g n x y r = (0, g) → ∃ f', fX6_carriedOut s x y r = some ((stepL g n x y r).1, upR s 2 f') ∧ SG f' (stepL g n x y r).2 ∧ PG f' (stepL g n x y r).2 n := by
    intro h1 h2
    rw [h2]
    exact ⟨s.1 2, by rw [h1, upR_id], hS, hP⟩
  have hx : fX6_carriedOut s x y r = if isI x = true then (if isI y = true then (if isI r = true then (fX6_choice s (x.toInt32) (y.toInt32) (r.toInt32)).bind (fun y1 => if (0 : Int32) ≤ y1 then (fX0_sitsNow s (x.toInt32) (y.toInt32) y1).bind (fun y2 => some (((1 : Int32), y2.2))) else some (((0 : Int32), s))) else some (((0 : Int32), s))) else some (((0 : Int32), s))) else some (((0 : Int32), s)) := by
    unfold fX6_carriedOut
    simp only [e0]
  cases i1 : isI x
  · exact idle (by rw [hx, i1]; rfl) (by unfold stepL; rw [i1]; rfl)
  cases i2 : isI y
  · exact idle (by rw [hx, i1, i2]; rfl) (by unfold stepL; rw [i1, i2]; rfl)
  cases i3 : isI r
  · exact idle (by rw [hx, i1, i2, i3]; rfl) (by unfold stepL; rw [i1, i2, i3]; rfl)
  rw [i1, i2, i3, if_pos rfl, if_pos rfl, if_pos rfl, C_choice s _ _ _ hS hP, Option.bind_some] at hx
  have hst : stepL g n x y r = stepG g n x.toInt32 y.toInt32 r.toInt32 := by unfold stepL; rw [i1, i2, i3]; rfl
  cases e : R_would x.toInt32 y.toInt32 r.toInt32 g n with
  | inr k =>
    rw [e, show encR (.inr k) = (-1 : Int32) - nI k.val from rfl, if_neg (enc_neg k)] at hx
    exact idle hx (by rw [hst]; unfold stepG; rw [e])
  | inl a =>
    obtain ⟨p, c, rr, t, hp, hc, hr, ht, w1, w2, w3, rfl, h1, h2⟩ := would_inl hP.1 e
    rw [e, show encR (.inl (nI t)) = nI t from rfl, if_pos (nI_pos' (by omega)), w1, w2, C_sitsNow s _ (by omega) hc, Option.bind_some] at hx
    have hst2 : stepL g n x y r = (1, upd g (100 + 7 * p + c) (nI t)) := by
      rw [hst]; unfold stepG; rw [e, w1, w2, nI_clamp (by omega), nI_clamp (by omega)]
    have hG := Gd_sits (v := nI t) hS hP hp hc (Or.inr ⟨t, ht, rfl, fit_law h1⟩)
    rw [hst2]
    exact ⟨upd (s.1 2) (99 + 7 * p + c) (nI t), by rw [hx, up2_R], hG.1, hG.2⟩
theorem cmp_id : ∀ x : Int32, isI x.toInt64 = true ∧ x.toInt64.toInt32 = x := by
  intro x
  have h : x.toInt64.toInt32 = x := by simp
  refine ⟨?_, h⟩
  unfold isI
  rw [h]
  exact decide_eq_true ((lg_cmp_eq _ _).mpr rfl)
theorem stepL_i (g : Nat → Int32) (n : Nat) (x y r : Int32) : stepL g n x.toInt64 y.toInt64 r.toInt64 = stepG g n x y r := by
  unfold stepL
  rw [(cmp_id x).1, (cmp_id y).1, (cmp_id r).1, (cmp_id x).2, (cmp_id y).2, (cmp_id r).2]
  rfl
/-- one course of a pupil filled -/
def fil1 (n : Nat) (r : Int32) (p c : Nat) (a : Int32 × (Nat → Int32)) : Int32 × (Nat → Int32) := if (0 : Int32) ≤ a.2 (100 + 7 * p + c) then a else (a.1 + (stepG a.2 n (nI p) (nI c) r).1, (stepG a.2 n (nI p) (nI c) r).2)
def filC (n : Nat) (r : Int32) (p : Nat) (a : Int32 × (Nat → Int32)) : Nat → Int32 × (Nat → Int32) := itr (fun c b => fil1 n r p c b) a
theorem filC_s (n : Nat) (r : Int32) (p : Nat) (a : Int32 × (Nat → Int32)) (c : Nat) : filC n r p a (c + 1) = fil1 n r p c (filC n r p a c) := itr_s (fun c b => fil1 n r p c b) a c
def filP (n : Nat) (r : Int32) (a : Int32 × (Nat → Int32)) : Nat → Int32 × (Nat → Int32) := itr (fun p b => filC n r p b 4) a
theorem filP_s (n : Nat) (r : Int32) (a : Int32 × (Nat → Int32)) (p : Nat) : filP n r a (p + 1) = filC n r p (filP n r a p) 4 := itr_s (fun p b => filC n r p b 4) a p
def linked (s : Mem) (n : Nat) (a : Int32 × (Nat → Int32)) (m : Mem) : Prop := ∃ f', m = upR s 2 f' ∧ SG f' a.2 ∧ PG f' a.2 n
theorem C_filC (s : Mem) {n p : Nat} (r : Int32) (a : Int32 × (Nat → Int32)) {m : Mem} (hp : p < n) (h : linked s n a m) : ∃ b, lp (fun a => bX6_fill_40 a.2.2 r (nI p) a.1 a.2.1) 600 (a.1, (0 : Int32), m) = some b ∧ (b.1 = (filC n r p a 4).1 ∧ linked s n (filC n r p a 4) b.2) := by
  refine lp_inv (α := Int32 × Int32 × Mem) (β := Int32 × Mem) (fun i w => w.1 = (filC n r p a i).1 ∧ w.2.1 = nI i ∧ linked s n (filC n r p a i) w.2.2) (fun b => b.1 = (filC n r p a 4).1 ∧ linked s n (filC n r p a 4) b.2) 4 ?_ ?_ (by omega) ⟨rfl, rfl, h⟩
  · rintro i ⟨v, z, m'⟩ hi ⟨h1, h2, f', h3, h4, h5⟩
    simp only at h1 h2 h3
    subst h1 h2 h3
    left
    have hn := h5.1
    have hb := BR_sits (Gd_BR h4 h5) hp hi
    show ∃ a', bX6_fill_40 (upR s 2 f') r (nI p) (filC n r p a i).1 (nI i) = some (.inr a') ∧ _
    unfold bX6_fill_40
    rw [if_neg (nI_c4 hi), C_sits _ (by omega) hi, Option.bind_some, upR_s, hb, filC_s]
    unfold fil1
    simp only [lt, nI_p1]
    by_cases q : (0 : Int32) ≤ (filC n r p a i).2 (100 + 7 * p + i)
    · rw [if_pos q, if_pos q]
      exact ⟨((filC n r p a i).1, nI (i + 1), upR s 2 f'), rfl, rfl, rfl, f', rfl, h4, h5⟩
    · rw [if_neg q, if_neg q]
      obtain ⟨f2, k1, k2, k3⟩ := C_carried (upR s 2 f') (g := (filC n r p a i).2) (n := n) (nI p).toInt64 (nI i).toInt64 r.toInt64 (by rw [upR_s]; exact h4) (by rw [upR_s]; exact h5)
      rw [stepL_i] at k1 k2 k3
      rw [k1, Option.bind_some]
      exact ⟨((filC n r p a i).1 + (stepG (filC n r p a i).2 n (nI p) (nI i) r).1, nI (i + 1), upR (upR s 2 f') 2 f2), rfl, rfl, rfl, f2, by rw [upR_R], k2, k3⟩
  · rintro ⟨v, z, m'⟩ ⟨h1, h2, h3⟩
    simp only at h1 h2 h3
    subst h1 h2
    refine ⟨((filC n r p a 4).1, m'), ?_, rfl, h3⟩
    show bX6_fill_40 m' r (nI p) (filC n r p a 4).1 (nI 4) = _
    unfold bX6_fill_40
    rw [if_pos (by decide)]
theorem C_filP (s : Mem) {n : Nat} (r : Int32) (a : Int32 × (Nat → Int32)) {m : Mem} (hn : n ≤ 6) (h : linked s n a m) : ∃ b, lp (fun a => bX6_fill_26 a.2.2 r a.1 a.2.1) 600 (a.1, (0 : Int32), m) = some b ∧ (b.1 = (filP n r a n).1 ∧ linked s n (filP n r a n) b.2) := by
  have pup : ∀ b m', linked s n b m' → m'.1 2 138 = nI n := by
    rintro b m' ⟨f', rfl, -, q⟩
    rw [upR_s]; exact q.2.2.1
  refine lp_inv (α := Int32 × Int32 × Mem) (β := Int32 × Mem) (fun i w => w.1 = (filP n r a i).1 ∧ w.2.1 = nI i ∧ linked s n (filP n r a i) w.2.2) (fun b => b.1 = (filP n r a n).1 ∧ linked s n (filP n r a n) b.2) n ?_ ?_ (by omega) ⟨rfl, rfl, h⟩
  · rintro i ⟨v, z, m'⟩ hi ⟨h1, h2, h3⟩
    simp only at h1 h2 h3
    subst h1 h2
    left
    obtain ⟨b, k1, k2, k3⟩ := C_filC s r (filP n r a i) hi h3
    show ∃ a', bX6_fill_26 m' r (filP n r a i).1 (nI i) = some (.inr a') ∧ _
    unfold bX6_fill_26
    rw [C_pupils, pup _ _ h3, Option.bind_some, if_neg (nI_cn hi hn), k1, Option.bind_some]
    simp only [lt, nI_p1]
    refine ⟨(b.1, nI (i + 1), b.2), rfl, ?_, rfl, ?_⟩
    · rw [filP_s]; exact k2
    · rw [filP_s]; exact k3
  · rintro ⟨v, z, m'⟩ ⟨h1, h2, h3⟩
    simp only at h1 h2 h3
    subst h1 h2
    refine ⟨((filP n r a n).1, m'), ?_, rfl, h3⟩
    show bX6_fill_26 m' r (filP n r a n).1 (nI n) = _
    unfold bX6_fill_26
    rw [C_pupils, pup _ _ h3, Option.bind_some, if_pos (nI_le (Nat.le_refl n) (by omega))]
/-- the same on the reference's row -/
def okG (n : Nat) (g : Nat → Int32) : Prop := ∃ f, SG f g ∧ PG f g n
theorem okG_step {n : Nat} {g : Nat → Int32} (h : okG n g) (x y r : Int32) : okG n (stepG g n x y r).2 := by
  obtain ⟨f, h1, h2⟩ := h
  unfold stepG
  cases e : R_would x y r g n with
  | inr k => exact ⟨f, h1, h2⟩
  | inl a =>
    obtain ⟨p, c, rr, t, hp, hc, hr, ht, rfl, rfl, rfl, rfl, k1, k2⟩ := would_inl h2.1 e
    have hn := h2.1
    have hG := Gd_sits (v := nI t) h1 h2 hp hc (Or.inr ⟨t, ht, rfl, fit_law k1⟩)
    rw [nI_clamp (by omega), nI_clamp (by omega)]
    exact ⟨_, hG.1, hG.2⟩
theorem okG_fil1 {n : Nat} {a : Int32 × (Nat → Int32)} (h : okG n a.2) (r : Int32) (p c : Nat) : okG n (fil1 n r p c a).2 := by
  unfold fil1
  by_cases q : (0 : Int32) ≤ a.2 (100 + 7 * p + c)
  · rw [if_pos q]; exact h
  · rw [if_neg q]; exact okG_step h _ _ _
theorem okG_filC {n : Nat} {a : Int32 × (Nat → Int32)} (h : okG n a.2) (r : Int32) (p : Nat) : ∀ c, okG n (filC n r p a c).2
  | 0 => h
  | c + 1 => by rw [filC_s]; exact okG_fil1 (okG_filC h r p c) r p c
theorem okG_filP {n : Nat} {a : Int32 × (Nat → Int32)} (h : okG n a.2) (r : Int32) : ∀ p, okG n (filP n r a p).2
  | 0 => h
  | p + 1 => by rw [filP_s]; exact okG_filC (okG_filP h r p) r p 4
theorem M_pick1 (s : Mem) {n : Nat} {g : Nat → Int32} (h : okG n g) (x y r : Int32) : fX7_isPicked (upR s 20 g) x y r = some ((stepG g n x y r).1, upR s 20 (stepG g n x y r).2) := by
  obtain ⟨f, h1, h2⟩ := h
  have := M_isPicked (f := f) (n := n) (upR s 20 g) x y r (by rw [upR_s]; exact h1) (by rw [upR_s]; exact h2)
  rw [upR_s, upR_R] at this
  exact this
theorem M_filC (s : Mem) {n p : Nat} (r : Int32) (a : Int32 × (Nat → Int32)) (hp : p < n) (h : okG n a.2) : lp (fun a => bX7_fill_40 a.2.2 r (nI p) a.1 a.2.1) 600 (a.1, (0 : Int32), upR s 20 a.2) = some ((filC n r p a 4).1, upR s 20 (filC n r p a 4).2) := by
  have hn : n ≤ 6 := by obtain ⟨f, -, q⟩ := h; exact q.1
  have hs : ∀ i, i < 4 → bX7_fill_40 (upR s 20 (filC n r p a i).2) r (nI p) (filC n r p a i).1 (nI i) = some (.inr ((filC n r p a (i + 1)).1, nI (i + 1), upR s 20 (filC n r p a (i + 1)).2)) := by
    intro i hi
    have hk := okG_filC h r p i
    rw [filC_s]
    generalize filC n r p a i = w at *
    unfold bX7_fill_40 gX7_fill_72 fil1
    rw [if_neg (nI_c4 hi), M_triple _ (by omega) hi, Option.bind_some, upR_s, M_pick1 s hk, Option.bind_some]
    simp only [lt, nI_p1]
    by_cases q : (0 : Int32) ≤ w.2 (100 + 7 * p + i)
    · rw [if_pos q, if_pos q, Int32.add_zero]
    · rw [if_neg q, if_neg q]
      rcases step_01 w.2 n (nI p) (nI i) r with z | z
      · rw [z, if_pos rfl]
      · rw [z, if_neg (by decide)]
  have he : bX7_fill_40 (upR s 20 (filC n r p a 4).2) r (nI p) (filC n r p a 4).1 (nI 4) = some (.inl ((filC n r p a 4).1, upR s 20 (filC n r p a 4).2)) := by
    unfold bX7_fill_40
    rw [if_pos (by decide)]
  exact lp_at (body := fun a => bX7_fill_40 a.2.2 r (nI p) a.1 a.2.1) (a := (a.1, (0 : Int32), upR s 20 a.2)) (k := 600) (fun i => ((filC n r p a i).1, nI i, upR s 20 (filC n r p a i).2)) 4 rfl hs he (by omega)
theorem M_filP (s : Mem) {n : Nat} (r : Int32) (a : Int32 × (Nat → Int32)) (h : okG n a.2) : lp (fun a => bX7_fill_26 a.2.2 r a.1 a.2.1) 600 (a.1, (0 : Int32), upR s 20 a.2) = some ((filP n r a n).1, upR s 20 (filP n r a n).2) := by
  have hn : n ≤ 6 := by obtain ⟨f, -, q⟩ := h; exact q.1
  have h96 : ∀ i, (filP n r a i).2 96 = nI n := by
    intro i
    obtain ⟨f, -, q⟩ := okG_filP h r i
    exact q.2.1
  have hs : ∀ i, i < n → bX7_fill_26 (upR s 20 (filP n r a i).2) r (filP n r a i).1 (nI i) = some (.inr ((filP n r a (i + 1)).1, nI (i + 1), upR s 20 (filP n r a (i + 1)).2)) := by
    intro i hi
    unfold bX7_fill_26
    simp only [cl96]
    rw [gd96, upR_s, h96, if_neg (nI_cn hi hn), M_filC s r _ hi (okG_filP h r i), Option.bind_some, filP_s]
    simp only [lt, nI_p1]
  have he : bX7_fill_26 (upR s 20 (filP n r a n).2) r (filP n r a n).1 (nI n) = some (.inl ((filP n r a n).1, upR s 20 (filP n r a n).2)) := by
    unfold bX7_fill_26
    simp only [cl96]
    rw [gd96, upR_s, h96, if_pos (nI_le (Nat.le_refl n) (by omega))]
  exact lp_at (body := fun a => bX7_fill_26 a.2.2 r a.1 a.2.1) (a := (a.1, (0 : Int32), upR s 20 a.2)) (k := 600) (fun i => ((filP n r a i).1, nI i, upR s 20 (filP n r a i).2)) n rfl hs he (by omega)
theorem call_fill {s : Mem} (hR : Rel s) (r : Int32) : OK2 (fX6_fill s r) (fun s1 => fX7_fill s1 r) := by
  obtain ⟨hS, n, hP⟩ := hR.1
  have hn := hP.1
  cases e : inR r 0 4
  · refine fnd hR 0 (by omega) _ ?_ (fun s1 h1 _ => ?_)
    · unfold fX6_fill; rw [wi_in r 0 4 (by decide) (by decide), e]; rfl
    · show fX7_fill s1 r = _
      unfold fX7_fill; rw [mi_in r 0 4 (by decide) (by decide), e]; rfl
  · obtain ⟨s1, b1, b2, b3, b4, b5, b6, -⟩ := C_beg hR
    obtain ⟨b, k1, k2, f', k3, k4, k5⟩ := C_filP s1 r ((0 : Int32), s.1 20) (m := s1) hn ⟨s.1 2, by rw [← b3, upR_id], hS, hP⟩
    refine ok_chg hR (a := (filP n r ((0 : Int32), s.1 20) n).1) (s1 := upR s1 2 f') ?_ (b2 _) ⟨k4, n, k5⟩ (fun s2 k6 k7 => ?_)
    · unfold fX6_fill
      rw [wi_in r 0 4 (by decide) (by decide), e, Option.bind_some, bi_n0, if_pos rfl, b1, Option.bind_some]
      rw [k1, Option.bind_some, k2, k3]
    · have e20 : (upR s1 2 f').1 20 = s.1 20 := by rw [upR_1, if_neg (by omega), b4]
      show fX7_fill (upR s1 2 f') r = _
      unfold fX7_fill
      rw [mi_in r 0 4 (by decide) (by decide), e, Option.bind_some, bi_n0, if_pos rfl, M_aside, Option.bind_some, aside_id, e20]
      have hm := M_filP (upR (upR s1 2 f') 23 (va_cpy (s.1 20) ((upR s1 2 f').1 23) 0 0 139)) r ((0 : Int32), s.1 20) (n := n) ⟨s.1 2, hS, hP⟩
      rw [e20] at k6
      rw [hm, Option.bind_some]
      simp only
      rw [k6]
      rfl
/-! orders -/
def ordG (L : Nat → Int64) (n : Nat) (g : Nat → Int32) : Nat → Int32 × (Nat → Int32) := itr (fun i a => (a.1 + (stepL a.2 n (L (3 * i)) (L (3 * i + 1)) (L (3 * i + 2))).1, (stepL a.2 n (L (3 * i)) (L (3 * i + 1)) (L (3 * i + 2))).2)) (0, g)
theorem ordG_s (L : Nat → Int64) (n : Nat) (g : Nat → Int32) (i : Nat) : ordG L n g (i + 1) = ((ordG L n g i).1 + (stepL (ordG L n g i).2 n (L (3 * i)) (L (3 * i + 1)) (L (3 * i + 2))).1, (stepL (ordG L n g i).2 n (L (3 * i)) (L (3 * i + 1)) (L (3 * i + 2))).2) := itr_s (fun i a => (a.1 + (stepL a.2 n (L (3 * i)) (L (3 * i + 1)) (L (3 * i + 2))).1, (stepL a.2 n (L (3 * i)) (L (3 * i + 1)) (L (3 * i + 2))).2)) (0, g) i
theorem stepL_01 (g : Nat → Int32) (n : Nat) (x y r : Int64) : (stepL g n x y r).1 = 0 ∨ (stepL g n x y r).1 = 1 := by
  unfold stepL
  cases isI x <;> cases isI y <;> cases isI r
  all_goals first | exact Or.inl rfl | exact step_01 _ _ _ _ _
theorem okG_stepL {n : Nat} {g : Nat → Int32} (h : okG n g) (x y r : Int64) : okG n (stepL g n x y r).2 := by
  unfold stepL
  cases isI x <;> cases isI y <;> cases isI r
  all_goals first | exact h | exact okG_step h _ _ _
theorem okG_ord {n : Nat} {g : Nat → Int32} (h : okG n g) (L : Nat → Int64) : ∀ i, okG n (ordG L n g i).2
  | 0 => h
  | i + 1 => by rw [ordG_s]; exact okG_stepL (okG_ord h L i) _ _ _
theorem C_ord (s : Mem) {n k m : Nat} (g : Nat → Int32) {m0 : Mem} (hk : k < 4) (hm : m ≤ 40) (hl : s.1 17 k = nI m) (h : linked s n (0, g) m0) : ∃ b, lp (fun a => bX6_orders_42 a.2.2 (nI k) a.1 a.2.1) 600 ((0 : Int32), (0 : Int32), m0) = some b ∧ (b.1 = (ordG (fun i => s.2 15 (40 * k + i)) n g (m / 3)).1 ∧ linked s n (ordG (fun i => s.2 15 (40 * k + i)) n g (m / 3)) b.2) := by
  have e40 : ∀ i, (40 : Int32) * nI k + nI i = nI (40 * k + i) := fun i => by rw [show (40 : Int32) = nI 40 from rfl, pk_mul, nI_add]
  refine lp_inv (α := Int32 × Int32 × Mem) (β := Int32 × Mem) (fun i w => w.1 = (ordG (fun i => s.2 15 (40 * k + i)) n g i).1 ∧ w.2.1 = nI (3 * i) ∧ linked s n (ordG (fun i => s.2 15 (40 * k + i)) n g i) w.2.2) (fun b => b.1 = (ordG (fun i => s.2 15 (40 * k + i)) n g (m / 3)).1 ∧ linked s n (ordG (fun i => s.2 15 (40 * k + i)) n g (m / 3)) b.2) (m / 3) ?_ ?_ (by omega) ⟨rfl, rfl, h⟩
  · rintro i ⟨v, z, m'⟩ hi ⟨h1, h2, f', h3, h4, h5⟩
    simp only at h1 h2 h3
    subst h1 h2 h3
    left
    show ∃ a', bX6_orders_42 (upR s 2 f') (nI k) (ordG (fun i => s.2 15 (40 * k + i)) n g i).1 (nI (3 * i)) = some (.inr a') ∧ _
    obtain ⟨f2, k1, k2, k3⟩ := C_carried (upR s 2 f') (g := (ordG (fun i => s.2 15 (40 * k + i)) n g i).2) (n := n) (s.2 15 (40 * k + 3 * i)) (s.2 15 (40 * k + (3 * i + 1))) (s.2 15 (40 * k + (3 * i + 2))) (by rw [upR_s]; exact h4) (by rw [upR_s]; exact h5)
    unfold bX6_orders_42 fX4_length fX4_at
    rw [nI_p1, nI_p2, e40, e40, e40, gd_in hk (by omega), Option.bind_some, nI_clamp (by omega), upR_n (show 17 ≠ 2 by omega), hl, if_neg (by rw [nI_leI (by omega) (by omega)]; omega), gd_in (by omega) (by omega), gd_in (by omega) (by omega), gd_in (by omega) (by omega), Option.bind_some, Option.bind_some, Option.bind_some, nI_clamp (by omega), nI_clamp (by omega), nI_clamp (by omega), upR_2, k1, Option.bind_some]
    simp only [lt, nI_p3]
    refine ⟨_, rfl, ?_, by rw [show 3 * i + 3 = 3 * (i + 1) by omega], f2, by rw [upR_R], ?_, ?_⟩
    · rw [ordG_s]
    · rw [ordG_s]; exact k2
    · rw [ordG_s]; exact k3
  · rintro ⟨v, z, m'⟩ ⟨h1, h2, f', h3, h4, h5⟩
    simp only at h1 h2 h3
    subst h1 h2 h3
    refine ⟨((ordG (fun i => s.2 15 (40 * k + i)) n g (m / 3)).1, upR s 2 f'), ?_, rfl, f', rfl, h4, h5⟩
    show bX6_orders_42 (upR s 2 f') (nI k) (ordG (fun i => s.2 15 (40 * k + i)) n g (m / 3)).1 (nI (3 * (m / 3))) = _
    unfold bX6_orders_42 fX4_length
    rw [nI_p2, gd_in hk (by omega), Option.bind_some, nI_clamp (by omega), upR_n (show 17 ≠ 2 by omega), hl, if_pos (nI_le (by omega) (by omega))]
theorem M_ord (s : Mem) {n k m : Nat} (g : Nat → Int32) (L : Nat → Int64) (hk : k < 4) (hm : m ≤ 40) (hl : s.1 30 k = nI m) (hL : ∀ i, i < 40 → s.2 (33 + k) i = L i) (h : okG n g) : lp (fun a => bX7_orders_36 a.2.2 (nI k) a.1 a.2.1) 600 ((0 : Int32), (0 : Int32), upR s 20 g) = some ((ordG L n g (m / 3)).1, upR s 20 (ordG L n g (m / 3)).2) := by
  have hs : ∀ i, i < m / 3 → bX7_orders_36 (upR s 20 (ordG L n g i).2) (nI k) (ordG L n g i).1 (nI (3 * i)) = some (.inr ((ordG L n g (i + 1)).1, nI (3 * (i + 1)), upR s 20 (ordG L n g (i + 1)).2)) := by
    intro i hi
    have hkk := okG_ord h L i
    rw [ordG_s]
    generalize ordG L n g i = w at *
    unfold bX7_orders_36 gX7_orders_127
    simp only [lt, nI_p1, nI_p2, nI_p3, nI_clamp (show k < 2 ^ 31 by omega), nI_clamp (show 3 * i < 2 ^ 31 by omega), nI_clamp (show 3 * i + 1 < 2 ^ 31 by omega), nI_clamp (show 3 * i + 2 < 2 ^ 31 by omega)]
    rw [gd_in hk (by omega), upR_n (show 30 ≠ 20 by omega), hl, if_neg (by rw [nI_leI (by omega) (by omega)]; omega), gd_in hk (by omega), gd_in (by omega) (by omega), gd_in hk (by omega), gd_in (by omega) (by omega), gd_in hk (by omega), gd_in (by omega) (by omega), upR_2, hL _ (by omega), hL _ (by omega), hL _ (by omega), M_isInt, M_isInt, M_isInt, Option.bind_some, bi_n0, Option.bind_some, bi_n0, Option.bind_some, bi_n0, M_pick1 s hkk, Option.bind_some, show 3 * i + 3 = 3 * (i + 1) by omega]
    unfold stepL
    cases isI (L (3 * i))
    · simp only [Bool.false_eq_true, if_false]
    cases isI (L (3 * i + 1))
    · simp only [Bool.false_eq_true, if_false, if_true]
    cases isI (L (3 * i + 2))
    · simp only [Bool.false_eq_true, if_false, if_true]
    simp only [if_true]
    rcases step_01 w.2 n (L (3 * i)).toInt32 (L (3 * i + 1)).toInt32 (L (3 * i + 2)).toInt32 with z | z
    · rw [z, if_pos rfl]
    · rw [z, if_neg (by decide)]
  have he : bX7_orders_36 (upR s 20 (ordG L n g (m / 3)).2) (nI k) (ordG L n g (m / 3)).1 (nI (3 * (m / 3))) = some (.inl ((ordG L n g (m / 3)).1, upR s 20 (ordG L n g (m / 3)).2)) := by
    unfold bX7_orders_36
    rw [nI_p2, gd_in hk (by omega), nI_clamp (by omega), upR_n (show 30 ≠ 20 by omega), hl, if_pos (nI_le (by omega) (by omega))]
  exact lp_at (body := fun a => bX7_orders_36 a.2.2 (nI k) a.1 a.2.1) (a := ((0 : Int32), (0 : Int32), upR s 20 g)) (k := 600) (fun i => ((ordG L n g i).1, nI (3 * i), upR s 20 (ordG L n g i).2)) (m / 3) rfl hs he (by omega)
theorem C_isOne (s : Mem) (x : Int32) : fX4_isOne s x = some (bi (inR x 0 3)) := by
  unfold fX4_isOne inR
  have k1 : (x < 0) ↔ x.toInt < 0 := i32_lt
  have k2 : ((4 : Int32) ≤ x) ↔ (4 : Int) ≤ x.toInt := i32_le
  simp only [k1, k2]
  by_cases h1 : x.toInt < 0
  · rw [if_pos h1, decide_eq_false (by omega)]; rfl
  · rw [if_neg h1]
    by_cases h2 : (4 : Int) ≤ x.toInt
    · rw [if_pos h2, decide_eq_false (by omega)]; rfl
    · rw [if_neg h2, decide_eq_true (by omega)]; rfl
theorem call_orders {s : Mem} (hR : Rel s) (x : Int32) : OK2 (fX6_orders s x) (fun s1 => fX7_orders s1 x) := by
  obtain ⟨hS, n, hP⟩ := hR.1
  have hn := hP.1
  cases e : inR x 0 3
  · refine fnd hR 0 (by omega) _ ?_ (fun s1 h1 _ => ?_)
    · unfold fX6_orders; rw [C_isOne, e]; rfl
    · show fX7_orders s1 x = _
      unfold fX7_orders; rw [M_isSheet, e]; rfl
  · obtain ⟨k, hk, rfl⟩ := inR_ex (h := 3) (by omega) e
    obtain ⟨r1, r2, r3, ⟨m, hm, r4⟩, r5⟩ := hR.2.2.2.2.2 k (by omega)
    by_cases q : (0 : Int32) ≤ s.1 29 k
    · obtain ⟨s1, b1, b2, b3, b4, b5, b6, b7⟩ := C_beg hR
      have l2 : s1.2 = s.2 := b6.2.2.1
      obtain ⟨b, k1, k2, f', k3, k4, k5⟩ := C_ord s1 (n := n) (k := k) (m := m) (s.1 20) (m0 := s1) (by omega) hm (by rw [b7 17 (by omega) (by omega), r2, r4]) ⟨s.1 2, by rw [← b3, upR_id], hS, hP⟩
      rw [l2] at k2 k4 k5
      refine ok_chg hR (a := (ordG (fun i => s.2 15 (40 * k + i)) n (s.1 20) (m / 3)).1) (s1 := upR s1 2 f') ?_ (b2 _) ⟨k4, n, k5⟩ (fun s2 k6 k7 => ?_)
      · unfold fX6_orders fX4_isMissing
        rw [C_isOne, e, Option.bind_some, bi_n0, if_pos rfl, gd_in (by omega) (by omega), nI_clamp (by omega), r1, if_pos q, Option.bind_some, if_pos rfl, b1, Option.bind_some, k1, Option.bind_some, k2, k3]
      · have e20 : (upR s1 2 f').1 20 = s.1 20 := by rw [upR_1, if_neg (by omega), b4]
        show fX7_orders (upR s1 2 f') (nI k) = _
        unfold fX7_orders
        rw [M_isSheet, e, Option.bind_some, bi_n0, if_pos rfl, gd_in (by omega) (by omega), nI_clamp (by omega)]
        have e29 : (upR s1 2 f').1 29 = s.1 29 := by rw [upR_1, if_neg (by omega), b7 29 (by omega) (by omega)]
        rw [e29, if_pos q, M_aside, Option.bind_some, aside_id, e20]
        have hm2 := M_ord (upR (upR s1 2 f') 23 (va_cpy (s.1 20) ((upR s1 2 f').1 23) 0 0 139)) (n := n) (k := k) (m := m) (s.1 20) (fun i => s.2 15 (40 * k + i)) (by omega) hm (by rw [upR_1, if_neg (by omega), upR_1, if_neg (by omega), b7 30 (by omega) (by omega), r4]) (fun i hi => by rw [upR_2, upR_2, l2]; exact (r5 i hi).symm) ⟨s.1 2, hS, hP⟩
        rw [e20] at k6
        rw [hm2, Option.bind_some]
        simp only
        rw [k6]
        rfl
    · refine fnd hR 5 (by omega) _ ?_ (fun s1 h1 _ => ?_)
      · unfold fX6_orders fX4_isMissing; rw [C_isOne, e, Option.bind_some, bi_n0, if_pos rfl, gd_in (by omega) (by omega), nI_clamp (by omega), r1, if_neg q]; rfl
      · show fX7_orders s1 (nI k) = _
        unfold fX7_orders; rw [M_isSheet, e, Option.bind_some, bi_n0, if_pos rfl, gd_in (by omega) (by omega), nI_clamp (by omega), h1 29 (by omega), if_neg q]; rfl
