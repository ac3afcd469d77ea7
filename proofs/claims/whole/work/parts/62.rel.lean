/-! the relation of the two memories -/
theorem lp_inv {α β : Type} {body : α → Option (β ⊕ α)} (I : Nat → α → Prop) (Q : β → Prop) (n : Nat) (hs : ∀ i a, i < n → I i a → (∃ a', body a = some (.inr a') ∧ I (i + 1) a') ∨ (∃ b, body a = some (.inl b) ∧ Q b)) (he : ∀ a, I n a → ∃ b, body a = some (.inl b) ∧ Q b) {k : Nat} (hk : n < k) {a : α} (h0 : I 0 a) : ∃ b, lp body k a = some b ∧ Q b := by
  have key : ∀ (m i k : Nat) (a : α), i + m = n → m < k → I i a → ∃ b, lp body k a = some b ∧ Q b := by
    intro m
    induction m with
    | zero =>
      intro i k a hi hk h
      obtain ⟨k', rfl⟩ : ∃ k', k = k' + 1 := ⟨k - 1, by omega⟩
      obtain rfl : i = n := by omega
      obtain ⟨b, h1, h2⟩ := he a h
      exact ⟨b, lp_l h1, h2⟩
    | succ m ih =>
      intro i k a hi hk h
      obtain ⟨k', rfl⟩ : ∃ k', k = k' + 1 := ⟨k - 1, by omega⟩
      rcases hs i a (by omega) h with ⟨a', h1, h2⟩ | ⟨b, h1, h2⟩
      · obtain ⟨b, h3, h4⟩ := ih (i + 1) k' a' (by omega) (by omega) h2
        exact ⟨b, (lp_r h1).trans h3, h4⟩
      · exact ⟨b, lp_l h1, h2⟩
  exact key n 0 k a (by omega) hk h0
theorem up2_R (σ : Mem) (k i : Nat) (x : Int32) : up2 σ k i x = upR σ k (upd (σ.1 k) i x) := rfl
theorem upR_R (σ : Mem) (k : Nat) (f f' : Nat → Int32) : upR (upR σ k f) k f' = upR σ k f' := by
  unfold upR
  refine Prod.ext (funext fun a => ?_) rfl
  show (if a = k then f' else if a = k then f else σ.1 a) = if a = k then f' else σ.1 a
  by_cases h : a = k
  · rw [if_pos h, if_pos h]
  · rw [if_neg h, if_neg h, if_neg h]
theorem upR_id (σ : Mem) (k : Nat) : upR σ k (σ.1 k) = σ := by
  unfold upR
  refine Prod.ext (funext fun a => ?_) rfl
  show (if a = k then σ.1 k else σ.1 a) = σ.1 a
  by_cases h : a = k
  · rw [if_pos h, h]
  · rw [if_neg h]
theorem upR_1 (σ : Mem) (k : Nat) (f : Nat → Int32) (a : Nat) : (upR σ k f).1 a = if a = k then f else σ.1 a := rfl
theorem upR_2 (σ : Mem) (k : Nat) (f : Nat → Int32) : (upR σ k f).2 = σ.2 := rfl
theorem up2_1 (σ : Mem) (k i : Nat) (x : Int32) (a : Nat) : (up2 σ k i x).1 a = if a = k then upd (σ.1 k) i x else σ.1 a := rfl
theorem up2_2 (σ : Mem) (k i : Nat) (x : Int32) : (up2 σ k i x).2 = σ.2 := rfl
/-- within -/
def inR (x : Int32) (l h : Int) : Bool := decide (l ≤ x.toInt ∧ x.toInt ≤ h)
theorem wi_in (x : Int32) {lo hi : Int64} (l h : Int) (hl : lo.toInt = l) (hh : hi.toInt = h) : fX6_within x.toInt64 lo hi = some (bi (inR x l h)) := by
  unfold fX6_within inR
  simp only [lg_cmp_lt, lg_cmp_gt, Int64.lt_iff_toInt_lt, Int32.toInt_toInt64, hl, hh]
  by_cases h1 : x.toInt < l
  · rw [if_pos h1, decide_eq_false (by omega)]; rfl
  · rw [if_neg h1]
    by_cases h2 : h < x.toInt
    · rw [if_pos h2, decide_eq_false (by omega)]; rfl
    · rw [if_neg h2, decide_eq_true (by omega)]; rfl
theorem mi_in (x : Int32) {lo hi : Int64} (l h : Int) (hl : lo.toInt = l) (hh : hi.toInt = h) : fX7_in x.toInt64 lo hi = some (bi (inR x l h)) := wi_in x l h hl hh
theorem inR_ex {x : Int32} {h : Nat} (hh : h < 2 ^ 31) (e : inR x 0 (h : Int) = true) : ∃ k : Nat, k ≤ h ∧ x = nI k := by
  have := of_decide_eq_true e
  refine ⟨x.toInt.toNat, by omega, ?_⟩
  apply Int32.toInt_inj.mp
  rw [nI_toInt (by omega)]
  omega
theorem inR_nI {k : Nat} {l h : Int} (hk : k < 2 ^ 31) (h1 : l ≤ k) (h2 : (k : Int) ≤ h) : inR (nI k) l h = true := by
  unfold inR
  rw [nI_toInt hk]
  exact decide_eq_true ⟨h1, h2⟩
theorem C_isCourse (x : Int32) : fX6_isCourse x = some (bi (inR x 0 3)) := by
  unfold fX6_isCourse
  rw [wi_in x 0 3 (by decide) (by decide), Option.bind_some, gz_bi]
theorem M_isCourse (x : Int32) : fX7_isCourse x = some (bi (inR x 0 3)) := C_isCourse x
theorem C_isKind (x : Int32) : fX6_isKind x = some (bi (inR x 0 5)) := by
  unfold fX6_isKind
  rw [wi_in x 0 5 (by decide) (by decide), Option.bind_some, gz_bi]
theorem M_isKind (x : Int32) : fX7_isKind x = some (bi (inR x 0 5)) := C_isKind x
theorem C_isHours (x : Int32) : fX6_isHours x = some (bi (inR x 0 1048575)) := by
  unfold fX6_isHours
  rw [wi_in x 0 1048575 (by decide) (by decide), Option.bind_some, gz_bi]
theorem M_areHours (x : Int32) : fX7_areHours x = some (bi (inR x 0 1048575)) := C_isHours x
theorem M_isSheet (x : Int32) : fX7_isSheet x = some (bi (inR x 0 3)) := C_isCourse x
def isSec (c so w : Int32) : Bool := inR c 0 3 && (inR so 0 2 && inR w 0 1)
theorem C_isSection (c so w : Int32) : fX6_isSection c so w = some (bi (isSec c so w)) := by
  unfold fX6_isSection isSec
  rw [C_isCourse, Option.bind_some, wi_in so 0 2 (by decide) (by decide), wi_in w 0 1 (by decide) (by decide), Option.bind_some, Option.bind_some]
  cases inR c 0 3 <;> cases inR so 0 2 <;> cases inR w 0 1 <;> rfl
theorem M_isSection (c so w : Int32) : fX7_isSection c so w = some (bi (isSec c so w)) := C_isSection c so w
theorem isSec_ex {c so w : Int32} (h : isSec c so w = true) : ∃ a b d : Nat, a < 4 ∧ b < 3 ∧ d < 2 ∧ c = nI a ∧ so = nI b ∧ w = nI d := by
  unfold isSec at h
  obtain ⟨h1, h2⟩ := Bool.and_eq_true_iff.mp h
  obtain ⟨h2, h3⟩ := Bool.and_eq_true_iff.mp h2
  obtain ⟨a, ha, rfl⟩ := inR_ex (h := 3) (by omega) h1
  obtain ⟨b, hb, rfl⟩ := inR_ex (h := 2) (by omega) h2
  obtain ⟨d, hd, rfl⟩ := inR_ex (h := 1) (by omega) h3
  exact ⟨a, b, d, by omega, by omega, by omega, rfl, rfl, rfl⟩
/-- the two books -/
def secOK (f g : Nat → Int32) : Prop := ∀ c, c < 4 → ∀ so, so < 3 → ∀ w, w < 2 → (g (24 * c + 8 * so + 4 * w) = 0 ∨ g (24 * c + 8 * so + 4 * w) = 1) ∧ hr (g (24 * c + 8 * so + 4 * w + 1)) ∧ (∃ k, k ≤ 9 ∧ g (24 * c + 8 * so + 4 * w + 2) = nI k) ∧ (∃ k, k ≤ 9 ∧ f (24 * c + 8 * so + 4 * w + 2) = nI k)
def SG (f g : Nat → Int32) : Prop := SR f g ∧ (∀ c, c < 4 → ∀ t, t < 8 → f (139 + 8 * c + t) = hrsG g c t) ∧ secOK f g
def okL (g : Nat → Int32) (c : Nat) (x : Int32) : Prop := x = -1 ∨ ∃ t, t < 8 ∧ x = nI t ∧ lawG g c t = true
def pupOK (g : Nat → Int32) (p : Nat) : Prop := (∃ k, k < 6 ∧ g (97 + 7 * p) = nI k) ∧ hr (g (98 + 7 * p)) ∧ (∃ w, w < 16 ∧ g (99 + 7 * p) = nI w) ∧ ∀ c, c < 4 → okL g c (g (100 + 7 * p + c))
def PG (f g : Nat → Int32) (n : Nat) : Prop := n ≤ 6 ∧ g 96 = nI n ∧ f 138 = nI n ∧ (∀ p, p < n → ∀ j, j < 7 → f (96 + 7 * p + j) = g (97 + 7 * p + j)) ∧ (∀ p, p < n → pupOK g p)
def Gd (f g : Nat → Int32) : Prop := SG f g ∧ ∃ n, PG f g n
theorem Gd_BR {f g : Nat → Int32} {n : Nat} (h1 : SG f g) (h2 : PG f g n) : BR f g n := ⟨h1.1, h2.1, h2.2.1, h2.2.2.1, h2.2.2.2.1, h1.2.1⟩
theorem okL_T {g : Nat → Int32} {c : Nat} {x : Int32} (h : okL g c x) : okT x := by
  rcases h with h | ⟨t, ht, h, -⟩
  · exact Or.inl h
  · exact Or.inr ⟨t, ht, h⟩
theorem PG_okP {f g : Nat → Int32} {n : Nat} (h : PG f g n) : okP g n := fun p hp c hc => okL_T ((h.2.2.2.2 p hp).2.2.2 c hc)
theorem PG_snd {f g : Nat → Int32} {n : Nat} (h : PG f g n) : sndA g n := by
  intro c hc p hp t ht
  have h4 := (h.2.2.2.2 p hp).2.2.2 c hc
  rcases trp_ok (okL_T h4) with ⟨h1, -, -⟩ | ⟨t', ht', h1, -, h3⟩
  · rw [h1] at ht; cases ht
  · rw [h1] at ht
    obtain rfl := Option.some.inj ht
    rcases h4 with q | ⟨t2, ht2, q, hl⟩
    · rw [q] at h3
      have : ∀ t, t < 8 → ¬ (-1 : Int32) = nI t := by decide +kernel
      exact absurd h3 (this _ ht')
    · rw [q, nI_eq (by omega) (by omega)] at h3
      rw [← h3]; exact hl
theorem PG_okM {f g : Nat → Int32} {n : Nat} (h : PG f g n) : okM g n := ⟨h.1, h.2.1, PG_okP h⟩
theorem SG_tm {f g : Nat → Int32} (h : SG f g) {c t so : Nat} (hc : c < 4) (ht : t < 8) (hs : so < 3) : hr (tmG g c t so) := by
  unfold tmG
  split
  · exact (h.2.2 c hc so hs _ (prt_lt t ht so hs)).2.1
  · exact hr_0
theorem SG_hr {f g : Nat → Int32} (h : SG f g) {c t : Nat} (hc : c < 4) (ht : t < 8) : hr (timeG g c t) := hr_or (hr_or (SG_tm h hc ht (by omega)) (SG_tm h hc ht (by omega))) (SG_tm h hc ht (by omega))
theorem SG_hrOK {f g : Nat → Int32} (h : SG f g) : hrOK g := fun c hc t ht => hr_pos (SG_hr h hc ht)
theorem busy_hr {f g : Nat → Int32} {n p : Nat} (h : SG f g) (h2 : PG f g n) (hp : p < n) (b : Int32) : ∀ i, i ≤ 4 → hr (busyG g p b i)
  | 0, _ => hr_0
  | i + 1, hi => by
    have ih := busy_hr h h2 hp b i (by omega)
    have e : busyG g p b (i + 1) = if nI i = b then busyG g p b i else match trp g p i with | none => busyG g p b i | some t => busyG g p b i ||| timeG g i t := rfl
    rw [e]
    by_cases q : nI i = b
    · rw [if_pos q]; exact ih
    · rw [if_neg q]
      rcases trp_ok (PG_okP h2 p hp i (by omega)) with ⟨h1, -, -⟩ | ⟨t', ht', h1, -, h3⟩
      · rw [h1]; exact ih
      · rw [h1]; exact hr_or ih (SG_hr h (by omega) ht')
/-! what depends on what -/
theorem opn_cg {g g' : Nat → Int32} (h : ∀ j, j < 96 → g' j = g j) {c so w : Nat} (hc : c < 4) (hs : so < 3) (hw : w < 2) : opn g' c so w = opn g c so w := by
  unfold opn; rw [h _ (by omega)]
theorem any_cg {g g' : Nat → Int32} (h : ∀ j, j < 96 → g' j = g j) {c so : Nat} (hc : c < 4) (hs : so < 3) : anyO g' c so = anyO g c so := by
  unfold anyO; rw [opn_cg h hc hs (by omega), opn_cg h hc hs (by omega)]
theorem tm_cg {g g' : Nat → Int32} (h : ∀ j, j < 96 → g' j = g j) {c t so : Nat} (hc : c < 4) (ht : t < 8) (hs : so < 3) : tmG g' c t so = tmG g c t so := by
  have := prt_lt t ht so hs
  unfold tmG; rw [opn_cg h hc hs this, h _ (by omega)]
theorem time_cg {g g' : Nat → Int32} (h : ∀ j, j < 96 → g' j = g j) {c t : Nat} (hc : c < 4) (ht : t < 8) : timeG g' c t = timeG g c t := by
  unfold timeG; rw [tm_cg h hc ht (by omega), tm_cg h hc ht (by omega), tm_cg h hc ht (by omega)]
theorem goes_cg {g g' : Nat → Int32} (h : ∀ j, j < 96 → g' j = g j) {c t so : Nat} (hc : c < 4) (ht : t < 8) (hs : so < 3) : goesG g' c t so = goesG g c t so := by
  have := prt_lt t ht so hs
  unfold goesG lnk; rw [any_cg h hc hs, opn_cg h hc hs this, h _ (by omega)]
theorem law_cg {g g' : Nat → Int32} (h : ∀ j, j < 96 → g' j = g j) {c t : Nat} (hc : c < 4) (ht : t < 8) : lawG g' c t = lawG g c t := by
  unfold lawG; rw [goes_cg h hc ht (by omega), goes_cg h hc ht (by omega), goes_cg h hc ht (by omega), tm_cg h hc ht (by omega), tm_cg h hc ht (by omega), tm_cg h hc ht (by omega)]
theorem hrs_cg {g g' : Nat → Int32} (h : ∀ j, j < 96 → g' j = g j) {c t : Nat} (hc : c < 4) (ht : t < 8) : hrsG g' c t = hrsG g c t := by
  unfold hrsG; rw [law_cg h hc ht, time_cg h hc ht]
theorem SG_cg {f g f' g' : Nat → Int32} (h : SG f g) (hf : ∀ j, j < 96 → f' j = f j) (hg : ∀ j, j < 96 → g' j = g j) (hh : ∀ j, 139 ≤ j → j < 171 → f' j = f j) : SG f' g' := by
  refine ⟨?_, ?_, ?_⟩
  · intro c hc so hs w hw
    have := h.1 c hc so hs w hw
    rw [hf _ (by omega), hf _ (by omega), hf _ (by omega), hf _ (by omega), hg _ (by omega), hg _ (by omega), hg _ (by omega), hg _ (by omega)]
    exact this
  · intro c hc t ht
    rw [hh _ (by omega) (by omega), h.2.1 c hc t ht, hrs_cg hg hc ht]
  · intro c hc so hs w hw
    have := h.2.2 c hc so hs w hw
    rw [hf _ (by omega), hg _ (by omega), hg _ (by omega), hg _ (by omega)]
    exact this
theorem pupOK_cg {g g' : Nat → Int32} {p : Nat} (h : pupOK g p) (hp : p < 6) (hg : ∀ j, j < 96 → g' j = g j) (he : ∀ j, j < 7 → g' (97 + 7 * p + j) = g (97 + 7 * p + j)) : pupOK g' p := by
  obtain ⟨h1, h2, h3, h4⟩ := h
  have e0 := he 0 (by omega)
  have e1 := he 1 (by omega)
  have e2 := he 2 (by omega)
  rw [show 97 + 7 * p + 0 = 97 + 7 * p by omega] at e0
  rw [show 97 + 7 * p + 1 = 98 + 7 * p by omega] at e1
  rw [show 97 + 7 * p + 2 = 99 + 7 * p by omega] at e2
  refine ⟨by rw [e0]; exact h1, by rw [e1]; exact h2, by rw [e2]; exact h3, fun c hc => ?_⟩
  have e3 := he (3 + c) (by omega)
  rw [show 97 + 7 * p + (3 + c) = 100 + 7 * p + c by omega] at e3
  rw [e3]
  rcases h4 c hc with q | ⟨t, ht, q, hl⟩
  · exact Or.inl q
  · exact Or.inr ⟨t, ht, q, by rw [law_cg hg hc ht]; exact hl⟩
theorem Gd_cg {f g f' g' : Nat → Int32} (h : Gd f g) (hf : ∀ j, j < 171 → f' j = f j) (hg : ∀ j, j < 139 → g' j = g j) : Gd f' g' := by
  obtain ⟨h1, n, h2, h3, h4, h5, h6⟩ := h
  refine ⟨SG_cg h1 (fun j hj => hf j (by omega)) (fun j hj => hg j (by omega)) (fun j _ hj => hf j hj), n, h2, by rw [hg _ (by omega)]; exact h3, by rw [hf _ (by omega)]; exact h4, fun p hp j hj => ?_, fun p hp => ?_⟩
  · rw [hf _ (by omega), hg _ (by omega)]; exact h5 p hp j hj
  · exact pupOK_cg (h6 p hp) (by omega) (fun j hj => hg j (by omega)) (fun j hj => hg _ (by omega))
/-- a pupil's triple of a course becomes another -/
theorem Gd_sits {f g : Nat → Int32} {n p c : Nat} {v : Int32} (h : SG f g) (h2 : PG f g n) (hp : p < n) (hc : c < 4) (hv : okL g c v) : SG (upd f (99 + 7 * p + c) v) (upd g (100 + 7 * p + c) v) ∧ PG (upd f (99 + 7 * p + c) v) (upd g (100 + 7 * p + c) v) n := by
  obtain ⟨q1, q2, q3, q4, q5⟩ := h2
  have hg : ∀ j, j < 96 → upd g (100 + 7 * p + c) v j = g j := fun j hj => pk_un (by omega)
  refine ⟨SG_cg h (fun j hj => pk_un (by omega)) hg (fun j hj _ => pk_un (by omega)), q1, by rw [pk_un (by omega)]; exact q2, by rw [pk_un (by omega)]; exact q3, fun p' hp' j hj => ?_, fun p' hp' => ?_⟩
  · by_cases e : p' = p ∧ j = 3 + c
    · obtain ⟨rfl, rfl⟩ := e
      rw [show 96 + 7 * p' + (3 + c) = 99 + 7 * p' + c by omega, show 97 + 7 * p' + (3 + c) = 100 + 7 * p' + c by omega, pk_us, pk_us]
    · rw [pk_un (by omega), pk_un (by omega)]; exact q4 p' hp' j hj
  · by_cases e : p' = p
    · subst e
      obtain ⟨w1, w2, w3, w4⟩ := q5 p' hp'
      refine ⟨by rw [pk_un (by omega)]; exact w1, by rw [pk_un (by omega)]; exact w2, by rw [pk_un (by omega)]; exact w3, fun c' hc' => ?_⟩
      by_cases e2 : c' = c
      · subst e2
        rw [pk_us]
        rcases hv with q | ⟨t, ht, q, hl⟩
        · exact Or.inl q
        · exact Or.inr ⟨t, ht, q, by rw [law_cg hg hc' ht]; exact hl⟩
      · rw [pk_un (by omega)]
        rcases w4 c' hc' with q | ⟨t, ht, q, hl⟩
        · exact Or.inl q
        · exact Or.inr ⟨t, ht, q, by rw [law_cg hg hc' ht]; exact hl⟩
    · exact pupOK_cg (q5 p' hp') (by omega) hg (fun j hj => pk_un (by omega))
