/-! sections opened -/
theorem opn_cc {g g' : Nat → Int32} {c : Nat} (h : ∀ j, 24 * c ≤ j → j < 24 * c + 24 → g' j = g j) {so w : Nat} (hs : so < 3) (hw : w < 2) : opn g' c so w = opn g c so w := by
  unfold opn; rw [h _ (by omega) (by omega)]
theorem any_cc {g g' : Nat → Int32} {c : Nat} (h : ∀ j, 24 * c ≤ j → j < 24 * c + 24 → g' j = g j) {so : Nat} (hs : so < 3) : anyO g' c so = anyO g c so := by
  unfold anyO; rw [opn_cc h hs (by omega), opn_cc h hs (by omega)]
theorem tm_cc {g g' : Nat → Int32} {c : Nat} (h : ∀ j, 24 * c ≤ j → j < 24 * c + 24 → g' j = g j) {t so : Nat} (ht : t < 8) (hs : so < 3) : tmG g' c t so = tmG g c t so := by
  have := prt_lt t ht so hs
  unfold tmG; rw [opn_cc h hs this, h _ (by omega) (by omega)]
theorem time_cc {g g' : Nat → Int32} {c : Nat} (h : ∀ j, 24 * c ≤ j → j < 24 * c + 24 → g' j = g j) {t : Nat} (ht : t < 8) : timeG g' c t = timeG g c t := by
  unfold timeG; rw [tm_cc h ht (by omega), tm_cc h ht (by omega), tm_cc h ht (by omega)]
theorem goes_cc {g g' : Nat → Int32} {c : Nat} (h : ∀ j, 24 * c ≤ j → j < 24 * c + 24 → g' j = g j) {t so : Nat} (ht : t < 8) (hs : so < 3) : goesG g' c t so = goesG g c t so := by
  have := prt_lt t ht so hs
  unfold goesG lnk; rw [any_cc h hs, opn_cc h hs this, h _ (by omega) (by omega)]
theorem law_cc {g g' : Nat → Int32} {c : Nat} (h : ∀ j, 24 * c ≤ j → j < 24 * c + 24 → g' j = g j) {t : Nat} (ht : t < 8) : lawG g' c t = lawG g c t := by
  unfold lawG; rw [goes_cc h ht (by omega), goes_cc h ht (by omega), goes_cc h ht (by omega), tm_cc h ht (by omega), tm_cc h ht (by omega), tm_cc h ht (by omega)]
theorem hrs_cc {g g' : Nat → Int32} {c : Nat} (h : ∀ j, 24 * c ≤ j → j < 24 * c + 24 → g' j = g j) {t : Nat} (ht : t < 8) : hrsG g' c t = hrsG g c t := by
  unfold hrsG; rw [law_cc h ht, time_cc h ht]
def opU (f : Nat → Int32) (k : Nat) (v0 v1 v2 v3 : Int32) : Nat → Int32 := upd (upd (upd (upd f k v0) (k + 1) v1) (k + 2) v2) (k + 3) v3
theorem opU_0 {f : Nat → Int32} {k : Nat} {v0 v1 v2 v3 : Int32} : opU f k v0 v1 v2 v3 k = v0 := by
  unfold opU; rw [pk_un (by omega), pk_un (by omega), pk_un (by omega), pk_us]
theorem opU_1 {f : Nat → Int32} {k : Nat} {v0 v1 v2 v3 : Int32} : opU f k v0 v1 v2 v3 (k + 1) = v1 := by
  unfold opU; rw [pk_un (by omega), pk_un (by omega), pk_us]
theorem opU_2 {f : Nat → Int32} {k : Nat} {v0 v1 v2 v3 : Int32} : opU f k v0 v1 v2 v3 (k + 2) = v2 := by
  unfold opU; rw [pk_un (by omega), pk_us]
theorem opU_3 {f : Nat → Int32} {k : Nat} {v0 v1 v2 v3 : Int32} : opU f k v0 v1 v2 v3 (k + 3) = v3 := by
  unfold opU; rw [pk_us]
theorem opU_o {f : Nat → Int32} {k j : Nat} {v0 v1 v2 v3 : Int32} (h : j < k ∨ k + 4 ≤ j) : opU f k v0 v1 v2 v3 j = f j := by
  unfold opU; rw [pk_un (by omega), pk_un (by omega), pk_un (by omega), pk_un (by omega)]
theorem opU_back (f : Nat → Int32) (k : Nat) (v0 v1 v2 v3 : Int32) : opU (opU f k v0 v1 v2 v3) k (f k) (f (k + 1)) (f (k + 2)) (f (k + 3)) = f := by
  funext j
  by_cases h0 : j = k
  · rw [h0, opU_0]
  · by_cases h1 : j = k + 1
    · rw [h1, opU_1]
    · by_cases h2 : j = k + 2
      · rw [h2, opU_2]
      · by_cases h3 : j = k + 3
        · rw [h3, opU_3]
        · rw [opU_o (by omega), opU_o (by omega)]
def finF (g : Nat → Int32) (c : Nat) (F : Nat → Int32) : Nat → (Nat → Int32) := itr (fun t F' => upd F' (139 + 8 * c + t) (hrsG g c t)) F
theorem finS_R (g : Nat → Int32) (c : Nat) (s : Mem) (F : Nat → Int32) : ∀ i, finS g c (upR s 2 F) i = upR s 2 (finF g c F i)
  | 0 => rfl
  | i + 1 => by
    have e : finS g c (upR s 2 F) (i + 1) = up2 (finS g c (upR s 2 F) i) 2 (139 + 8 * c + i) (hrsG g c i) := rfl
    rw [e, finS_R g c s F i, up2_R, upR_s, upR_R]
    rfl
theorem finF_get (g : Nat → Int32) (c : Nat) (F : Nat → Int32) : ∀ i j, finF g c F i j = if 139 + 8 * c ≤ j ∧ j < 139 + 8 * c + i then hrsG g c (j - (139 + 8 * c)) else F j
  | 0, j => by rw [if_neg (by omega)]; rfl
  | i + 1, j => by
    have e : finF g c F (i + 1) = upd (finF g c F i) (139 + 8 * c + i) (hrsG g c i) := rfl
    rw [e]
    by_cases h : j = 139 + 8 * c + i
    · rw [h, pk_us, if_pos (by omega), Nat.add_sub_cancel_left]
    · rw [pk_un h, finF_get g c F i j]
      by_cases h2 : 139 + 8 * c ≤ j ∧ j < 139 + 8 * c + i
      · rw [if_pos h2, if_pos (by omega)]
      · rw [if_neg h2, if_neg (by omega)]
/-- a section's cells changed on both sides: what stays -/
theorem SR_op {f g : Nat → Int32} {a b d : Nat} (v0 v1 v2 v3 : Int32) (hS : SR f g) (ha : a < 4) (hb : b < 3) (hd : d < 2) (hl : v0 = 1 → (v3 = -1 ∨ v3 = 0 ∨ v3 = 1)) : SR (opU f (24 * a + 8 * b + 4 * d) v0 v1 v2 v3) (opU g (24 * a + 8 * b + 4 * d) v0 v1 v2 v3) := by
  intro c hc so hs w hw
  by_cases e : c = a ∧ so = b ∧ w = d
  · obtain ⟨rfl, rfl, rfl⟩ := e
    rw [opU_0, opU_0, opU_1, opU_1, opU_2, opU_2, opU_3, opU_3]
    exact ⟨rfl, fun q => ⟨⟨rfl, rfl, rfl⟩, hl q⟩⟩
  · rw [opU_o (by omega), opU_o (by omega), opU_o (by omega), opU_o (by omega), opU_o (by omega), opU_o (by omega), opU_o (by omega), opU_o (by omega)]
    exact hS c hc so hs w hw
/-- everything but whether those put to course a can stay -/
def PW (f g : Nat → Int32) (n a : Nat) : Prop := n ≤ 6 ∧ g 96 = nI n ∧ f 138 = nI n ∧ (∀ p, p < n → ∀ j, j < 7 → f (96 + 7 * p + j) = g (97 + 7 * p + j)) ∧ ∀ p, p < n → (∃ k, k < 6 ∧ g (97 + 7 * p) = nI k) ∧ hr (g (98 + 7 * p)) ∧ (∃ w, w < 16 ∧ g (99 + 7 * p) = nI w) ∧ (∀ c, c < 4 → c ≠ a → okL g c (g (100 + 7 * p + c))) ∧ okT (g (100 + 7 * p + a))
theorem PW_okP {f g : Nat → Int32} {n a : Nat} (h : PW f g n a) : okP g n := by
  intro p hp c hc
  by_cases e : c = a
  · rw [e]; exact (h.2.2.2.2 p hp).2.2.2.2
  · exact okL_T ((h.2.2.2.2 p hp).2.2.2.1 c hc e)
theorem PW_okM {f g : Nat → Int32} {n a : Nat} (h : PW f g n a) : okM g n := ⟨h.1, h.2.1, PW_okP h⟩
theorem PW_snd {f g : Nat → Int32} {n a : Nat} (h : PW f g n a) {c p t : Nat} (hc : c < 4) (hne : c ≠ a) (hp : p < n) (ht : trp g p c = some t) : lawG g c t = true := by
  have h4 := (h.2.2.2.2 p hp).2.2.2.1 c hc hne
  rcases trp_ok (okL_T h4) with ⟨h1, -, -⟩ | ⟨t', ht', h1, -, h3⟩
  · rw [h1] at ht; cases ht
  · rw [h1] at ht
    obtain rfl := Option.some.inj ht
    rcases h4 with q | ⟨t2, ht2, q, hl⟩
    · rw [q] at h3
      have : ∀ t, t < 8 → ¬ (-1 : Int32) = nI t := by decide +kernel
      exact absurd h3 (this _ ht')
    · rw [q, nI_eq (by omega) (by omega)] at h3
      rw [← h3]; exact hl
theorem PW_PG {f g : Nat → Int32} {n a : Nat} (h : PW f g n a) (ha : a < 4) (hw : ∀ p, p < n → ∀ t, trp g p a = some t → lawG g a t = true) : PG f g n := by
  refine ⟨h.1, h.2.1, h.2.2.1, h.2.2.2.1, fun p hp => ?_⟩
  obtain ⟨w1, w2, w3, w4, w5⟩ := h.2.2.2.2 p hp
  refine ⟨w1, w2, w3, fun c hc => ?_⟩
  by_cases e : c = a
  · subst e
    rcases trp_ok w5 with ⟨-, -, h1⟩ | ⟨t, ht, h1, -, h3⟩
    · exact Or.inl h1
    · exact Or.inr ⟨t, ht, h3, hw p hp t h1⟩
  · exact w4 c hc e
/-- after a section of course a has changed: the class's row found anew -/
def newF (f g1 : Nat → Int32) (a : Nat) : Nat → Int32 := finF g1 a f 8
theorem op_all {f1 f g g1 : Nat → Int32} {n a : Nat} (hS : SG f g) (hP : PG f g n) (ha : a < 4) (h1 : SR f1 g1) (h2 : secOK f1 g1) (hf : ∀ j, 96 ≤ j → f1 j = f j) (hg : ∀ j, j < 24 * a ∨ 24 * a + 24 ≤ j → g1 j = g j) : SG (newF f1 g1 a) g1 ∧ PW (newF f1 g1 a) g1 n a := by
  have low : ∀ j, j < 139 → newF f1 g1 a j = f1 j := fun j hj => by unfold newF; rw [finF_get, if_neg (by omega)]
  have oth : ∀ c, c < 4 → c ≠ a → ∀ j, 24 * c ≤ j → j < 24 * c + 24 → g1 j = g j := fun c hc hne j q1 q2 => hg j (by omega)
  refine ⟨⟨SR_low h1 (fun j hj => low j (by omega)), fun c hc t ht => ?_, fun c hc so hs w hw => ?_⟩, hP.1, ?_, ?_, fun p hp j hj => ?_, fun p hp => ?_⟩
  · unfold newF
    rw [finF_get]
    by_cases e : c = a
    · subst e
      rw [if_pos (by omega)]
      congr 1; omega
    · rw [if_neg (by omega), hf _ (by omega), hS.2.1 c hc t ht, hrs_cc (oth c hc e) ht]
  · rw [low _ (by omega)]; exact h2 c hc so hs w hw
  · rw [hg _ (by omega)]; exact hP.2.1
  · rw [low _ (by omega), hf _ (by omega)]; exact hP.2.2.1
  · have := hP.1
    rw [low _ (by omega), hf _ (by omega), hg _ (by omega)]; exact hP.2.2.2.1 p hp j hj
  · have := hP.1
    obtain ⟨w1, w2, w3, w4⟩ := hP.2.2.2.2 p hp
    rw [hg _ (by omega), hg _ (by omega), hg _ (by omega), hg _ (by omega)]
    refine ⟨w1, w2, w3, fun c hc hne => ?_, okL_T (w4 a ha)⟩
    rw [hg _ (by omega)]
    rcases w4 c hc with q | ⟨t, ht, q, hl⟩
    · exact Or.inl q
    · exact Or.inr ⟨t, ht, q, by rw [law_cc (oth c hc hne) ht]; exact hl⟩
/-- all that are put to a course can be so -/
def W1 (g : Nat → Int32) (n c : Nat) : Prop := ∀ p, p < n → ∀ t, trp g p c = some t → freG g p c t = true
def W2 (g : Nat → Int32) (n c : Nat) : Prop := ∀ so, so < 3 → ∀ w, w < 2 → opn g c so w = true → nI (takG g c so w (-1) n) ≤ capG g c so w
noncomputable def okO (g : Nat → Int32) (n c : Nat) : Bool := @decide (W1 g n c ∧ W2 g n c) (Classical.propDecidable _)
theorem okO_t {g : Nat → Int32} {n c : Nat} (h : W1 g n c ∧ W2 g n c) : okO g n c = true := @decide_eq_true _ (Classical.propDecidable _) h
theorem okO_f {g : Nat → Int32} {n c : Nat} (h : ¬ (W1 g n c ∧ W2 g n c)) : okO g n c = false := @decide_eq_false _ (Classical.propDecidable _) h
theorem okO_of {g : Nat → Int32} {n c : Nat} (h : okO g n c = true) : W1 g n c ∧ W2 g n c := @of_decide_eq_true _ (Classical.propDecidable _) h
theorem sit_T {g : Nat → Int32} {p c : Nat} (h : okT (g (100 + 7 * p + c))) : (trp g p c = none ∧ g (100 + 7 * p + c) < 0) ∨ ∃ t, t < 8 ∧ trp g p c = some t ∧ ¬ g (100 + 7 * p + c) < 0 ∧ g (100 + 7 * p + c) = nI t := by
  rcases trp_ok h with ⟨h1, h2, -⟩ | h2
  · exact Or.inl ⟨h1, h2⟩
  · exact Or.inr h2
theorem C_allWell (s : Mem) {g : Nat → Int32} {n a : Nat} (hS : SG (s.1 2) g) (hP : PW (s.1 2) g n a) (ha : a < 4) : ∃ b, lp (fun z => bX0_allSitWell_2 s (nI a) z) 600 (0 : Int32) = some b ∧ ((b = .inl 0 ∧ ¬ W1 g n a) ∨ (b = .inr () ∧ W1 g n a)) := by
  have hn := hP.1
  have hB : BR (s.1 2) g n := ⟨hS.1, hP.1, hP.2.1, hP.2.2.1, hP.2.2.2.1, hS.2.1⟩
  refine lp_inv (α := Int32) (β := Int32 ⊕ Unit) (fun i z => z = nI i ∧ ∀ p, p < i → ∀ t, trp g p a = some t → freG g p a t = true) (fun b => (b = .inl 0 ∧ ¬ W1 g n a) ∨ (b = .inr () ∧ W1 g n a)) n ?_ ?_ (by omega) ⟨rfl, fun p hp => by omega⟩
  · rintro i z hi ⟨rfl, h⟩
    have hsi := BR_sits hB hi ha
    unfold bX0_allSitWell_2
    rw [C_pupils, hP.2.2.1, Option.bind_some, if_neg (nI_cn hi hn), C_sits s (by omega) ha, Option.bind_some, hsi]
    simp only [lt, nI_p1]
    rcases sit_T (hP.2.2.2.2 i hi).2.2.2.2 with ⟨h1, h2⟩ | ⟨t, ht, h1, h2, h3⟩
    · rw [if_pos h2]
      refine Or.inl ⟨_, rfl, rfl, fun p hp t ht => ?_⟩
      by_cases e : p = i
      · subst e; rw [h1] at ht; cases ht
      · exact h p (by omega) t ht
    · rw [if_neg h2, C_freeSet s hB (PW_okP hP) (SG_hrOK hS) hi ha (fun k hk hne t ht => PW_snd hP hk hne hi ht), Option.bind_some, h3]
      simp only [set_has (freG g i a) ht]
      cases e : freG g i a t
      · rw [if_pos rfl]
        exact Or.inr ⟨_, rfl, Or.inl ⟨rfl, fun q => by have := q i hi t h1; rw [e] at this; cases this⟩⟩
      · rw [if_neg (by decide)]
        refine Or.inl ⟨_, rfl, rfl, fun p hp t' ht' => ?_⟩
        by_cases e2 : p = i
        · subst e2
          rw [h1] at ht'
          obtain rfl := Option.some.inj ht'
          exact e
        · exact h p (by omega) t' ht'
  · rintro z ⟨rfl, h⟩
    unfold bX0_allSitWell_2
    rw [C_pupils, hP.2.2.1, Option.bind_some, if_pos (nI_le (Nat.le_refl n) (by omega))]
    exact ⟨_, rfl, Or.inr ⟨rfl, h⟩⟩
theorem M_allWell (s : Mem) {f : Nat → Int32} {n a : Nat} (hP : PW f (s.1 20) n a) (ha : a < 4) : ∃ b, lp (fun z => bX7_isSound_2 s (nI a) z) 600 (0 : Int32) = some b ∧ ((b = .inl 0 ∧ ¬ W1 (s.1 20) n a) ∨ (b = .inr () ∧ W1 (s.1 20) n a)) := by
  have hn := hP.1
  refine lp_inv (α := Int32) (β := Int32 ⊕ Unit) (fun i z => z = nI i ∧ ∀ p, p < i → ∀ t, trp (s.1 20) p a = some t → freG (s.1 20) p a t = true) (fun b => (b = .inl 0 ∧ ¬ W1 (s.1 20) n a) ∨ (b = .inr () ∧ W1 (s.1 20) n a)) n ?_ ?_ (by omega) ⟨rfl, fun p hp => by omega⟩
  · rintro i z hi ⟨rfl, h⟩
    unfold bX7_isSound_2
    simp only [cl96]
    rw [gd96, hP.2.1, if_neg (nI_cn hi hn), M_triple s (by omega) ha, Option.bind_some]
    simp only [lt, nI_p1]
    rcases sit_T (hP.2.2.2.2 i hi).2.2.2.2 with ⟨h1, h2⟩ | ⟨t, ht, h1, h2, h3⟩
    · rw [if_pos h2]
      refine Or.inl ⟨_, rfl, rfl, fun p hp t ht => ?_⟩
      by_cases e : p = i
      · subst e; rw [h1] at ht; cases ht
      · exact h p (by omega) t ht
    · rw [if_neg h2, h3, M_isLawful s ha ht, Option.bind_some, bi_n0, M_clashes s hi ha ht (PW_okM hP), Option.bind_some, bi_n0]
      have ef : freG (s.1 20) i a t = (lawG (s.1 20) a t && !clsG (s.1 20) i a t) := rfl
      have bad : freG (s.1 20) i a t = false → ¬ W1 (s.1 20) n a := fun e q => by have := q i hi t h1; rw [e] at this; cases this
      have good : freG (s.1 20) i a t = true → ∀ p, p < i + 1 → ∀ t, trp (s.1 20) p a = some t → freG (s.1 20) p a t = true := by
        intro e p hp t' ht'
        by_cases e2 : p = i
        · subst e2
          rw [h1] at ht'
          obtain rfl := Option.some.inj ht'
          exact e
        · exact h p (by omega) t' ht'
      cases e1 : lawG (s.1 20) a t
      · rw [e1] at ef
        exact Or.inr ⟨_, rfl, Or.inl ⟨rfl, bad ef⟩⟩
      · cases e2 : clsG (s.1 20) i a t
        · rw [e1, e2] at ef
          exact Or.inl ⟨_, rfl, rfl, good ef⟩
        · rw [e1, e2] at ef
          exact Or.inr ⟨_, rfl, Or.inl ⟨rfl, bad ef⟩⟩
  · rintro z ⟨rfl, h⟩
    unfold bX7_isSound_2
    simp only [cl96]
    rw [gd96, hP.2.1, if_pos (nI_le (Nat.le_refl n) (by omega))]
    exact ⟨_, rfl, Or.inr ⟨rfl, h⟩⟩
