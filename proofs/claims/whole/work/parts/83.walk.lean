/-! the class: the whole table, the way through it -/
theorem SeatM_cg {m m' : Mem} {c : SCx} {md : Int32} (h : SeatM m c md) (he : ∀ a, a ≠ 6 → m'.1 a = m.1 a) : SeatM m' c md := by
  unfold SeatM at *
  rw [he 5 (by omega), he 7 (by omega), he 8 (by omega), he 10 (by omega), he 11 (by omega)]
  exact h
def psM (m : Mem) (ps : Nat → Bool) : Prop := ((m.1 5 7 &&& (4 : Int32)) = 0 ↔ ps 0 = false) ∧ ((m.1 5 7 &&& (2 : Int32)) = 0 ↔ ps 1 = false) ∧ ((m.1 5 7 &&& (1 : Int32)) = 0 ↔ ps 2 = false)
theorem C_all {m : Mem} {c : SCx} {md : Int32} {ps : Nat → Bool} (f : Nat → St → Int32) (hM : SeatM m c md) (hps : psM m ps) (hv : ∀ r a b, stE a b → f r a = f r b) (hE : ∀ m', SeatM m' c md → ∀ st, st.1 ≤ cN c → reach ps st → fX3_atEnd m' (nI st.1) (nI (st.2 0)) (nI (st.2 1)) (nI (st.2 2)) = some (f 0 st)) (hB : ∀ m', SeatM m' c md → ∀ k r st, k < cN c → r + k + 1 = cN c → st.1 ≤ k → reach ps st → Tab m' ps (k + 1) (f r) → fX3_atBest m' (nI k) (nI st.1) (nI (st.2 0)) (nI (st.2 1)) (nI (st.2 2)) = some (f (r + 1) st)) : ∃ m2, lp (fun a => bX3_finds_26 a.2 a.1) 600 (nI (cN c), m) = some m2 ∧ (∀ a, a ≠ 6 → m2.1 a = m.1 a) ∧ m2.2 = m.2 ∧ ∀ k, k ≤ cN c → Tab m2 ps k (f (cN c - k)) := by
  have hn := hM.1
  have key : ∃ m2, lp (fun a => bX3_finds_26 a.2 a.1) 600 (nI (cN c), m) = some m2 ∧ ((∀ a, a ≠ 6 → m2.1 a = m.1 a) ∧ m2.2 = m.2 ∧ ∀ k, k ≤ cN c → cN c < k + (cN c + 1) → Tab m2 ps k (f (cN c - k))) := by
    refine lp_inv (α := Int32 × Mem) (β := Mem) (fun i a => a.1 = nI (cN c + 1 - i) + (-1) ∧ (∀ b, b ≠ 6 → a.2.1 b = m.1 b) ∧ a.2.2 = m.2 ∧ ∀ k, k ≤ cN c → cN c < k + i → Tab a.2 ps k (f (cN c - k))) (fun m2 => (∀ a, a ≠ 6 → m2.1 a = m.1 a) ∧ m2.2 = m.2 ∧ ∀ k, k ≤ cN c → cN c < k + (cN c + 1) → Tab m2 ps k (f (cN c - k))) (cN c + 1) ?_ ?_ (by omega) ⟨?_, fun _ _ => rfl, rfl, fun k _ _ => by omega⟩
    · rintro i ⟨x, m'⟩ hi ⟨h1, h2, h3, h4⟩
      simp only at h1 h2 h3 h4
      subst h1
      left
      have e1 : nI (cN c + 1 - i) + (-1) = nI (cN c - i) := by rw [show cN c + 1 - i = cN c - i + 1 by omega, pk_m1]
      have hM' := SeatM_cg hM h2
      obtain ⟨m2, k1, k2, k3, k4, k5⟩ := C_layer (m := m') (ps := ps) (k := cN c - i) (val := f i) (by omega) (by unfold psM at hps; rw [h2 5 (by omega)]; exact hps) (hv i) (fun m3 s l b d hL st q1 q2 => by
        have hM3 := SeatM_cg hM' hL.1
        have e56 : m3.1 5 6 = nI (cN c) := hM3.2.1
        by_cases hi0 : i = 0
        · subst hi0
          rw [if_pos (by rw [e56, Nat.sub_zero])]
          exact hE m3 hM3 st (by omega) q2
        · rw [if_neg (by rw [e56, nI_eq (by omega) (by omega)]; omega)]
          obtain ⟨r, rfl⟩ : ∃ r, i = r + 1 := ⟨i - 1, by omega⟩
          refine hB m3 hM3 (cN c - (r + 1)) r st (by omega) (by omega) q1 q2 (fun st' z1 z2 => ?_)
          have ht := h4 (cN c - (r + 1) + 1) (by omega) (by omega) st' z1 z2
          rw [show cN c - (cN c - (r + 1) + 1) = r by omega] at ht
          rw [hL.2.2.1 _ plc_ge]
          exact ht)
      have eb : bX3_finds_26 m' (nI (cN c + 1 - i) + (-1)) = some (.inr (nI (cN c + 1 - (i + 1)) + (-1), m2)) := by
        unfold bX3_finds_26
        rw [e1, if_neg (nI_pos (by omega)), k1, Option.bind_some, lt_e, show cN c + 1 - (i + 1) = cN c - i by omega]
      refine ⟨_, eb, rfl, fun b hb => by rw [k2 b hb, h2 b hb], by rw [k3, h3], fun k hk hki => ?_⟩
      by_cases q : k = cN c - i
      · subst q
        rw [show cN c - (cN c - i) = i by omega]
        exact k5
      · intro st z1 z2
        show m2.1 6 (plc k st) = _
        have hl := lay_mono k (by omega) (cN c - i + 1) (by omega)
        have hge := plc_ge (k := k) (st := st)
        rw [k4 _ (by omega)]
        exact h4 k hk (by omega) st z1 z2
    · rintro ⟨x, m'⟩ ⟨h1, h2, h3, h4⟩
      simp only at h1 h2 h3 h4
      subst h1
      refine ⟨m', ?_, h2, h3, h4⟩
      show bX3_finds_26 m' (nI (cN c + 1 - (cN c + 1)) + (-1)) = _
      unfold bX3_finds_26
      rw [Nat.sub_self, if_pos (by decide)]
    · show nI (cN c) = nI (cN c + 1 - 0) + (-1)
      rw [Nat.sub_zero, pk_m1]
  obtain ⟨m2, k1, k2, k3, k4⟩ := key
  exact ⟨m2, k1, k2, k3, fun k hk => k4 k hk (by omega)⟩
theorem best_len (c : SCx) : ∀ r st u, best c r st = some u → u.2.length = r
  | 0, st, u, e => by rw [← Option.some.inj e]; rfl
  | r + 1, st, u, e => by
    obtain ⟨dg, hd, h2⟩ := foldB_ex c _ _ st 9 u e
    obtain ⟨-, st', u', h3, h4, h5⟩ := thrB_ex h2
    rw [h5]
    show u'.2.length + 1 = r + 1
    rw [best_len c r st' u' h4]
theorem foldB_first (c : SCx) (k : Nat) (f : St → Option (Int × List Nat)) (st : St) : ∀ i, (∀ u, foldB c k f st i = some u → (∃ dg, dg < i ∧ thrB c k f st dg = some u ∧ ∀ d', d' < dg → ∀ u', thrB c k f st d' = some u' → u'.1 < u.1) ∧ ∀ d', d' < i → ∀ u', thrB c k f st d' = some u' → u'.1 ≤ u.1) ∧ (foldB c k f st i = none → ∀ d', d' < i → thrB c k f st d' = none)
  | 0 => ⟨fun u h => (by cases h), fun _ d' hd => by omega⟩
  | i + 1 => by
    obtain ⟨ih1, ih2⟩ := foldB_first c k f st i
    rw [foldB_s]
    cases e1 : foldB c k f st i with
    | none =>
      have hz := ih2 e1
      refine ⟨fun u h => ?_, fun h d' hd => ?_⟩
      · have h' : thrB c k f st i = some u := h
        refine ⟨⟨i, by omega, h', fun d' hd' u' hu' => ?_⟩, fun d' hd' u' hu' => ?_⟩
        · rw [hz d' hd'] at hu'; cases hu'
        · by_cases q : d' = i
          · subst q; rw [h'] at hu'; obtain rfl := Option.some.inj hu'; exact Int.le_refl _
          · rw [hz d' (by omega)] at hu'; cases hu'
      · have h' : thrB c k f st i = none := h
        by_cases q : d' = i
        · subst q; exact h'
        · exact hz d' (by omega)
    | some a =>
      obtain ⟨⟨dg, g1, g2, g3⟩, g4⟩ := ih1 a e1
      cases e2 : thrB c k f st i with
      | none =>
        refine ⟨fun u h => ?_, fun h => by cases h⟩
        obtain rfl := Option.some.inj h
        refine ⟨⟨dg, by omega, g2, g3⟩, fun d' hd' u' hu' => ?_⟩
        by_cases q : d' = i
        · subst q; rw [e2] at hu'; cases hu'
        · exact g4 d' (by omega) u' hu'
      | some b =>
        have hp : pck (some a) (some b) = if a.1 < b.1 then some b else some a := rfl
        rw [hp]
        by_cases q : a.1 < b.1
        · rw [if_pos q]
          refine ⟨fun u h => ?_, fun h => by cases h⟩
          obtain rfl := Option.some.inj h
          refine ⟨⟨i, by omega, e2, fun d' hd' u' hu' => ?_⟩, fun d' hd' u' hu' => ?_⟩
          · have := g4 d' hd' u' hu'; omega
          · by_cases q2 : d' = i
            · subst q2; rw [e2] at hu'; obtain rfl := Option.some.inj hu'; exact Int.le_refl _
            · have := g4 d' (by omega) u' hu'; omega
        · rw [if_neg q]
          refine ⟨fun u h => ?_, fun h => by cases h⟩
          obtain rfl := Option.some.inj h
          refine ⟨⟨dg, by omega, g2, g3⟩, fun d' hd' u' hu' => ?_⟩
          by_cases q2 : d' = i
          · subst q2; rw [e2] at hu'; obtain rfl := Option.some.inj hu'; omega
          · exact g4 d' (by omega) u' hu'
/-- the state behind a digit -/
def stN (st : St) (dg : Nat) : St := if dg = 0 then st else stA st (dg - 1)
theorem C_firstBest {m : Mem} {c : SCx} (hM : SeatM m c 0) {ps : Nat → Bool} (hp : psOK c ps) {k r : Nat} {st : St} {u : Int × List Nat} (hk : k < cN c) (hr : r + k + 1 = cN c) (hs : st.1 ≤ k) (h : reach ps st) (hT : Tab m ps (k + 1) (fun st => encB (best c r st))) (hW : m.1 6 (plc k st) = encB (best c (r + 1) st)) (hu : best c (r + 1) st = some u) : ∃ dg u', dg < 9 ∧ cAl c k dg = true ∧ best c r (stN st dg) = some u' ∧ u = (joinC c k dg + u'.1, dg :: u'.2) ∧ fX3_firstBest m (nI k) (nI st.1) (nI (st.2 0)) (nI (st.2 1)) (nI (st.2 2)) = some (nI dg) := by
  have hn := hM.1
  obtain ⟨-, -, e8, -, hmay, -, -, -, wS, wG, wM⟩ := id hM
  have ek : cN c - (r + 1) = k := by omega
  have hf : foldB c k (best c r) st 9 = some u := by
    have : foldB c (cN c - (r + 1)) (best c r) st 9 = some u := hu
    rw [ek] at this; exact this
  obtain ⟨⟨dg, g1, g2, g3⟩, g4⟩ := (foldB_first c k (best c r) st 9).1 u hf
  obtain ⟨ha, st', u', h3, h4, h5⟩ := thrB_ex g2
  have est : st' = stN st dg := by
    unfold stN
    rcases h3 with ⟨q, rfl⟩ | ⟨q, rfl, -⟩
    · rw [if_pos q]
    · rw [if_neg q]
  refine ⟨dg, u', g1, ha, by rw [← est]; exact h4, h5, ?_⟩
  have bu := best_bd wS wG wM (r + 1) st h.1 (by omega) u hu
  have nu := bd_n bu (by omega)
  have hpb := plc_1596 (k := k) (st := st) (by omega) hs h.1
  have key : ∃ b, lp (fun a => bX3_firstBest_20 m (nI k) (nI st.1) (nI (st.2 0)) (nI (st.2 1)) (nI (st.2 2)) (iI u.1) a) 600 (0 : Int32) = some b ∧ b = .inl (nI dg) := by
    refine lp_inv (α := Int32) (β := Int32 ⊕ Unit) (fun i a => a = nI i) (fun b => b = .inl (nI dg)) dg ?_ ?_ (by omega) rfl
    · rintro i a hi rfl
      left
      unfold bX3_firstBest_20
      rw [if_neg (nI_c9 (by omega)), gd_in (by omega) (by omega), nI_clamp (by omega), nI_p1]
      cases hc : cAl c k i
      · rw [if_pos ((hmay k hk i (by omega)).mpr hc), lt_e]
        exact ⟨_, rfl, rfl⟩
      · rw [if_neg (fun q => by rw [(hmay k hk i (by omega)).mp q] at hc; cases hc), C_thrF hM hp hk hr (by omega) hs h hT hc, Option.bind_some]
        have hbd := thrB_bd wS wG wM (k := k) (r := r) (dg := i) h.1 (by omega) (by omega)
        have hne : ¬ encB (thrB c k (best c r) st i) = iI u.1 := by
          cases e : thrB c k (best c r) st i with
          | none => intro q; exact enc_n bu (by omega) q.symm
          | some w =>
            have := g3 i hi w e
            have bw := bd_n (hbd w e) (by omega)
            show ¬ iI w.1 = iI u.1
            rw [iI_eq ⟨bw.1, bw.2.1⟩ ⟨nu.1, nu.2.1⟩]
            omega
        rw [if_neg hne, lt_e]
        exact ⟨_, rfl, rfl⟩
    · rintro a rfl
      refine ⟨_, ?_, rfl⟩
      unfold bX3_firstBest_20
      rw [if_neg (nI_c9 g1), gd_in (by omega) (by omega), nI_clamp (by omega), if_neg (fun q => by rw [(hmay k hk dg g1).mp q] at ha; cases ha), C_thrF hM hp hk hr g1 hs h hT ha, Option.bind_some, g2, show encB (some u) = iI u.1 from rfl, if_pos rfl]
  obtain ⟨b, k1, rfl⟩ := key
  unfold fX3_firstBest
  rw [C_place (by omega) hs h.1, Option.bind_some, gd_in hpb (by omega), nI_clamp (by omega), lt_e, hW, hu, show encB (some u) = iI u.1 from rfl, k1]
  rfl
theorem reach_N {c : SCx} {ps : Nat → Bool} (hp : psOK c ps) {k dg : Nat} (hk : k < cN c) (hd : dg < 9) (ha : cAl c k dg = true) {st : St} (h : reach ps st) : reach ps (stN st dg) := by
  unfold stN
  by_cases q : dg = 0
  · rw [if_pos q]; exact h
  · rw [if_neg q]
    obtain ⟨t, rfl⟩ : ∃ t, dg = t + 1 := ⟨dg - 1, by omega⟩
    exact reach_A hp hk (by omega) ha h
theorem stN_le {st : St} {k dg : Nat} (h : st.1 ≤ k) : (stN st dg).1 ≤ k + 1 := by
  unfold stN
  split
  · omega
  · show st.1 + 1 ≤ k + 1; omega
theorem drop_get : ∀ {l : List Nat} {i dg : Nat} {t : List Nat}, l.drop i = dg :: t → l.getD i 0 = dg ∧ l.drop (i + 1) = t
  | [], i, dg, t, h => by rw [List.drop_nil] at h; cases h
  | a :: l, 0, dg, t, h => by
    have h' : a :: l = dg :: t := h
    obtain ⟨rfl, rfl⟩ := List.cons.inj h'
    exact ⟨rfl, rfl⟩
  | a :: l, i + 1, dg, t, h => drop_get (l := l) (i := i) h
/-- the way: which digits, from a state on -/
theorem C_walk {m : Mem} {c : SCx} (hM : SeatM m c 0) {ps : Nat → Bool} (hp : psOK c ps) (hT : ∀ k, k ≤ cN c → Tab m ps k (fun st => encB (best c (cN c - k) st))) {st0 : St} (h0 : reach ps st0) (hs0 : st0.1 = 0) {u : Int × List Nat} (hu : best c (cN c) st0 = some u) (e0 : st0.2 0 = 0 ∧ st0.2 1 = 0 ∧ st0.2 2 = 0) : ∃ m2, fX3_walk m = some m2 ∧ (∀ a, a ≠ 9 → m2.1 a = m.1 a) ∧ m2.2 = m.2 ∧ ∀ k, k < cN c → m2.1 9 k = nI (u.2.getD k 0) := by
  have hn := hM.1
  have hlen := best_len c _ _ _ hu
  have key : ∃ m2, lp (fun a => bX3_walk_12 a.2.2.2.2.2 a.1 a.2.1 a.2.2.1 a.2.2.2.1 a.2.2.2.2.1) 600 ((0 : Int32), (0 : Int32), (0 : Int32), (0 : Int32), (0 : Int32), m) = some m2 ∧ ((∀ a, a ≠ 9 → m2.1 a = m.1 a) ∧ m2.2 = m.2 ∧ ∀ k, k < cN c → m2.1 9 k = nI (u.2.getD k 0)) := by
    refine lp_inv (α := Int32 × Int32 × Int32 × Int32 × Int32 × Mem) (β := Mem) (fun i a => a.2.2.2.2.1 = nI i ∧ (∀ b, b ≠ 9 → a.2.2.2.2.2.1 b = m.1 b) ∧ a.2.2.2.2.2.2 = m.2 ∧ (∀ k, k < i → a.2.2.2.2.2.1 9 k = nI (u.2.getD k 0)) ∧ ∃ st v, reach ps st ∧ st.1 ≤ i ∧ a.1 = nI st.1 ∧ a.2.1 = nI (st.2 0) ∧ a.2.2.1 = nI (st.2 1) ∧ a.2.2.2.1 = nI (st.2 2) ∧ best c (cN c - i) st = some (v, u.2.drop i)) (fun m2 => (∀ a, a ≠ 9 → m2.1 a = m.1 a) ∧ m2.2 = m.2 ∧ ∀ k, k < cN c → m2.1 9 k = nI (u.2.getD k 0)) (cN c) ?_ ?_ (by omega) ⟨rfl, fun _ _ => rfl, rfl, fun k hk => by omega, st0, u.1, h0, by omega, by rw [hs0]; rfl, by rw [e0.1]; rfl, by rw [e0.2.1]; rfl, by rw [e0.2.2]; rfl, hu⟩
    · rintro i ⟨x1, x2, x3, x4, x5, m'⟩ hi ⟨h1, h2, h3, h4, st, v, r1, r2, y1, y2, y3, y4, hb⟩
      simp only at h1 h2 h3 h4 y1 y2 y3 y4
      subst h1 y1 y2 y3 y4
      left
      obtain ⟨r, hr⟩ : ∃ r, cN c - i = r + 1 := ⟨cN c - i - 1, by omega⟩
      rw [hr] at hb
      have hM' : SeatM m' c 0 := by
        unfold SeatM at *
        rw [h2 5 (by omega), h2 7 (by omega), h2 8 (by omega), h2 10 (by omega), h2 11 (by omega)]
        exact hM
      have hT' : Tab m' ps (i + 1) (fun st => encB (best c r st)) := by
        intro st' z1 z2
        have := hT (i + 1) (by omega) st' z1 z2
        rw [show cN c - (i + 1) = r by omega] at this
        rw [h2 6 (by omega)]; exact this
      have hW : m'.1 6 (plc i st) = encB (best c (r + 1) st) := by
        have := hT i (by omega) st r2 r1
        rw [hr] at this
        rw [h2 6 (by omega)]; exact this
      obtain ⟨dg, u', g1, g2, g3, g4, g5⟩ := C_firstBest hM' hp hi (by omega) r2 r1 hT' hW hb
      have hdrop : u.2.drop i = dg :: u'.2 := (Prod.mk.inj g4).2
      obtain ⟨hget, hdrop1⟩ := drop_get hdrop
      have e1 : bX3_walk_12 m' (nI st.1) (nI (st.2 0)) (nI (st.2 1)) (nI (st.2 2)) (nI i) = some (.inr (nI (stN st dg).1, nI ((stN st dg).2 0), nI ((stN st dg).2 1), nI ((stN st dg).2 2), nI (i + 1), up2 m' 9 i (nI dg))) := by
        unfold bX3_walk_12 stN
        rw [h2 5 (by omega), hM.2.1, if_neg (nI_cn hi hn), g5, Option.bind_some, gd_in (by omega) (by omega), nI_clamp (by omega), lt_e, nI_p1]
        by_cases q : dg = 0
        · rw [if_pos (show nI dg = (0 : Int32) by rw [q]; rfl), if_pos q, lt_e]
        · obtain ⟨w, rfl⟩ : ∃ w, dg = w + 1 := ⟨dg - 1, by omega⟩
          have b := bitsT w (by omega)
          rw [if_neg (nI_ne0 (by omega) (by omega)), if_neg q, nI_pred, b.1, b.2.1, b.2.2, lt_e, lt_e, lt_e, lt_e, lt_e, nI_p1, nI_add, nI_add, nI_add, Nat.add_sub_cancel]
          rfl
      refine ⟨_, e1, rfl, fun b hb => ?_, h3, fun k hk => ?_, stN st dg, u'.1, reach_N hp hi g1 g2 r1, stN_le r2, rfl, rfl, rfl, rfl, ?_⟩
      · show (up2 m' 9 i (nI dg)).1 b = _
        rw [up2_n hb]; exact h2 b hb
      · show (up2 m' 9 i (nI dg)).1 9 k = _
        rw [up2_s]
        by_cases q : k = i
        · rw [q, pk_us, hget]
        · rw [pk_un q]; exact h4 k (by omega)
      · rw [show cN c - (i + 1) = r by omega, hdrop1]
        exact g3
    · rintro ⟨x1, x2, x3, x4, x5, m'⟩ ⟨h1, h2, h3, h4, -⟩
      simp only at h1 h2 h3 h4
      subst h1
      refine ⟨m', ?_, h2, h3, h4⟩
      show bX3_walk_12 m' x1 x2 x3 x4 (nI (cN c)) = _
      unfold bX3_walk_12
      rw [h2 5 (by omega), hM.2.1, if_pos (nI_le (Nat.le_refl _) (by omega))]
  obtain ⟨m2, k1, k2⟩ := key
  refine ⟨m2, ?_, k2⟩
  unfold fX3_walk
  rw [k1]; rfl
theorem encN_end {m : Mem} {c : SCx} (hM : SeatM m c 1) (a b d e : Int32) : fX3_atEnd m a b d e = some 1 := by
  obtain ⟨-, -, e8, -⟩ := hM
  unfold fX3_atEnd
  rw [e8, if_neg (by decide)]
def st00 : St := (0, fun _ => 0)
theorem reach_0 (ps : Nat → Bool) : reach ps st00 := ⟨⟨Nat.le_refl 0, Nat.le_refl 0, Nat.le_refl 0⟩, fun _ _ _ => rfl⟩
theorem plc_0 : plc 0 st00 = 0 := by decide
/-- rows that a search leaves as they were -/
theorem C_finds {m : Mem} {c : SCx} {ps : Nat → Bool} (hp : psOK c ps) (hM : SeatM (up2 (up2 (up2 (up2 m 5 8 0) 5 9 (iI (cS c))) 5 10 (iI (cG c))) 5 11 (iI (cM c))) c 0) (hps : psM m ps) : ∃ b m2, fX3_finds m (iI (cS c)) (iI (cG c)) (iI (cM c)) = some (b, m2) ∧ (∀ a, a ≠ 5 → a ≠ 6 → a ≠ 9 → m2.1 a = m.1 a) ∧ (∀ j, j < 8 → m2.1 5 j = m.1 5 j) ∧ m2.2 = m.2 ∧ ((best c (cN c) st00 = none ∧ b = 0 ∧ m2.1 9 = m.1 9) ∨ ∃ u, best c (cN c) st00 = some u ∧ b = 1 ∧ ∀ k, k < cN c → m2.1 9 k = nI (u.2.getD k 0)) := by
  generalize hs4 : up2 (up2 (up2 (up2 m 5 8 0) 5 9 (iI (cS c))) 5 10 (iI (cG c))) 5 11 (iI (cM c)) = s4 at hM
  have s4o : ∀ a, a ≠ 5 → s4.1 a = m.1 a := fun a ha => by rw [← hs4, up2_n ha, up2_n ha, up2_n ha, up2_n ha]
  have s45 : ∀ j, j < 8 → s4.1 5 j = m.1 5 j := fun j hj => by rw [← hs4, up2_get, if_neg (by omega), up2_get, if_neg (by omega), up2_get, if_neg (by omega), up2_get, if_neg (by omega)]
  have hn := hM.1
  have hps4 : psM s4 ps := by unfold psM at *; rw [s45 7 (by omega)]; exact hps
  obtain ⟨m1, k1, k2, k3, k4⟩ := C_all (ps := ps) (fun r st => encB (best c r st)) hM hps4 (fun r a b h => by rw [best_ext c r a b h]) (fun m' hM' st h1 h2 => C_atEnd hM' (by omega) h2.1) (fun m' hM' k r st h1 h2 h3 h4 h5 => C_atBest hM' hp h1 h2 h3 h4 h5)
  have hM1 := SeatM_cg hM k2
  have h00 : m1.1 6 0 = encB (best c (cN c) st00) := by
    have := k4 0 (by omega) st00 (Nat.le_refl 0) (reach_0 ps)
    rw [plc_0, Nat.sub_zero] at this; exact this
  have hL2 : s4.2 = m.2 := by rw [← hs4]; rfl
  have hx : fX3_finds m (iI (cS c)) (iI (cG c)) (iI (cM c)) = if encB (best c (cN c) st00) = (-1000000000 : Int32) then some (((0 : Int32), m1)) else (fX3_walk m1).bind (fun y11 => some (((1 : Int32), y11))) := by
    unfold fX3_finds
    rw [lt_e, lt_e, lt_e, lt_e, lt_e, hs4, hM.2.1, k1, Option.bind_some, show (0 : Int32) = nI 0 from rfl, gd_in (by omega) (by omega), nI_clamp (by omega), h00]
  obtain ⟨-, -, -, -, -, -, -, -, wS, wG, wM⟩ := id hM
  cases e : best c (cN c) st00 with
  | none =>
    rw [e, show encB none = -1000000000 from rfl, if_pos rfl] at hx
    refine ⟨0, m1, hx, fun a q1 q2 q3 => by rw [k2 a q2, s4o a q1], fun j hj => by rw [k2 5 (by omega), s45 j hj], by rw [k3, hL2], Or.inl ⟨rfl, rfl, by rw [k2 9 (by omega), s4o 9 (by omega)]⟩⟩
  | some u =>
    have bu := best_bd wS wG wM (cN c) st00 (reach_0 ps).1 (by show 0 + cN c ≤ 6; omega) u e
    rw [e, show encB (some u) = iI u.1 from rfl, if_neg (enc_n bu hn)] at hx
    obtain ⟨m2, w1, w2, w3, w4⟩ := C_walk hM1 hp k4 (reach_0 ps) rfl e ⟨rfl, rfl, rfl⟩
    refine ⟨1, m2, by rw [hx, w1]; rfl, fun a q1 q2 q3 => by rw [w2 a q3, k2 a q2, s4o a q1], fun j hj => by rw [w2 5 (by omega), k2 5 (by omega), s45 j hj], by rw [w3, k3, hL2], Or.inr ⟨u, rfl, rfl, w4⟩⟩
theorem C_howMany {m : Mem} {c : SCx} {ps : Nat → Bool} (hp : psOK c ps) (hM : SeatM (up2 m 5 8 1) c 1) (hps : psM m ps) : ∃ m2, fX3_howMany m = some (nI (cnt c (cN c) st00), m2) ∧ (∀ a, a ≠ 5 → a ≠ 6 → m2.1 a = m.1 a) ∧ m2.2 = m.2 := by
  generalize hs4 : up2 m 5 8 1 = s4 at hM
  have s4o : ∀ a, a ≠ 5 → s4.1 a = m.1 a := fun a ha => by rw [← hs4, up2_n ha]
  have s45 : s4.1 5 7 = m.1 5 7 := by rw [← hs4, up2_get, if_neg (by omega)]
  have hn := hM.1
  have hps4 : psM s4 ps := by unfold psM at *; rw [s45]; exact hps
  obtain ⟨m1, k1, k2, k3, k4⟩ := C_all (ps := ps) (fun r st => nI (cnt c r st)) hM hps4 (fun r a b h => by rw [cnt_ext c r a b h]) (fun m' hM' st h1 h2 => encN_end hM' _ _ _ _) (fun m' hM' k r st h1 h2 h3 h4 h5 => C_atBestN hM' hp h1 h2 h3 h4 h5)
  have h00 : m1.1 6 0 = nI (cnt c (cN c) st00) := by
    have := k4 0 (by omega) st00 (Nat.le_refl 0) (reach_0 ps)
    rw [plc_0, Nat.sub_zero] at this; exact this
  refine ⟨m1, ?_, fun a q1 q2 => by rw [k2 a q2, s4o a q1], by rw [k3, ← hs4]; rfl⟩
  have hb : (fun a : Int32 × Mem => bX3_howMany_10 a.2 a.1) = (fun a => bX3_finds_26 a.2 a.1) := rfl
  unfold fX3_howMany
  rw [lt_e, lt_e, hs4, hM.2.1, hb, k1, Option.bind_some, show (0 : Int32) = nI 0 from rfl, gd_in (by omega) (by omega), nI_clamp (by omega), h00]
