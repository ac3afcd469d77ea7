/-! the class: one place of the table -/
theorem bitsT : ∀ t, t < 8 → (nI t >>> ((2 : Int32) &&& 31)) &&& (1 : Int32) = nI (prt t 0) ∧ (nI t >>> ((1 : Int32) &&& 31)) &&& (1 : Int32) = nI (prt t 1) ∧ nI t &&& (1 : Int32) = nI (prt t 2) := by decide +kernel
theorem C_joined {m : Mem} {c : SCx} (hM : SeatM m c 0) {k dg r : Nat} {o : Option (Int × List Nat)} (hk : k < cN c) (hd : dg < 9) (hr : r ≤ 6) (hb : ∀ u, o = some u → bdW r u.1) : fX3_joined m (nI k) (nI dg) (encB o) = some (encB (ext (joinC c k dg) dg o)) := by
  obtain ⟨hn, -, e8, hw, -, h8, -⟩ := hM
  obtain ⟨e9, -, e11⟩ := hw rfl
  obtain ⟨e, hb8⟩ := h8 k hk
  unfold fX3_joined gX3_joined_27
  rw [e8, if_pos rfl]
  cases o with
  | none => rfl
  | some u =>
    have hne := enc_n (hb u rfl) hr
    have r0 : (nI dg = (0 : Int32)) ↔ dg = 0 := nI_eq (b := 0) (by omega) (by omega)
    have r1 : (nI (cH c k) = (0 : Int32)) ↔ cH c k = 0 := nI_eq (b := 0) (by omega) (by omega)
    have r2 : (nI (cH c k) = nI dg) ↔ cH c k = dg := nI_eq (by omega) (by omega)
    show (if iI u.1 = (-1000000000 : Int32) then some (iI u.1) else _) = some (iI (joinC c k dg + u.1))
    rw [if_neg hne, gd_in (by omega) (by omega), gd_in (by omega) (by omega), gd_in (by omega) (by omega), gd_in (by omega) (by omega), nI_clamp (by omega), e, e9, e11]
    simp only [r0, r1, r2, encB]
    unfold joinC
    by_cases q : dg = 0
    · rw [if_pos q, if_pos q]
      by_cases q1 : cH c k = 0
      · rw [if_pos q1, if_pos (Or.inl q1), show (0 : Int32) = iI 0 from rfl, iI_add]; congr 2; omega
      · rw [if_neg q1]
        by_cases q2 : cH c k = dg
        · rw [if_pos q2, if_pos (Or.inr q2), show (0 : Int32) = iI 0 from rfl, iI_add]; congr 2; omega
        · rw [if_neg q2, if_neg (by omega), show (0 : Int32) = iI 0 from rfl, iI_sub, iI_add]; congr 2; omega
    · rw [if_neg q, if_neg q]
      by_cases q1 : cH c k = 0
      · rw [if_pos q1, if_pos (Or.inl q1), iI_add]; congr 2; omega
      · rw [if_neg q1]
        by_cases q2 : cH c k = dg
        · rw [if_pos q2, if_pos (Or.inr q2), iI_add]; congr 2; omega
        · rw [if_neg q2, if_neg (by omega), iI_sub, iI_add]; congr 2; omega
theorem C_jc {m : Mem} {c : SCx} (hM : SeatM m c 1) (k dg y : Int32) : fX3_joined m k dg y = some y := by
  obtain ⟨-, -, e8, -⟩ := hM
  unfold fX3_joined
  rw [e8, if_neg (by decide)]
/-- what a place in the next layer says, through which a digit leads -/
theorem C_thr {m : Mem} {c : SCx} {md : Int32} (hM : SeatM m c md) {k dg : Nat} {st : St} (hk : k < cN c) (hd : dg < 9) (hs : st.1 ≤ k) (h : inS st) : fX3_through m (nI k) (nI dg) (nI st.1) (nI (st.2 0)) (nI (st.2 1)) (nI (st.2 2)) = if dg = 0 then fX3_joined m (nI k) (nI dg) (m.1 6 (plc (k + 1) st)) else if hold c (stA st (dg - 1)) = true then fX3_joined m (nI k) (nI dg) (m.1 6 (plc (k + 1) (stA st (dg - 1)))) else some (-1000000000) := by
  have hn := hM.1
  have id1 : ∀ o : Option Int32, o.bind (fun y => some y) = o := fun o => by cases o <;> rfl
  have r0 : (nI dg = (0 : Int32)) ↔ dg = 0 := nI_eq (b := 0) (by omega) (by omega)
  have p1 := plc_1596 (k := k + 1) (st := st) (by omega) (by omega) h
  unfold fX3_through
  by_cases q : dg = 0
  · rw [if_pos (r0.mpr q), if_pos q, nI_p1, C_place (by omega) (by omega) h, Option.bind_some, gd_in p1 (by omega), nI_clamp (by omega), id1]
  · rw [if_neg (fun z => q (r0.mp z)), if_neg q]
    have ht : dg - 1 < 8 := by omega
    have b := bitsT (dg - 1) ht
    have q0 := prt_lt (dg - 1) ht 0 (by omega)
    have q1 := prt_lt (dg - 1) ht 1 (by omega)
    have q2 := prt_lt (dg - 1) ht 2 (by omega)
    have hA := inS_A h ht
    have hc0 := C_held hM (so := 0) (s := st.1 + 1) (x := st.2 0 + prt (dg - 1) 0) (by omega) (by omega) hA.1
    have hc1 := C_held hM (so := 1) (s := st.1 + 1) (x := st.2 1 + prt (dg - 1) 1) (by omega) (by omega) hA.2.1
    have hc2 := C_held hM (so := 2) (s := st.1 + 1) (x := st.2 2 + prt (dg - 1) 2) (by omega) (by omega) hA.2.2
    have hp := C_place (k := k + 1) (st := stA st (dg - 1)) (by omega) (by show st.1 + 1 ≤ k + 1; omega) hA
    have p2 := plc_1596 (k := k + 1) (st := stA st (dg - 1)) (by omega) (by show st.1 + 1 ≤ k + 1; omega) hA
    have e1 : nI dg - (1 : Int32) = nI (dg - 1) := by rw [show (1 : Int32) = nI 1 from rfl, pk_sub (by omega)]
    rw [lt_e, e1, b.1, b.2.1, b.2.2, lt_e, lt_e, lt_e, nI_add, nI_add, nI_add, nI_p1, nI_p1, show (0 : Int32) = nI 0 from rfl, show (1 : Int32) = nI 1 from rfl, show (2 : Int32) = nI 2 from rfl, hc0, hc1, hc2, Option.bind_some, Option.bind_some, Option.bind_some, show nI 0 = (0 : Int32) from rfl, bi_n0, bi_n0, bi_n0]
    have hp' : fX3_place (nI (k + 1)) (nI (st.1 + 1)) (nI (st.2 0 + prt (dg - 1) 0)) (nI (st.2 1 + prt (dg - 1) 1)) (nI (st.2 2 + prt (dg - 1) 2)) = some (nI (plc (k + 1) (stA st (dg - 1)))) := hp
    rw [hp', Option.bind_some, gd_in p2 (by omega), nI_clamp (by omega), id1]
    have eh : hold c (stA st (dg - 1)) = (hl (cK c 0 1) (cK c 0 0) (st.1 + 1) (st.2 0 + prt (dg - 1) 0) && (hl (cK c 1 1) (cK c 1 0) (st.1 + 1) (st.2 1 + prt (dg - 1) 1) && hl (cK c 2 1) (cK c 2 0) (st.1 + 1) (st.2 2 + prt (dg - 1) 2))) := rfl
    rw [eh]
    cases hl (cK c 0 1) (cK c 0 0) (st.1 + 1) (st.2 0 + prt (dg - 1) 0) <;> cases hl (cK c 1 1) (cK c 1 0) (st.1 + 1) (st.2 1 + prt (dg - 1) 1) <;> cases hl (cK c 2 1) (cK c 2 0) (st.1 + 1) (st.2 2 + prt (dg - 1) 2) <;> rfl
/-- the table's layer k holds f -/
def reach (ps : Nat → Bool) (st : St) : Prop := inS st ∧ ∀ so, so < 3 → ps so = false → st.2 so = 0
def psOK (c : SCx) (ps : Nat → Bool) : Prop := ∀ k, k < cN c → ∀ t, t < 8 → cAl c k (t + 1) = true → ∀ so, so < 3 → prt t so = 1 → ps so = true
def Tab (m : Mem) (ps : Nat → Bool) (k : Nat) (f : St → Int32) : Prop := ∀ st, st.1 ≤ k → reach ps st → m.1 6 (plc k st) = f st
theorem reach_A {c : SCx} {ps : Nat → Bool} (hp : psOK c ps) {k t : Nat} (hk : k < cN c) (ht : t < 8) (ha : cAl c k (t + 1) = true) {st : St} (h : reach ps st) : reach ps (stA st t) := by
  refine ⟨inS_A h.1 ht, fun so hs e => ?_⟩
  have h0 := h.2 so hs e
  have h1 := prt_lt t ht so hs
  show st.2 so + prt t so = 0
  by_cases q : prt t so = 1
  · rw [hp k hk t ht ha so hs q] at e; cases e
  · omega
theorem C_thrF {m : Mem} {c : SCx} (hM : SeatM m c 0) {ps : Nat → Bool} (hp : psOK c ps) {k r dg : Nat} {st : St} (hk : k < cN c) (hr : r + k + 1 = cN c) (hd : dg < 9) (hs : st.1 ≤ k) (h : reach ps st) (hT : Tab m ps (k + 1) (fun st => encB (best c r st))) (ha : cAl c k dg = true) : fX3_through m (nI k) (nI dg) (nI st.1) (nI (st.2 0)) (nI (st.2 1)) (nI (st.2 2)) = some (encB (thrB c k (best c r) st dg)) := by
  have hn := hM.1
  obtain ⟨-, -, -, -, -, -, -, -, wS, wG, wM⟩ := id hM
  rw [C_thr hM hk hd hs h.1]
  unfold thrB thr0
  rw [ha, if_pos rfl]
  by_cases q : dg = 0
  · rw [if_pos q, if_pos q, hT st (by omega) h, C_joined hM hk hd (r := r) (by omega) (fun u e => best_bd wS wG wM r st h.1 (by omega) u e), q]
  · rw [if_neg q, if_neg q]
    obtain ⟨t, rfl⟩ : ∃ t, dg = t + 1 := ⟨dg - 1, by omega⟩
    rw [Nat.add_sub_cancel]
    cases e : hold c (stA st t)
    · rfl
    · have hA := reach_A hp hk (by omega) ha h
      rw [if_pos rfl, if_pos rfl, hT (stA st t) (by show st.1 + 1 ≤ k + 1; omega) hA, C_joined hM hk hd (r := r) (by omega) (fun u e => best_bd wS wG wM r _ hA.1 (by show st.1 + 1 + r ≤ 6; omega) u e)]
theorem mx_pck {r : Nat} {a : Option (Int × List Nat)} {b : Int × List Nat} (hr : r ≤ 6) (ha : ∀ u, a = some u → bdW r u.1) (hb : bdW r b.1) : mxI (encB a) (encB (some b)) = encB (pck a (some b)) := by
  have b1 := bd_n hb hr
  have tb : (iI b.1).toInt = b.1 := iI_t b1.1 b1.2.1
  cases a with
  | none =>
    show mxI (-1000000000) (iI b.1) = iI b.1
    unfold mxI
    rw [if_pos (by rw [i32_lt, tb]; exact b1.2.2)]
  | some a =>
    have a1 := bd_n (ha a rfl) hr
    have ta : (iI a.1).toInt = a.1 := iI_t a1.1 a1.2.1
    show mxI (iI a.1) (iI b.1) = encB (if a.1 < b.1 then some b else some a)
    unfold mxI
    by_cases q : a.1 < b.1
    · rw [if_pos q, if_pos (by rw [i32_lt, ta, tb]; exact q)]; rfl
    · rw [if_neg q, if_neg (by rw [i32_lt, ta, tb]; exact q)]; rfl
theorem foldB_bd {c : SCx} (wS : 0 ≤ cS c ∧ cS c ≤ 10000) (wG : 0 ≤ cG c ∧ cG c ≤ 100) (wM : 0 ≤ cM c ∧ cM c ≤ 1) {k r : Nat} {st : St} (h : inS st) (h6 : st.1 + (r + 1) ≤ 6) {i : Nat} (hi : i ≤ 9) : ∀ u, foldB c k (best c r) st i = some u → bdW (r + 1) u.1 := by
  intro u e
  obtain ⟨dg, hd, h2⟩ := foldB_ex c _ _ st i u e
  obtain ⟨-, st', u', h3, h4, h5⟩ := thrB_ex h2
  have hj := join_bd wS wM k dg
  have ih : bdW r u'.1 := by
    rcases h3 with ⟨q, rfl⟩ | ⟨q, rfl, -⟩
    · exact best_bd wS wG wM r st' h (by omega) u' h4
    · exact best_bd wS wG wM r _ (inS_A h (by omega)) (by show st.1 + 1 + r ≤ 6; omega) u' h4
  rw [h5]
  unfold bdW at *
  simp only
  omega
theorem thrB_bd {c : SCx} (wS : 0 ≤ cS c ∧ cS c ≤ 10000) (wG : 0 ≤ cG c ∧ cG c ≤ 100) (wM : 0 ≤ cM c ∧ cM c ≤ 1) {k r : Nat} {st : St} (h : inS st) (h6 : st.1 + (r + 1) ≤ 6) {dg : Nat} (hi : dg < 9) : ∀ u, thrB c k (best c r) st dg = some u → bdW (r + 1) u.1 := by
  intro u h2
  obtain ⟨-, st', u', h3, h4, h5⟩ := thrB_ex h2
  have hj := join_bd wS wM k dg
  have ih : bdW r u'.1 := by
    rcases h3 with ⟨q, rfl⟩ | ⟨q, rfl, -⟩
    · exact best_bd wS wG wM r st' h (by omega) u' h4
    · exact best_bd wS wG wM r _ (inS_A h (by omega)) (by show st.1 + 1 + r ≤ 6; omega) u' h4
  rw [h5]
  unfold bdW at *
  simp only
  omega
theorem pck_n (a : Option (Int × List Nat)) : pck a none = a := by cases a <;> rfl
theorem nI_c9 {i : Nat} (h : i < 9) : ¬ (9 : Int32) ≤ nI i := by rw [show (9 : Int32) = nI 9 from rfl, nI_leI (by omega) (by omega)]; omega
theorem C_atBest {m : Mem} {c : SCx} (hM : SeatM m c 0) {ps : Nat → Bool} (hp : psOK c ps) {k r : Nat} {st : St} (hk : k < cN c) (hr : r + k + 1 = cN c) (hs : st.1 ≤ k) (h : reach ps st) (hT : Tab m ps (k + 1) (fun st => encB (best c r st))) : fX3_atBest m (nI k) (nI st.1) (nI (st.2 0)) (nI (st.2 1)) (nI (st.2 2)) = some (encB (best c (r + 1) st)) := by
  have hn := hM.1
  obtain ⟨-, -, e8, -, hmay, -, -, -, wS, wG, wM⟩ := id hM
  have ek : cN c - (r + 1) = k := by omega
  have key : ∃ b, lp (fun a => bX3_atBest_10 m (nI k) (nI st.1) (nI (st.2 0)) (nI (st.2 1)) (nI (st.2 2)) a.1 a.2.1 a.2.2) 600 ((0 : Int32), (-1000000000 : Int32), (0 : Int32)) = some b ∧ b.2 = encB (foldB c k (best c r) st 9) := by
    refine lp_inv (α := Int32 × Int32 × Int32) (β := Int32 × Int32) (fun i a => a.2.1 = encB (foldB c k (best c r) st i) ∧ a.2.2 = nI i) (fun b => b.2 = encB (foldB c k (best c r) st 9)) 9 ?_ ?_ (by omega) ⟨rfl, rfl⟩
    · rintro i ⟨x, y, z⟩ hi ⟨h1, h2⟩
      simp only at h1 h2
      subst h1 h2
      left
      rw [foldB_s]
      show ∃ a', bX3_atBest_10 m (nI k) (nI st.1) (nI (st.2 0)) (nI (st.2 1)) (nI (st.2 2)) x (encB (foldB c k (best c r) st i)) (nI i) = some (.inr a') ∧ _
      unfold bX3_atBest_10
      rw [if_neg (nI_c9 hi), gd_in (by omega) (by omega), nI_clamp (by omega), nI_p1]
      cases ha : cAl c k i
      · rw [if_pos ((hmay k hk i hi).mpr ha), lt_e]
        have e : thrB c k (best c r) st i = none := by unfold thrB; rw [ha]; rfl
        rw [e, pck_n]
        exact ⟨_, rfl, rfl, rfl⟩
      · rw [if_neg (fun q => by rw [(hmay k hk i hi).mp q] at ha; cases ha), C_thrF hM hp hk hr hi hs h hT ha, Option.bind_some]
        have hbd := thrB_bd wS wG wM (k := k) (r := r) (dg := i) h.1 (by omega) hi
        cases e : thrB c k (best c r) st i with
        | none =>
          rw [show encB none = -1000000000 from rfl, if_pos rfl, pck_n, lt_e]
          exact ⟨_, rfl, rfl, rfl⟩
        | some u =>
          have hbu := hbd u e
          rw [show encB (some u) = iI u.1 from rfl, if_neg (enc_n hbu (by omega)), lt_e, lt_e, lt_e]
          have hmx := mx_pck (r := r + 1) (a := foldB c k (best c r) st i) (b := u) (by omega) (foldB_bd wS wG wM h.1 (by omega) (by omega)) hbu
          exact ⟨_, rfl, hmx, rfl⟩
    · rintro ⟨x, y, z⟩ ⟨h1, h2⟩
      simp only at h1 h2
      subst h1 h2
      refine ⟨(x, encB (foldB c k (best c r) st 9)), ?_, rfl⟩
      show bX3_atBest_10 m (nI k) (nI st.1) (nI (st.2 0)) (nI (st.2 1)) (nI (st.2 2)) x (encB (foldB c k (best c r) st 9)) (nI 9) = _
      unfold bX3_atBest_10
      rw [if_pos (by decide)]
  obtain ⟨b, k1, k2⟩ := key
  unfold fX3_atBest
  rw [k1, Option.bind_some, e8, if_pos rfl, k2]
  show _ = some (encB (foldB c (cN c - (r + 1)) (best c r) st 9))
  rw [ek]
/-- counted -/
theorem cnt_le (c : SCx) : ∀ r st, cnt c r st ≤ 9 ^ r
  | 0, _ => Nat.le_refl 1
  | r + 1, st => by
    have ih := cnt_le c r
    have key : ∀ i, foldN c (cN c - (r + 1)) (cnt c r) st i ≤ i * 9 ^ r := by
      intro i
      induction i with
      | zero => rw [Nat.zero_mul]; exact Nat.le_refl 0
      | succ i hi =>
        rw [foldN_s, Nat.succ_mul]
        have ht : thrN c (cN c - (r + 1)) (cnt c r) st i ≤ 9 ^ r := by
          unfold thrN
          split
          · split
            · exact ih _
            · split
              · exact ih _
              · exact Nat.zero_le _
          · exact Nat.zero_le _
        omega
    have := key 9
    show foldN c (cN c - (r + 1)) (cnt c r) st 9 ≤ _
    rw [Nat.pow_succ]
    omega
theorem p9 {r : Nat} (h : r ≤ 6) : 9 ^ r ≤ 531441 := by
  have : ∀ r, r < 7 → 9 ^ r ≤ 531441 := by decide +kernel
  exact this r (by omega)
theorem C_atBestN {m : Mem} {c : SCx} (hM : SeatM m c 1) {ps : Nat → Bool} (hp : psOK c ps) {k r : Nat} {st : St} (hk : k < cN c) (hr : r + k + 1 = cN c) (hs : st.1 ≤ k) (h : reach ps st) (hT : Tab m ps (k + 1) (fun st => nI (cnt c r st))) : fX3_atBest m (nI k) (nI st.1) (nI (st.2 0)) (nI (st.2 1)) (nI (st.2 2)) = some (nI (cnt c (r + 1) st)) := by
  have hn := hM.1
  obtain ⟨-, -, e8, -, hmay, -⟩ := id hM
  have ek : cN c - (r + 1) = k := by omega
  have key : ∃ b, lp (fun a => bX3_atBest_10 m (nI k) (nI st.1) (nI (st.2 0)) (nI (st.2 1)) (nI (st.2 2)) a.1 a.2.1 a.2.2) 600 ((0 : Int32), (-1000000000 : Int32), (0 : Int32)) = some b ∧ b.1 = nI (foldN c k (cnt c r) st 9) := by
    refine lp_inv (α := Int32 × Int32 × Int32) (β := Int32 × Int32) (fun i a => a.1 = nI (foldN c k (cnt c r) st i) ∧ a.2.2 = nI i) (fun b => b.1 = nI (foldN c k (cnt c r) st 9)) 9 ?_ ?_ (by omega) ⟨rfl, rfl⟩
    · rintro i ⟨x, y, z⟩ hi ⟨h1, h2⟩
      simp only at h1 h2
      subst h1 h2
      left
      rw [foldN_s]
      show ∃ a', bX3_atBest_10 m (nI k) (nI st.1) (nI (st.2 0)) (nI (st.2 1)) (nI (st.2 2)) (nI (foldN c k (cnt c r) st i)) y (nI i) = some (.inr a') ∧ _
      unfold bX3_atBest_10 thrN
      rw [if_neg (nI_c9 hi), gd_in (by omega) (by omega), nI_clamp (by omega), nI_p1]
      cases ha : cAl c k i
      · rw [if_pos ((hmay k hk i hi).mpr ha), lt_e]
        exact ⟨_, rfl, rfl, rfl⟩
      · have neg : ∀ st', ¬ nI (cnt c r st') = (-1000000000 : Int32) := by
          intro st' q
          have h1 := cnt_le c r st'
          have h2 := p9 (r := r) (by omega)
          have := congrArg Int32.toInt q
          rw [nI_toInt (by omega)] at this
          have e0 : (-1000000000 : Int32).toInt = -1000000000 := by decide
          omega
        rw [if_neg (fun q => by rw [(hmay k hk i hi).mp q] at ha; cases ha), C_thr hM hk hi hs h.1, if_pos rfl]
        by_cases q : i = 0
        · rw [if_pos q, if_pos q, hT st (by omega) h, C_jc hM, Option.bind_some, if_neg (neg st), lt_e, lt_e, lt_e, nI_add]
          exact ⟨_, rfl, rfl, rfl⟩
        · rw [if_neg q, if_neg q]
          obtain ⟨t, rfl⟩ : ∃ t, i = t + 1 := ⟨i - 1, by omega⟩
          rw [Nat.add_sub_cancel]
          cases e : hold c (stA st t)
          · rw [if_neg (by decide), if_neg (by decide), Option.bind_some, if_pos rfl, lt_e]
            exact ⟨_, rfl, rfl, rfl⟩
          · rw [if_pos rfl, if_pos rfl, hT (stA st t) (by show st.1 + 1 ≤ k + 1; omega) (reach_A hp hk (by omega) ha h), C_jc hM, Option.bind_some, if_neg (neg _), lt_e, lt_e, lt_e, nI_add]
            exact ⟨_, rfl, rfl, rfl⟩
    · rintro ⟨x, y, z⟩ ⟨h1, h2⟩
      simp only at h1 h2
      subst h1 h2
      refine ⟨(nI (foldN c k (cnt c r) st 9), y), ?_, rfl⟩
      show bX3_atBest_10 m (nI k) (nI st.1) (nI (st.2 0)) (nI (st.2 1)) (nI (st.2 2)) (nI (foldN c k (cnt c r) st 9)) y (nI 9) = _
      unfold bX3_atBest_10
      rw [if_pos (by decide)]
  obtain ⟨b, k1, k2⟩ := key
  unfold fX3_atBest
  rw [k1, Option.bind_some, e8, if_neg (by decide), k2]
  show _ = some (nI (foldN c (cN c - (r + 1)) (cnt c r) st 9))
  rw [ek]
