/-! text: both read a set -/
theorem TC_R {L : Nat} {b : Nat → Nat} {s : Mem} (h : TC L b s) (F : Nat → Int32) : TC L b (upR s 12 F) := fun i hi => by rw [upR_n (by omega)]; exact h i hi
theorem TM_R {L : Nat} {b : Nat → Nat} {s : Mem} (h : TM L b s) (F : Nat → Int32) : TM L b (upR s 19 F) := fun i hi => by rw [upR_n (by omega)]; exact h i hi
theorem nI_e0 {n : Nat} (h : n < 2 ^ 31) : nI n = (0 : Int32) ↔ n = 0 := nI_eq (b := 0) h (by omega)
theorem C_rsLoop {L : Nat} {b : Nat → Nat} (hB : Bt L b) {s : Mem} (hT : TC L b s) (F : Nat → Int32) (md : Int32) {nm : Nat → Nat → Option Nat} {B : Nat} (hB2 : B ≤ 20) (hv : ∀ st en v, nm st en = some v → v < B ∧ st < en) (h1 : F 1 = nI L) (rd : ∀ F' st en, F' 2 = nI st → F' 3 = nI en → st ≤ en → en ≤ L → (if md = 0 then fX5_letter (upR s 12 F') else fX5_hour (upR s 12 F')) = some (oI (nm st en))) {st en : Nat} (hs : st ≤ en) (he : en ≤ L) : lp (α := Int32 × Int32 × Mem) (β := Mem) (fun a => bX5_readSet_23 a.2.2 md a.1 a.2.1) 600 (oI (nm st en), (0 : Int32), upR s 12 (FF F (0, st, en))) = some (upR s 12 (FF F (rdS L b nm st en))) := by
  obtain ⟨n, hn, q1, q2, q3⟩ := sq_end (L := L) (b := b) hB hv hs he
  have hi := sq_inv (L := L) (b := b) hv hs he
  have hN : ∀ st en, (oI (nm st en) < (0 : Int32) ↔ nm st en = none) := fun st en => oI_neg _ (fun v hvv => by have := (hv st en v hvv).1; omega)
  rw [q3]
  refine lp_at (α := Int32 × Int32 × Mem) (β := Mem) (fun i => (oI (nm (sqS L b nm (0, st, en) i).2.1 (sqS L b nm (0, st, en) i).2.2), nI i, upR s 12 (FF F (sqS L b nm (0, st, en) i)))) n rfl ?_ ?_ (by omega)
  · intro i hin
    obtain ⟨v, hvv⟩ := q1 i hin
    have hii := hi i
    have hii' := hi (i + 1)
    rw [sqS_s, stS_some hvv] at *
    generalize sqS L b nm (0, st, en) i = x at *
    obtain ⟨a, t, u⟩ := x
    have hvv : nm t u = some v := hvv
    have hvB := (hv _ _ _ hvv).1
    show bX5_readSet_23 (upR s 12 (FF F (a, t, u))) md (oI (nm t u)) (nI i) = some (.inr (oI (nm (nxS L b u) (nxE L b u)), nI (i + 1), upR s 12 (FF F (a ||| 2 ^ v, nxS L b u, nxE L b u))))
    unfold bX5_readSet_23
    have r5 : (upR s 12 (FF F (a, t, u))).1 12 5 = nI a := by rw [upR_s]; rfl
    rw [if_neg (show ¬ (120 : Int32) ≤ nI i from by show ¬ nI 120 ≤ nI i; rw [nI_leI (by omega) (by omega)]; omega), if_neg (fun z => by rw [(hN t u).mp z] at hvv; cases hvv), lt_e, up2_upRk, r5, hvv]
    show (fX5_nextWord (upR s 12 (upd (FF F (a, t, u)) 5 (nI a ||| ((1 : Int32) <<< (nI v &&& 31)))))).bind _ = _
    rw [sh_bit v (by omega), nI_or, FF_5]
    show (fX5_nextWord (upR s 12 (FF F (a ||| 2 ^ v, t, u)))).bind _ = _
    rw [C_next hB hT (FF F (a ||| 2 ^ v, t, u)) (e := u) (by rw [FF_j _ _ (by omega) (by omega) (by omega)]; exact h1) rfl hii.2.1, Option.bind_some, FF_23]
    have hr := rd (FF F (a ||| 2 ^ v, nxS L b u, nxE L b u)) _ _ rfl rfl hii'.1 hii'.2.1
    by_cases e : md = 0
    · rw [if_pos e] at hr
      rw [if_pos e, hr, Option.bind_some, lt_e, nI_p1]
    · rw [if_neg e] at hr
      rw [if_neg e, hr, Option.bind_some, lt_e, nI_p1]
  · generalize sqS L b nm (0, st, en) n = x at *
    obtain ⟨a, t, u⟩ := x
    show bX5_readSet_23 (upR s 12 (FF F (a, t, u))) md (oI (nm t u)) (nI n) = _
    unfold bX5_readSet_23
    have q2 : nm t u = none := q2
    rw [if_pos ((hN t u).mpr q2)]
    split <;> rfl
theorem C_readSet {L : Nat} {b : Nat → Nat} (hB : Bt L b) {s : Mem} (hT : TC L b s) (F : Nat → Int32) (md : Int32) {nm : Nat → Nat → Option Nat} {B : Nat} (hB2 : B ≤ 20) (hv : ∀ st en v, nm st en = some v → v < B ∧ st < en) (h1 : F 1 = nI L) (rd : ∀ F' st en, F' 2 = nI st → F' 3 = nI en → st ≤ en → en ≤ L → (if md = 0 then fX5_letter (upR s 12 F') else fX5_hour (upR s 12 F')) = some (oI (nm st en))) {st en : Nat} (h2 : F 2 = nI st) (h3 : F 3 = nI en) (hs : st ≤ en) (he : en ≤ L) : fX5_readSet (upR s 12 F) md = some (bi (nm st en).isSome, upR s 12 (FF F (rdS L b nm st en))) := by
  have hl := C_rsLoop hB hT F md hB2 hv h1 rd hs he
  have hr := rd (FF F (0, st, en)) st en rfl rfl hs he
  have hg : gX5_readSet_20 (upR s 12 (FF F (0, st, en))) md (oI (nm st en)) = some (bi (nm st en).isSome, upR s 12 (FF F (rdS L b nm st en))) := by
    unfold gX5_readSet_20
    rw [hl, Option.bind_some, upR_s]
    have e5 : FF F (rdS L b nm st en) 5 = nI (rdS L b nm st en).1 := rfl
    rw [e5]
    have hlt : (rdS L b nm st en).1 < 2 ^ 20 := Nat.lt_of_lt_of_le (sq_inv (L := L) (b := b) hv hs he 121).2.2.1 (Nat.pow_le_pow_right (by omega) hB2)
    have h31 : (2 : Nat) ^ 20 < 2 ^ 31 := by decide
    cases e : nm st en with
    | none =>
      have e0 : (rdS L b nm st en).1 = 0 := by
        have hc : ∀ i, sqS L b nm (0, st, en) i = (0, st, en) := by
          intro i
          induction i with
          | zero => rfl
          | succ i ih => rw [sqS_s, ih, stS_none (show nm (0, st, en).2.1 (0, st, en).2.2 = none from e)]
        unfold rdS; rw [hc]
      rw [if_pos ((nI_e0 (by omega)).mpr e0)]; rfl
    | some v =>
      have : 0 < (rdS L b nm st en).1 := sq_pos (L := L) (b := b) e 120
      rw [if_neg (fun z => by have := (nI_e0 (by omega)).mp z; omega)]; rfl
  unfold fX5_readSet
  have f0 : upd F 5 (0 : Int32) = FF F (0, st, en) := FF_0 F (a := 0) h2 h3
  rw [lt_e, up2_upRk, f0]
  by_cases e : md = 0
  · rw [if_pos e] at hr
    rw [if_pos e, hr, Option.bind_some]; exact hg
  · rw [if_neg e] at hr
    rw [if_neg e, hr, Option.bind_some]; exact hg
theorem C_setH {L : Nat} {b : Nat → Nat} (hB : Bt L b) {s : Mem} (hT : TC L b s) (F : Nat → Int32) (h1 : F 1 = nI L) {st en : Nat} (h2 : F 2 = nI st) (h3 : F 3 = nI en) (hs : st ≤ en) (he : en ≤ L) : fX5_readSet (upR s 12 F) (1 : Int32) = some (bi (hou b st en).isSome, upR s 12 (FF F (rdS L b (hou b) st en))) :=
  C_readSet hB hT F 1 (B := 20) (by omega) (hou_v b) h1 (fun F' st en q2 q3 q4 q5 => by rw [if_neg (by decide)]; exact C_hour hB (TC_R hT F') (by rw [upR_s]; exact q2) (by rw [upR_s]; exact q3) q4 q5) h2 h3 hs he
def one3 (b : Nat → Nat) (st en : Nat) : Option Nat := one b st en 97 3
theorem one3_v (b : Nat → Nat) (st en v : Nat) (h : one3 b st en = some v) : v < 4 ∧ st < en := one_v st en v h
theorem C_setL {L : Nat} {b : Nat → Nat} (hB : Bt L b) {s : Mem} (hT : TC L b s) (F : Nat → Int32) (h1 : F 1 = nI L) {st en : Nat} (h2 : F 2 = nI st) (h3 : F 3 = nI en) (hs : st ≤ en) (he : en ≤ L) : fX5_readSet (upR s 12 F) (0 : Int32) = some (bi (one3 b st en).isSome, upR s 12 (FF F (rdS L b (one3 b) st en))) :=
  C_readSet hB hT F 0 (nm := one3 b) (B := 4) (by omega) (one3_v b) h1 (fun F' st en q2 q3 q4 q5 => by rw [if_pos rfl]; exact C_letter hB (TC_R hT F') (by rw [upR_s]; exact q2) (by rw [upR_s]; exact q3) q4 q5) h2 h3 hs he
/-- the reference's row -/
def GG (G : Nat → Int32) (st en : Nat) : Nat → Int32 := upd (upd G 20 (nI st)) 21 (nI en)
theorem GG_j (G : Nat → Int32) (st en : Nat) {j : Nat} (h : j ≠ 20) (h2 : j ≠ 21) : GG G st en j = G j := by
  unfold GG; rw [upd_n h2, upd_n h]
theorem GG_0 (G : Nat → Int32) {st en : Nat} (h2 : G 20 = nI st) (h3 : G 21 = nI en) : GG G st en = G := by
  unfold GG; rw [← h2, upd_id, ← h3, upd_id]
theorem GG_G (G : Nat → Int32) (st en t u : Nat) : GG (GG G st en) t u = GG G t u := by
  funext j
  unfold GG upd
  by_cases e3 : j = 21
  · subst e3; rfl
  · by_cases e2 : j = 20
    · subst e2; rfl
    · simp only [if_neg e3, if_neg e2]
theorem M_mustF {s : Mem} (G : Nat → Int32) {st : Nat} (h2 : G 20 = nI st) (h4 : G 22 = -1) : fX7_must (upR s 19 G) (0 : Int32) = some (upR s 19 (upd G 22 (nI st))) := by
  unfold fX7_must
  rw [upR_s, h4, if_neg (by decide), if_pos rfl, lt_e, up2_upRk, h2]
theorem M_mustT {s : Mem} (G : Nat → Int32) (h4 : G 22 = -1) : fX7_must (upR s 19 G) (1 : Int32) = some (upR s 19 G) := by
  unfold fX7_must
  rw [upR_s, h4, if_neg (by decide), if_neg (by decide)]
theorem M_hours {L : Nat} {b : Nat → Nat} (hB : Bt L b) {s : Mem} (hT : TM L b s) (G : Nat → Int32) (h1 : G 19 = nI L) (h4 : G 22 = -1) {st en : Nat} (h2 : G 20 = nI st) (h3 : G 21 = nI en) (hs : st ≤ en) (he : en ≤ L) : fX7_hours (upR s 19 G) = some (if (hou b st en).isSome then (nI (rdS L b (hou b) st en).1, upR s 19 (GG G (rdS L b (hou b) st en).2.1 (rdS L b (hou b) st en).2.2)) else (0, upR s 19 (upd G 22 (nI st)))) := by
  have hL := hB.1
  have hN : ∀ st en, (oI (hou b st en) < (0 : Int32) ↔ hou b st en = none) := fun st en => oI_neg _ (fun v hvv => by have := ((hou_v b) st en v hvv).1; omega)
  have rd : ∀ G' : Nat → Int32, ∀ st en, G' 20 = nI st → G' 21 = nI en → G' 22 = -1 → st ≤ en → en ≤ L → fX7_numberHere (upR s 19 G') (19 : Int32) = some (oI (hou b st en)) := fun G' st en q2 q3 q4 q5 q6 => by rw [← nu_hou]; exact M_numberHere hB (TM_R hT G') (m := 19) (by omega) (by rw [upR_s]; exact q2) (by rw [upR_s]; exact q3) (by rw [upR_s]; exact q4) q5 q6
  unfold fX7_hours
  rw [rd G st en h2 h3 h4 hs he, Option.bind_some]
  unfold gX7_hours_17
  cases e : hou b st en with
  | none =>
    have hneg : oI (none : Option Nat) < (0 : Int32) := by decide
    obtain ⟨f, hf⟩ := f600
    have hp : ¬ nI st < (0 : Int32) := nI_pos (by omega)
    have hb : bX7_hours_20 (upR s 19 (upd G 22 (nI st))) (0 : Int32) = some (.inl ((0 : Int32), upR s 19 (upd G 22 (nI st)))) := by
      unfold bX7_hours_20
      have h0 : fX7_numberHere (upR s 19 (upd G 22 (nI st))) (19 : Int32) = some (-1) := by
        unfold fX7_numberHere
        have e22 : (upR s 19 (upd G 22 (nI st))).1 19 22 = nI st := by rw [upR_s, upd_s]
        rw [lt_e, e22, if_pos (Int32.not_lt.mp hp)]
      rw [h0, Option.bind_some, if_pos (by decide)]
    rw [if_pos hneg, M_mustF G h2 h4, Option.bind_some, hf, lp_l (α := Int32 × Mem) (β := Int32 × Mem) (body := fun a => bX7_hours_20 a.2 a.1) (a := ((0 : Int32), upR s 19 (upd G 22 (nI st)))) hb]
    rfl
  | some v =>
    have hneg : ¬ oI (some v) < (0 : Int32) := fun z => by rw [← e, hN] at z; rw [z] at e; cases e
    rw [if_neg hneg, M_mustT G h4, Option.bind_some]
    obtain ⟨n, hn, q1, q2, q3⟩ := sq_end (L := L) (b := b) (nm := hou b) hB (hou_v b) hs he
    have hi := sq_inv (L := L) (b := b) (nm := hou b) (hou_v b) hs he
    have hl : lp (α := Int32 × Mem) (β := Int32 × Mem) (fun a => bX7_hours_20 a.2 a.1) 600 ((0 : Int32), upR s 19 G) = some (nI (rdS L b (hou b) st en).1, upR s 19 (GG G (rdS L b (hou b) st en).2.1 (rdS L b (hou b) st en).2.2)) := by
      rw [q3]
      refine lp_at (α := Int32 × Mem) (β := Int32 × Mem) (fun i => (nI (sqS L b (hou b) (0, st, en) i).1, upR s 19 (GG G (sqS L b (hou b) (0, st, en) i).2.1 (sqS L b (hou b) (0, st, en) i).2.2))) n ?_ ?_ ?_ (by omega)
      · show ((0 : Int32), upR s 19 G) = (nI 0, upR s 19 (GG G st en))
        rw [GG_0 G h2 h3]; rfl
      · intro i hin
        obtain ⟨w, hw⟩ := q1 i hin
        have hii := hi i
        rw [sqS_s, stS_some hw]
        generalize sqS L b (hou b) (0, st, en) i = x at *
        obtain ⟨a, t, u⟩ := x
        have hw : hou b t u = some w := hw
        have hvB := ((hou_v b) _ _ _ hw).1
        show bX7_hours_20 (upR s 19 (GG G t u)) (nI a) = some (.inr (nI (a ||| 2 ^ w), upR s 19 (GG G (nxS L b u) (nxE L b u))))
        unfold bX7_hours_20
        have e4 : GG G t u 22 = -1 := by rw [GG_j _ _ _ (by omega) (by omega)]; exact h4
        rw [rd (GG G t u) t u rfl rfl e4 hii.1 hii.2.1, Option.bind_some, if_neg (fun z => by rw [(hN t u).mp z] at hw; cases hw), Option.bind_some, hw]
        show lt (nI a ||| ((1 : Int32) <<< (nI w &&& 31))) _ = _
        rw [sh_bit w (by omega), nI_or, lt_e, M_next hB hT (GG G t u) (e := u) (by rw [GG_j _ _ _ (by omega) (by omega)]; exact h1) rfl e4 hii.2.1, Option.bind_some]
        show some (Sum.inr (nI (a ||| 2 ^ w), upR s 19 (GG (GG G t u) (nxS L b u) (nxE L b u)))) = _
        rw [GG_G]
      · have hii := hi n
        generalize sqS L b (hou b) (0, st, en) n = x at *
        obtain ⟨a, t, u⟩ := x
        have q2 : hou b t u = none := q2
        show bX7_hours_20 (upR s 19 (GG G t u)) (nI a) = some (.inl (nI a, upR s 19 (GG G t u)))
        unfold bX7_hours_20
        rw [rd (GG G t u) t u rfl rfl (by rw [GG_j _ _ _ (by omega) (by omega)]; exact h4) hii.1 hii.2.1, Option.bind_some, if_pos ((hN t u).mpr q2)]
    rw [hl]; rfl
theorem M_courses {L : Nat} {b : Nat → Nat} (hB : Bt L b) {s : Mem} (hT : TM L b s) (G : Nat → Int32) (h1 : G 19 = nI L) (h4 : G 22 = -1) {st en : Nat} (h2 : G 20 = nI st) (h3 : G 21 = nI en) (hs : st ≤ en) (he : en ≤ L) : fX7_courses (upR s 19 G) = some (if (one3 b st en).isSome then (nI (rdS L b (one3 b) st en).1, upR s 19 (GG G (rdS L b (one3 b) st en).2.1 (rdS L b (one3 b) st en).2.2)) else (0, upR s 19 (upd G 22 (nI st)))) := by
  have hL := hB.1
  have hN : ∀ st en, (oI (one3 b st en) < (0 : Int32) ↔ one3 b st en = none) := fun st en => oI_neg _ (fun v hvv => by have := ((one3_v b) st en v hvv).1; omega)
  have rd : ∀ G' : Nat → Int32, ∀ st en, G' 20 = nI st → G' 21 = nI en → G' 22 = -1 → st ≤ en → en ≤ L → fX7_courseHere (upR s 19 G') = some (oI (one3 b st en)) := fun G' st en q2 q3 q4 q5 q6 => M_courseHere hB (TM_R hT G') (by rw [upR_s]; exact q2) (by rw [upR_s]; exact q3) (by rw [upR_s]; exact q4) q5 q6
  unfold fX7_courses
  rw [rd G st en h2 h3 h4 hs he, Option.bind_some]
  unfold gX7_courses_15
  cases e : one3 b st en with
  | none =>
    have hneg : oI (none : Option Nat) < (0 : Int32) := by decide
    obtain ⟨f, hf⟩ := f600
    have hp : ¬ nI st < (0 : Int32) := nI_pos (by omega)
    have hb : bX7_courses_18 (upR s 19 (upd G 22 (nI st))) (0 : Int32) = some (.inl ((0 : Int32), upR s 19 (upd G 22 (nI st)))) := by
      unfold bX7_courses_18
      have h0 : fX7_courseHere (upR s 19 (upd G 22 (nI st))) = some (-1) := by
        unfold fX7_courseHere
        have e22 : (upR s 19 (upd G 22 (nI st))).1 19 22 = nI st := by rw [upR_s, upd_s]
        rw [e22, if_pos (Int32.not_lt.mp hp)]
      rw [h0, Option.bind_some, if_pos (by decide)]
    rw [if_pos hneg, M_mustF G h2 h4, Option.bind_some, hf, lp_l (α := Int32 × Mem) (β := Int32 × Mem) (body := fun a => bX7_courses_18 a.2 a.1) (a := ((0 : Int32), upR s 19 (upd G 22 (nI st)))) hb]
    rfl
  | some v =>
    have hneg : ¬ oI (some v) < (0 : Int32) := fun z => by rw [← e, hN] at z; rw [z] at e; cases e
    rw [if_neg hneg, M_mustT G h4, Option.bind_some]
    obtain ⟨n, hn, q1, q2, q3⟩ := sq_end (L := L) (b := b) (nm := one3 b) hB (one3_v b) hs he
    have hi := sq_inv (L := L) (b := b) (nm := one3 b) (one3_v b) hs he
    have hl : lp (α := Int32 × Mem) (β := Int32 × Mem) (fun a => bX7_courses_18 a.2 a.1) 600 ((0 : Int32), upR s 19 G) = some (nI (rdS L b (one3 b) st en).1, upR s 19 (GG G (rdS L b (one3 b) st en).2.1 (rdS L b (one3 b) st en).2.2)) := by
      rw [q3]
      refine lp_at (α := Int32 × Mem) (β := Int32 × Mem) (fun i => (nI (sqS L b (one3 b) (0, st, en) i).1, upR s 19 (GG G (sqS L b (one3 b) (0, st, en) i).2.1 (sqS L b (one3 b) (0, st, en) i).2.2))) n ?_ ?_ ?_ (by omega)
      · show ((0 : Int32), upR s 19 G) = (nI 0, upR s 19 (GG G st en))
        rw [GG_0 G h2 h3]; rfl
      · intro i hin
        obtain ⟨w, hw⟩ := q1 i hin
        have hii := hi i
        rw [sqS_s, stS_some hw]
        generalize sqS L b (one3 b) (0, st, en) i = x at *
        obtain ⟨a, t, u⟩ := x
        have hw : one3 b t u = some w := hw
        have hvB := ((one3_v b) _ _ _ hw).1
        show bX7_courses_18 (upR s 19 (GG G t u)) (nI a) = some (.inr (nI (a ||| 2 ^ w), upR s 19 (GG G (nxS L b u) (nxE L b u))))
        unfold bX7_courses_18
        have e4 : GG G t u 22 = -1 := by rw [GG_j _ _ _ (by omega) (by omega)]; exact h4
        rw [rd (GG G t u) t u rfl rfl e4 hii.1 hii.2.1, Option.bind_some, if_neg (fun z => by rw [(hN t u).mp z] at hw; cases hw), Option.bind_some, hw]
        show lt (nI a ||| ((1 : Int32) <<< (nI w &&& 31))) _ = _
        rw [sh_bit w (by omega), nI_or, lt_e, M_next hB hT (GG G t u) (e := u) (by rw [GG_j _ _ _ (by omega) (by omega)]; exact h1) rfl e4 hii.2.1, Option.bind_some]
        show some (Sum.inr (nI (a ||| 2 ^ w), upR s 19 (GG (GG G t u) (nxS L b u) (nxE L b u)))) = _
        rw [GG_G]
      · have hii := hi n
        generalize sqS L b (one3 b) (0, st, en) n = x at *
        obtain ⟨a, t, u⟩ := x
        have q2 : one3 b t u = none := q2
        show bX7_courses_18 (upR s 19 (GG G t u)) (nI a) = some (.inl (nI a, upR s 19 (GG G t u)))
        unfold bX7_courses_18
        rw [rd (GG G t u) t u rfl rfl (by rw [GG_j _ _ _ (by omega) (by omega)]; exact h4) hii.1 hii.2.1, Option.bind_some, if_pos ((hN t u).mpr q2)]
    rw [hl]; rfl
