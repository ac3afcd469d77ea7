/-! text: words on the tape -/
def sk (P : Nat → Bool) : Nat → Nat → Nat
  | 0, e => e
  | k + 1, e => if P e = true then sk P k (e + 1) else e
theorem sk_sp (P : Nat → Bool) (L : Nat) : ∀ k e, e + k = L → e ≤ sk P k e ∧ sk P k e ≤ L ∧ (∀ j, e ≤ j → j < sk P k e → P j = true) ∧ (sk P k e = L ∨ P (sk P k e) = false)
  | 0, e, h => ⟨Nat.le_refl e, by show e ≤ L; omega, fun j h1 h2 => absurd h2 (by show ¬ j < e; omega), Or.inl (by show e = L; omega)⟩
  | k + 1, e, h => by
    have ih := sk_sp P L k (e + 1) (by omega)
    unfold sk
    by_cases q : P e = true
    · rw [if_pos q]
      refine ⟨by omega, ih.2.1, fun j h1 h2 => ?_, ih.2.2.2⟩
      by_cases e1 : j = e
      · rw [e1]; exact q
      · exact ih.2.2.1 j (by omega) h2
    · rw [if_neg q]
      refine ⟨Nat.le_refl e, by omega, fun j h1 h2 => by omega, Or.inr ?_⟩
      cases e2 : P e
      · rfl
      · exact absurd e2 q
def Bt (L : Nat) (b : Nat → Nat) : Prop := L ≤ 120 ∧ ∀ i, i < L → b i < 256
def nxS (L : Nat) (b : Nat → Nat) (e : Nat) : Nat := sk (fun j => decide (b j = 32)) (L - e) e
def nxE (L : Nat) (b : Nat → Nat) (e : Nat) : Nat := sk (fun j => decide (¬ b j = 32)) (L - nxS L b e) (nxS L b e)
theorem nxS_sp (L : Nat) (b : Nat → Nat) (e : Nat) (h : e ≤ L) : e ≤ nxS L b e ∧ nxS L b e ≤ L ∧ (∀ j, e ≤ j → j < nxS L b e → b j = 32) ∧ (nxS L b e < L → ¬ b (nxS L b e) = 32) := by
  have q := sk_sp (fun j => decide (b j = 32)) L (L - e) e (by omega)
  refine ⟨q.1, q.2.1, fun j h1 h2 => of_decide_eq_true (q.2.2.1 j h1 h2), fun h1 => ?_⟩
  rcases q.2.2.2 with q | q
  · unfold nxS at h1; omega
  · exact of_decide_eq_false q
theorem nxE_sp (L : Nat) (b : Nat → Nat) (e : Nat) (h : e ≤ L) : nxS L b e ≤ nxE L b e ∧ nxE L b e ≤ L ∧ (∀ j, nxS L b e ≤ j → j < nxE L b e → ¬ b j = 32) ∧ (nxE L b e < L → b (nxE L b e) = 32) := by
  have h2 := (nxS_sp L b e h).2.1
  have q := sk_sp (fun j => decide (¬ b j = 32)) L (L - nxS L b e) (nxS L b e) (by omega)
  refine ⟨q.1, q.2.1, fun j h1 h2 => of_decide_eq_true (q.2.2.1 j h1 h2), fun h1 => ?_⟩
  rcases q.2.2.2 with q | q
  · unfold nxE at h1; omega
  · exact Decidable.of_not_not (of_decide_eq_false q)
theorem nx_full (L : Nat) (b : Nat → Nat) (e : Nat) (h : e ≤ L) (h2 : nxS L b e < L) : nxS L b e < nxE L b e := by
  have q1 := nxS_sp L b e h
  have q2 := nxE_sp L b e h
  by_cases e1 : nxS L b e = nxE L b e
  · exact absurd (by rw [e1]; exact q2.2.2.2 (by omega)) (q1.2.2.2 h2)
  · omega
theorem upd_s {f : Nat → Int32} {k : Nat} {x : Int32} : upd f k x k = x := if_pos rfl
theorem upd_n {f : Nat → Int32} {k j : Nat} {x : Int32} (h : j ≠ k) : upd f k x j = f j := if_neg h
theorem up2_upRk (s : Mem) (k : Nat) (F : Nat → Int32) (j : Nat) (x : Int32) : up2 (upR s k F) k j x = upR s k (upd F j x) := by rw [up2_R, upR_s, upR_R]
def TC (L : Nat) (b : Nat → Nat) (m : Mem) : Prop := ∀ i, i < L → m.1 13 i = (nI (b i)).toInt8.toInt32
def TM (L : Nat) (b : Nat → Nat) (m : Mem) : Prop := ∀ i, i < L → m.1 28 i = nI (b i)
theorem C_next {L : Nat} {b : Nat → Nat} (hB : Bt L b) {s : Mem} (hT : TC L b s) (F : Nat → Int32) {e : Nat} (h1 : F 1 = nI L) (h3 : F 3 = nI e) (he : e ≤ L) : fX5_nextWord (upR s 12 F) = some (upR s 12 (upd (upd F 2 (nI (nxS L b e))) 3 (nI (nxE L b e)))) := by
  have hL := hB.1
  have q1 := nxS_sp L b e he
  have q2 := nxE_sp L b e he
  generalize nxS L b e = t at *
  generalize nxE L b e = u at *
  have l1 : lp (α := Mem) (β := Mem) (fun a => bX5_nextWord_8 a) 600 (upR s 12 (upd F 2 (nI e))) = some (upR s 12 (upd F 2 (nI t))) := by
    refine lp_at (α := Mem) (β := Mem) (fun i => upR s 12 (upd F 2 (nI (e + i)))) (t - e) rfl ?_ ?_ (by omega)
    · intro i hi
      show bX5_nextWord_8 (upR s 12 (upd F 2 (nI (e + i)))) = _
      unfold bX5_nextWord_8
      rw [upR_s, upd_n (by omega), upd_s, h1, if_neg (by rw [nI_leI (by omega) (by omega)]; omega), gd_in (by omega) (by omega), upR_n (by omega), nI_clamp (by omega), hT (e + i) (by omega), if_pos ((b13_32 (hB.2 (e + i) (by omega))).mpr (q1.2.2.1 (e + i) (by omega) (by omega))), up2_upRk, upd_upd, lt_e, nI_p1, Nat.add_assoc]
    · rw [show e + (t - e) = t from by omega]
      unfold bX5_nextWord_8
      rw [upR_s, upd_n (by omega), upd_s, h1]
      by_cases e1 : t = L
      · rw [if_pos (by rw [nI_leI (by omega) (by omega)]; omega)]
      · rw [if_neg (by rw [nI_leI (by omega) (by omega)]; omega), gd_in (by omega) (by omega), upR_n (by omega), nI_clamp (by omega), hT t (by omega), if_neg (fun z => q1.2.2.2 (by omega) ((b13_32 (hB.2 _ (by omega))).mp z))]
  have l2 : lp (α := Mem) (β := Mem) (fun a => bX5_nextWord_54 a) 600 (upR s 12 (upd (upd F 2 (nI t)) 3 (nI t))) = some (upR s 12 (upd (upd F 2 (nI t)) 3 (nI u))) := by
    refine lp_at (α := Mem) (β := Mem) (fun i => upR s 12 (upd (upd F 2 (nI t)) 3 (nI (t + i)))) (u - t) rfl ?_ ?_ (by omega)
    · intro i hi
      show bX5_nextWord_54 (upR s 12 (upd (upd F 2 (nI t)) 3 (nI (t + i)))) = _
      unfold bX5_nextWord_54
      rw [upR_s, upd_n (by omega), upd_n (by omega), upd_s, h1, if_neg (by rw [nI_leI (by omega) (by omega)]; omega), gd_in (by omega) (by omega), upR_n (by omega), nI_clamp (by omega), hT (t + i) (by omega), if_neg (fun z => q2.2.2.1 (t + i) (by omega) (by omega) ((b13_32 (hB.2 _ (by omega))).mp z)), up2_upRk, upd_upd, lt_e, nI_p1, Nat.add_assoc]
    · rw [show t + (u - t) = u from by omega]
      unfold bX5_nextWord_54
      rw [upR_s, upd_n (by omega), upd_n (by omega), upd_s, h1]
      by_cases e1 : u = L
      · rw [if_pos (by rw [nI_leI (by omega) (by omega)]; omega)]
      · rw [if_neg (by rw [nI_leI (by omega) (by omega)]; omega), gd_in (by omega) (by omega), upR_n (by omega), nI_clamp (by omega), hT u (by omega), if_pos ((b13_32 (hB.2 _ (by omega))).mpr (q2.2.2.2 (by omega)))]
  unfold fX5_nextWord
  rw [lt_e, up2_upRk, upR_s, h3, l1, Option.bind_some, lt_e, up2_upRk, upR_s, upd_s, l2, Option.bind_some]
theorem M_blank {L : Nat} {b : Nat → Nat} (hB : Bt L b) {s : Mem} (hT : TM L b s) {j : Nat} (hj : j < L) : fX7_isBlank s (nI j) = some (bi (decide (b j = 32))) := by
  have hL := hB.1
  have hb := hB.2 j hj
  unfold fX7_isBlank
  rw [gd_in (by omega) (by omega), nI_clamp (by omega), hT j hj]
  by_cases e : b j = 32
  · rw [e]; rfl
  · rw [if_neg (show ¬ nI (b j) = (32 : Int32) from fun z => e ((nI_eq (b := 32) (by omega) (by omega)).mp z)), decide_eq_false e]; rfl
theorem M_next {L : Nat} {b : Nat → Nat} (hB : Bt L b) {s : Mem} (hT : TM L b s) (G : Nat → Int32) {e : Nat} (h1 : G 19 = nI L) (h3 : G 21 = nI e) (h22 : G 22 = -1) (he : e ≤ L) : fX7_goesOn (upR s 19 G) = some (upR s 19 (upd (upd G 20 (nI (nxS L b e))) 21 (nI (nxE L b e)))) := by
  have hL := hB.1
  have q1 := nxS_sp L b e he
  have q2 := nxE_sp L b e he
  generalize nxS L b e = t at *
  generalize nxE L b e = u at *
  have hT' : ∀ G', TM L b (upR s 19 G') := fun G' i hi => by rw [upR_n (by omega)]; exact hT i hi
  have l1 : lp (α := Mem) (β := Mem) (fun a => bX7_goesOn_16 a) 600 (upR s 19 (upd G 20 (nI e))) = some (upR s 19 (upd G 20 (nI t))) := by
    refine lp_at (α := Mem) (β := Mem) (fun i => upR s 19 (upd G 20 (nI (e + i)))) (t - e) rfl ?_ ?_ (by omega)
    · intro i hi
      show bX7_goesOn_16 (upR s 19 (upd G 20 (nI (e + i)))) = _
      unfold bX7_goesOn_16
      rw [upR_s, upd_n (by omega), upd_s, h1, if_neg (by rw [nI_leI (by omega) (by omega)]; omega), M_blank hB (hT' _) (by omega), Option.bind_some, decide_eq_true (q1.2.2.1 (e + i) (by omega) (by omega)), if_neg (show ¬ bi true = (0 : Int32) from by decide), up2_upRk, upd_upd, lt_e, nI_p1, Nat.add_assoc]
    · rw [show e + (t - e) = t from by omega]
      unfold bX7_goesOn_16
      rw [upR_s, upd_n (by omega), upd_s, h1]
      by_cases e1 : t = L
      · rw [if_pos (by rw [nI_leI (by omega) (by omega)]; omega)]
      · rw [if_neg (by rw [nI_leI (by omega) (by omega)]; omega), M_blank hB (hT' _) (by omega), Option.bind_some, decide_eq_false (q1.2.2.2 (by omega)), if_pos (show bi false = (0 : Int32) from rfl)]
  have l2 : lp (α := Mem) (β := Mem) (fun a => bX7_goesOn_59 a) 600 (upR s 19 (upd (upd G 20 (nI t)) 21 (nI t))) = some (upR s 19 (upd (upd G 20 (nI t)) 21 (nI u))) := by
    refine lp_at (α := Mem) (β := Mem) (fun i => upR s 19 (upd (upd G 20 (nI t)) 21 (nI (t + i)))) (u - t) rfl ?_ ?_ (by omega)
    · intro i hi
      show bX7_goesOn_59 (upR s 19 (upd (upd G 20 (nI t)) 21 (nI (t + i)))) = _
      unfold bX7_goesOn_59
      rw [upR_s, upd_n (by omega), upd_n (by omega), upd_s, h1, if_neg (by rw [nI_leI (by omega) (by omega)]; omega), M_blank hB (hT' _) (by omega), Option.bind_some, decide_eq_false (q2.2.2.1 (t + i) (by omega) (by omega)), if_pos (show bi false = (0 : Int32) from rfl), up2_upRk, upd_upd, lt_e, nI_p1, Nat.add_assoc]
    · rw [show t + (u - t) = u from by omega]
      unfold bX7_goesOn_59
      rw [upR_s, upd_n (by omega), upd_n (by omega), upd_s, h1]
      by_cases e1 : u = L
      · rw [if_pos (by rw [nI_leI (by omega) (by omega)]; omega)]
      · rw [if_neg (by rw [nI_leI (by omega) (by omega)]; omega), M_blank hB (hT' _) (by omega), Option.bind_some, decide_eq_true (q2.2.2.2 (by omega)), if_neg (show ¬ bi true = (0 : Int32) from by decide)]
  unfold fX7_goesOn
  rw [upR_s, h22, if_pos (by decide), lt_e, up2_upRk, h3, l1, Option.bind_some, lt_e, up2_upRk, upR_s, upd_s, l2, Option.bind_some]
