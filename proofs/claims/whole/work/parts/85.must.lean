/-! the class: who must sit; what is told of a seating; it becomes so -/
def mustC (c : SCx) (p : Nat) : SCx := (c.1, fun k dg => if dg = 0 then cAl c k 0 && !(decide (k = p) || decide (cH c k ≠ 0)) else cAl c k dg, c.2.2)
theorem must_ps {c : SCx} {ps : Nat → Bool} (p : Nat) (h : psOK c ps) : psOK (mustC c p) ps := by
  intro k hk t ht ha so hs hp
  exact h k hk t ht ha so hs hp
theorem C_mustSit {m : Mem} {c : SCx} {p : Nat} (h : PrepM m c) (hp : p < cN c) : ∃ m2, fX3_mustSit m (nI p) = some m2 ∧ PrepM m2 (mustC c p) ∧ (∀ a, a ≠ 7 → m2.1 a = m.1 a) ∧ m2.2 = m.2 := by
  obtain ⟨h1, h2, h3, h4, h5, h6⟩ := h
  have key : ∃ m2, lp (fun a => bX3_mustSit_2 a.2 (nI p) a.1) 600 ((0 : Int32), m) = some m2 ∧ ((∀ a, a ≠ 7 → m2.1 a = m.1 a) ∧ m2.2 = m.2 ∧ ∀ k, k < cN c → m2.1 7 k = if k < cN c ∧ (k = p ∨ cH c k ≠ 0) then m.1 7 k &&& (-2) else m.1 7 k) := by
    refine lp_inv (α := Int32 × Mem) (β := Mem) (fun i a => a.1 = nI i ∧ (∀ b, b ≠ 7 → a.2.1 b = m.1 b) ∧ a.2.2 = m.2 ∧ ∀ k, k < cN c → a.2.1 7 k = if k < i ∧ (k = p ∨ cH c k ≠ 0) then m.1 7 k &&& (-2) else m.1 7 k) (fun m2 => (∀ a, a ≠ 7 → m2.1 a = m.1 a) ∧ m2.2 = m.2 ∧ ∀ k, k < cN c → m2.1 7 k = if k < cN c ∧ (k = p ∨ cH c k ≠ 0) then m.1 7 k &&& (-2) else m.1 7 k) (cN c) ?_ ?_ (by omega) ⟨rfl, fun _ _ => rfl, rfl, fun k hk => by rw [if_neg (by omega)]⟩
    · rintro i ⟨x, m'⟩ hi ⟨q1, q2, q3, q4⟩
      simp only at q1 q2 q3 q4
      subst q1
      left
      have r1 : (nI i = nI p) ↔ i = p := nI_eq (by omega) (by omega)
      have r2 : (nI (cH c i) = (0 : Int32)) ↔ cH c i = 0 := nI_eq (b := 0) (by have := (h4 i hi).2; omega) (by omega)
      have e7 : m'.1 7 i = m.1 7 i := by rw [q4 i hi, if_neg (by omega)]
      have upd_ok : (i = p ∨ cH c i ≠ 0) → gX3_mustSit_24 m' (nI p) (nI i) = some (.inr (nI (i + 1), up2 m' 7 i (m.1 7 i &&& (-2)))) ∧ ∀ k, k < cN c → (up2 m' 7 i (m.1 7 i &&& (-2))).1 7 k = if k < i + 1 ∧ (k = p ∨ cH c k ≠ 0) then m.1 7 k &&& (-2) else m.1 7 k := by
        intro hc
        refine ⟨?_, fun k hk => ?_⟩
        · unfold gX3_mustSit_24
          rw [gd_in (by omega) (by omega), gd_in (by omega) (by omega), nI_clamp (by omega), lt_e, lt_e, nI_p1, e7]
        · rw [up2_s]
          by_cases z : k = i
          · subst z; rw [pk_us, if_pos ⟨by omega, hc⟩]
          · rw [pk_un z, q4 k hk]
            by_cases y : k < i ∧ (k = p ∨ cH c k ≠ 0)
            · rw [if_pos y, if_pos ⟨by omega, y.2⟩]
            · rw [if_neg y, if_neg (fun w => y ⟨by omega, w.2⟩)]
      show ∃ a', bX3_mustSit_2 m' (nI p) (nI i) = some (.inr a') ∧ _
      unfold bX3_mustSit_2
      rw [q2 5 (by omega), h2, if_neg (nI_cn hi h1), gd_in (by omega) (by omega), nI_clamp (by omega), q2 8 (by omega), (h4 i hi).1, lt_e, nI_p1]
      simp only [r1, r2]
      by_cases z1 : i = p
      · obtain ⟨u1, u2⟩ := upd_ok (Or.inl z1)
        rw [if_pos z1, u1]
        exact ⟨_, rfl, rfl, fun b hb => (up2_n hb).trans (q2 b hb), q3, u2⟩
      · rw [if_neg z1]
        by_cases z2 : cH c i = 0
        · rw [if_pos z2]
          refine ⟨_, rfl, rfl, q2, q3, fun k hk => ?_⟩
          show m'.1 7 k = _
          rw [q4 k hk]
          by_cases y : k < i ∧ (k = p ∨ cH c k ≠ 0)
          · rw [if_pos y, if_pos ⟨by omega, y.2⟩]
          · rw [if_neg y, if_neg]
            rintro ⟨w1, w2⟩
            by_cases w3 : k = i
            · subst w3; rcases w2 with w | w
              · exact z1 w
              · exact w z2
            · exact y ⟨by omega, w2⟩
        · obtain ⟨u1, u2⟩ := upd_ok (Or.inr z2)
          rw [if_neg z2, u1]
          exact ⟨_, rfl, rfl, fun b hb => (up2_n hb).trans (q2 b hb), q3, u2⟩
    · rintro ⟨x, m'⟩ ⟨q1, q2, q3, q4⟩
      simp only at q1 q2 q3 q4
      subst q1
      refine ⟨m', ?_, q2, q3, q4⟩
      show bX3_mustSit_2 m' (nI p) (nI (cN c)) = _
      unfold bX3_mustSit_2
      rw [q2 5 (by omega), h2, if_pos (nI_le (Nat.le_refl _) (by omega))]
  obtain ⟨m2, k1, k2, k3, k4⟩ := key
  refine ⟨m2, by unfold fX3_mustSit; rw [k1]; rfl, ⟨h1, by rw [k2 5 (by omega)]; exact h2, fun k hk dg hd => ?_, fun k hk => by rw [k2 8 (by omega)]; exact h4 k hk, fun so hs w hw => by rw [k2 10 (by omega)]; exact h5 so hs w hw, fun so hs => by rw [k2 11 (by omega)]; exact h6 so hs⟩, k2, k3⟩
  have hb := h3 k hk dg hd
  rw [k4 k hk]
  have hA : cAl (mustC c p) k dg = if dg = 0 then cAl c k 0 && !(decide (k = p) || decide (cH c k ≠ 0)) else cAl c k dg := rfl
  rw [hA]
  have hk' : k < cN c := hk
  by_cases z : k = p ∨ cH c k ≠ 0
  · rw [if_pos ⟨hk', z⟩, and_m2 _ hd]
    by_cases y : dg = 0
    · rw [if_pos y]
      have : (decide (k = p) || decide (cH c k ≠ 0)) = true := by
        rcases z with w | w
        · rw [decide_eq_true w]; rfl
        · rw [decide_eq_true w, Bool.or_true]
      rw [this]
      simp [y]
    · rw [if_neg y]
      constructor
      · rintro (w | w)
        · exact absurd w y
        · exact hb.mp w
      · intro w; exact Or.inr (hb.mpr w)
  · rw [if_neg (fun w => z w.2)]
    by_cases y : dg = 0
    · rw [if_pos y]
      have : (decide (k = p) || decide (cH c k ≠ 0)) = false := by
        rw [decide_eq_false (fun w => z (Or.inl w)), decide_eq_false (fun w => z (Or.inr w))]; rfl
      rw [this, Bool.not_false, Bool.and_true]
      subst y; exact hb
    · rw [if_neg y]; exact hb
def putN (D : Nat → Nat) : Nat → Nat := itr (fun k a => if D k = 0 then a else a + 1) 0
theorem putN_s (D : Nat → Nat) (i : Nat) : putN D (i + 1) = if D i = 0 then putN D i else putN D i + 1 := rfl
def movN (H D : Nat → Nat) : Nat → Nat := itr (fun k a => if H k = 0 ∨ H k = D k then a else a + 1) 0
theorem movN_s (H D : Nat → Nat) (i : Nat) : movN H D (i + 1) = if H i = 0 ∨ H i = D i then movN H D i else movN H D i + 1 := rfl
theorem putN_le (D : Nat → Nat) : ∀ n, putN D n ≤ n
  | 0 => Nat.le_refl 0
  | n + 1 => by have := putN_le D n; rw [putN_s]; split <;> omega
theorem movN_le (H D : Nat → Nat) : ∀ n, movN H D n ≤ n
  | 0 => Nat.le_refl 0
  | n + 1 => by have := movN_le H D n; rw [movN_s]; split <;> omega
theorem C_seated {m : Mem} {n : Nat} {D : Nat → Nat} (hn : n ≤ 6) (h56 : m.1 5 6 = nI n) (h9 : ∀ k, k < n → m.1 9 k = nI (D k) ∧ D k < 9) : fX3_seated m = some (nI (putN D n)) := by
  have hs : ∀ i, i < n → bX3_seated_4 m (nI (putN D i)) (nI i) = some (.inr (nI (putN D (i + 1)), nI (i + 1))) := by
    intro i hi
    have r : (nI (D i) = (0 : Int32)) ↔ D i = 0 := nI_eq (b := 0) (by have := (h9 i hi).2; omega) (by omega)
    unfold bX3_seated_4
    rw [h56, if_neg (nI_cn hi hn), gd_in (by omega) (by omega), nI_clamp (by omega), (h9 i hi).1, putN_s]
    simp only [lt_e, nI_p1, r]
    by_cases q : D i = 0
    · rw [if_pos q, if_pos q]
    · rw [if_neg q, if_neg q]
  have he : bX3_seated_4 m (nI (putN D n)) (nI n) = some (.inl (nI (putN D n))) := by
    unfold bX3_seated_4
    rw [h56, if_pos (nI_le (Nat.le_refl n) (by omega))]
  unfold fX3_seated
  rw [lp_at (body := fun a => bX3_seated_4 m a.1 a.2) (a := ((0 : Int32), (0 : Int32))) (k := 600) (fun i => (nI (putN D i), nI i)) n rfl hs he (by omega)]
  rfl
theorem C_moved {m : Mem} {n : Nat} {H D : Nat → Nat} (hn : n ≤ 6) (h56 : m.1 5 6 = nI n) (h8 : ∀ k, k < n → m.1 8 k = nI (H k) ∧ H k < 9) (h9 : ∀ k, k < n → m.1 9 k = nI (D k) ∧ D k < 9) : fX3_moved m = some (nI (movN H D n)) := by
  have hs : ∀ i, i < n → bX3_moved_4 m (nI (movN H D i)) (nI i) = some (.inr (nI (movN H D (i + 1)), nI (i + 1))) := by
    intro i hi
    have b8 := (h8 i hi).2
    have b9 := (h9 i hi).2
    have r : (nI (H i) = (0 : Int32)) ↔ H i = 0 := nI_eq (b := 0) (by omega) (by omega)
    have r2 : (nI (D i) = nI (H i)) ↔ D i = H i := nI_eq (by omega) (by omega)
    unfold bX3_moved_4
    rw [h56, if_neg (nI_cn hi hn), gd_in (by omega) (by omega), gd_in (by omega) (by omega), gd_in (by omega) (by omega), nI_clamp (by omega), (h9 i hi).1, (h8 i hi).1, movN_s]
    simp only [lt_e, nI_p1, r, r2]
    by_cases q : H i = 0
    · rw [if_pos q, if_pos (Or.inl q)]
    · rw [if_neg q]
      by_cases q2 : D i = H i
      · rw [if_pos q2, if_pos (Or.inr q2.symm)]
      · rw [if_neg q2, if_neg (by omega)]
  have he : bX3_moved_4 m (nI (movN H D n)) (nI n) = some (.inl (nI (movN H D n))) := by
    unfold bX3_moved_4
    rw [h56, if_pos (nI_le (Nat.le_refl n) (by omega))]
  unfold fX3_moved
  rw [lp_at (body := fun a => bX3_moved_4 m a.1 a.2) (a := ((0 : Int32), (0 : Int32))) (k := 600) (fun i => (nI (movN H D i), nI i)) n rfl hs he (by omega)]
  rfl
/-- a seating on the two rows -/
def dgI (d : Nat) : Int32 := nI d - 1
def bsF (cs : Nat) (D : Nat → Nat) (f : Nat → Int32) : Nat → (Nat → Int32) := itr (fun p F => upd F (99 + 7 * p + cs) (dgI (D p))) f
def bsG (cs : Nat) (D : Nat → Nat) (g : Nat → Int32) : Nat → (Nat → Int32) := itr (fun p G => upd G (100 + 7 * p + cs) (dgI (D p))) g
theorem bsF_s (cs : Nat) (D : Nat → Nat) (f : Nat → Int32) (i : Nat) : bsF cs D f (i + 1) = upd (bsF cs D f i) (99 + 7 * i + cs) (dgI (D i)) := rfl
theorem bsG_s (cs : Nat) (D : Nat → Nat) (g : Nat → Int32) (i : Nat) : bsG cs D g (i + 1) = upd (bsG cs D g i) (100 + 7 * i + cs) (dgI (D i)) := rfl
theorem bsG_low (cs : Nat) (D : Nat → Nat) (g : Nat → Int32) : ∀ i j, j < 97 → bsG cs D g i j = g j
  | 0, j, _ => rfl
  | i + 1, j, h => by rw [bsG_s, pk_un (by omega)]; exact bsG_low cs D g i j h
/-- digits that stand for lawful triples or none -/
def dgOK (g : Nat → Int32) (cs n : Nat) (D : Nat → Nat) : Prop := ∀ p, p < n → D p < 9 ∧ (D p ≠ 0 → lawG g cs (D p - 1) = true)
theorem Gd_bs {f g : Nat → Int32} {n cs : Nat} {D : Nat → Nat} (hS : SG f g) (hP : PG f g n) (hcs : cs < 4) (hD : dgOK g cs n D) : ∀ i, i ≤ n → SG (bsF cs D f i) (bsG cs D g i) ∧ PG (bsF cs D f i) (bsG cs D g i) n
  | 0, _ => ⟨hS, hP⟩
  | i + 1, hi => by
    have ih := Gd_bs hS hP hcs hD i (by omega)
    rw [bsF_s, bsG_s]
    refine Gd_sits ih.1 ih.2 (by omega) hcs ?_
    obtain ⟨h9, hl⟩ := hD i (by omega)
    by_cases q : D i = 0
    · left; unfold dgI; rw [q]; rfl
    · right
      refine ⟨D i - 1, by omega, ?_, ?_⟩
      · unfold dgI; rw [show (1 : Int32) = nI 1 from rfl, pk_sub (by omega)]
      · rw [law_cg (g := g) (fun j hj => bsG_low cs D g i j (by omega)) hcs (by omega)]; exact hl q
theorem C_becomesSo {m : Mem} {n cs : Nat} {D : Nat → Nat} (hn : n ≤ 6) (hcs : cs < 4) (h56 : m.1 5 6 = nI n) (h9 : ∀ k, k < n → m.1 9 k = nI (D k)) : fX3_becomesSo m (nI cs) = some (upR m 2 (bsF cs D (m.1 2) n)) := by
  have hs : ∀ i, i < n → bX3_becomesSo_2 (upR m 2 (bsF cs D (m.1 2) i)) (nI cs) (nI i) = some (.inr (nI (i + 1), upR m 2 (bsF cs D (m.1 2) (i + 1)))) := by
    intro i hi
    unfold bX3_becomesSo_2
    rw [upR_n (by omega), h56, if_neg (nI_cn hi hn), gd_in (by omega) (by omega), nI_clamp (by omega), upR_n (by omega), h9 i hi, sits_up _ _ _ (by omega) hcs, Option.bind_some, lt_e, nI_p1, bsF_s]
    rfl
  have he : bX3_becomesSo_2 (upR m 2 (bsF cs D (m.1 2) n)) (nI cs) (nI n) = some (.inl (upR m 2 (bsF cs D (m.1 2) n))) := by
    unfold bX3_becomesSo_2
    rw [upR_n (by omega), h56, if_pos (nI_le (Nat.le_refl n) (by omega))]
  unfold fX3_becomesSo
  rw [lp_at (body := fun a => bX3_becomesSo_2 a.2 (nI cs) a.1) (a := ((0 : Int32), m)) (k := 600) (fun i => (nI i, upR m 2 (bsF cs D (m.1 2) i))) n (by show _ = ((0 : Int32), upR m 2 (m.1 2)); rw [upR_id]) hs he (by omega)]
  rfl
