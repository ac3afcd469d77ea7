/-! the reference: a seating looked at -/
def wtR (ev : Bool) (wh : Option Nat) : Int × Int × Int := match wh with
  | none => (10000, if ev then 100 else 0, 1)
  | some _ => (0, 0, 1)
def cmR (f g : Nat → Int32) (n cs : Nat) (ev : Bool) (wh : Option Nat) : SCx := match wh with
  | none => baseC f g n cs (wtR ev none)
  | some p => mustC (baseC f g n cs (wtR ev (some p))) p
def whI : Option Nat → Int32
  | none => -1
  | some p => nI p
theorem cm_N (f g : Nat → Int32) (n cs : Nat) (ev : Bool) (wh : Option Nat) : cN (cmR f g n cs ev wh) = n := by cases wh <;> rfl
theorem cm_H (f g : Nat → Int32) (n cs : Nat) (ev : Bool) (wh : Option Nat) : cH (cmR f g n cs ev wh) = hadG g cs := by cases wh <;> rfl
theorem cm_A (f g : Nat → Int32) (n cs : Nat) (ev : Bool) (wh : Option Nat) (k t : Nat) : cAl (cmR f g n cs ev wh) k (t + 1) = mayG g cs k t := by cases wh <;> rfl
theorem cm_hold (f g : Nat → Int32) (n cs : Nat) (ev : Bool) (wh : Option Nat) (w : Int × Int × Int) (st : St) : hold (cmR f g n cs ev wh) st = hold (baseC f g n cs w) st := by cases wh <;> rfl
theorem cm_gap (f g : Nat → Int32) (n cs : Nat) (ev : Bool) (wh : Option Nat) (w : Int × Int × Int) (st : St) : gapS (cmR f g n cs ev wh) st = gapS (baseC f g n cs w) st := by cases wh <;> rfl
theorem cm_M (f g : Nat → Int32) (n cs : Nat) (ev : Bool) (wh : Option Nat) : cM (cmR f g n cs ev wh) = 1 := by cases wh <;> rfl
theorem cm_S (f g : Nat → Int32) (n cs : Nat) (ev : Bool) (wh : Option Nat) : cS (cmR f g n cs ev wh) = if wh = none then 10000 else 0 := by cases wh <;> rfl
theorem cm_G (f g : Nat → Int32) (n cs : Nat) (ev : Bool) (wh : Option Nat) : cG (cmR f g n cs ev wh) = if wh = none then (if ev then 100 else 0) else 0 := by cases wh <;> rfl
/-- one who must sit doesn't -/
def vi1 (wh : Option Nat) (H D : Nat → Nat) (q : Nat) : Bool := match wh with
  | none => false
  | some p => decide (D q = 0) && (decide (q = p) || decide (H q ≠ 0))
def vioB (wh : Option Nat) (H D : Nat → Nat) : Nat → Bool := itr (fun q a => a || vi1 wh H D q) false
theorem vioB_s (wh : Option Nat) (H D : Nat → Nat) (k : Nat) : vioB wh H D (k + 1) = (vioB wh H D k || vi1 wh H D k) := rfl
theorem vio_mono {wh : Option Nat} {H D : Nat → Nat} {i : Nat} (h : vioB wh H D i = true) : ∀ j, vioB wh H D (i + j) = true
  | 0 => h
  | j + 1 => by rw [← Nat.add_assoc, vioB_s, vio_mono h j]; rfl
theorem vi1_A (f g : Nat → Int32) (n cs : Nat) (ev : Bool) (wh : Option Nat) (D : Nat → Nat) (k : Nat) : vi1 wh (hadG g cs) D k = (decide (D k = 0) && !cAl (cmR f g n cs ev wh) k 0) := by
  cases wh with
  | none => show false = (decide (D k = 0) && !true); rw [Bool.not_true, Bool.and_false]
  | some p =>
    show (decide (D k = 0) && (decide (k = p) || decide (hadG g cs k ≠ 0))) = (decide (D k = 0) && !(true && !(decide (k = p) || decide (hadG g cs k ≠ 0))))
    rw [Bool.true_and, Bool.not_not]
def stF (D : Nat → Nat) : Nat → St
  | 0 => st00
  | k + 1 => stN (stF D k) (D k)
def dl (D : Nat → Nat) : Nat → List Nat
  | 0 => []
  | k + 1 => dl D k ++ [D k]
def pvN (c : SCx) (D : Nat → Nat) : Nat → Int
  | 0 => 0
  | k + 1 => pvN c D k + joinC c k (D k)
theorem dl_len (D : Nat → Nat) : ∀ k, (dl D k).length = k
  | 0 => rfl
  | k + 1 => by show (dl D k ++ [D k]).length = k + 1; rw [List.length_append, dl_len D k]; rfl
theorem dl_get (D : Nat → Nat) : ∀ k p, p < k → (dl D k).getD p 0 = D p
  | 0, p, h => by omega
  | k + 1, p, h => by
    show (dl D k ++ [D k]).getD p 0 = D p
    rw [List.getD_eq_getElem?_getD]
    by_cases q : p < k
    · rw [List.getElem?_append_left (by rw [dl_len]; exact q), ← List.getD_eq_getElem?_getD]
      exact dl_get D k p q
    · have e : p = k := by omega
      subst e
      rw [List.getElem?_append_right (by rw [dl_len]; exact Nat.le_refl _), dl_len, Nat.sub_self]
      rfl
theorem stF_cg {D D' : Nat → Nat} : ∀ k, (∀ p, p < k → D p = D' p) → stF D k = stF D' k
  | 0, _ => rfl
  | k + 1, h => by show stN (stF D k) (D k) = stN (stF D' k) (D' k); rw [h k (by omega), stF_cg k (fun p hp => h p (by omega))]
theorem dl_cg {D D' : Nat → Nat} : ∀ k, (∀ p, p < k → D p = D' p) → dl D k = dl D' k
  | 0, _ => rfl
  | k + 1, h => by show dl D k ++ [D k] = dl D' k ++ [D' k]; rw [h k (by omega), dl_cg k (fun p hp => h p (by omega))]
theorem pvN_cg {c : SCx} {D D' : Nat → Nat} : ∀ k, (∀ p, p < k → D p = D' p) → pvN c D k = pvN c D' k
  | 0, _ => rfl
  | k + 1, h => by show pvN c D k + joinC c k (D k) = pvN c D' k + joinC c k (D' k); rw [h k (by omega), pvN_cg k (fun p hp => h p (by omega))]
theorem vio_cg {wh : Option Nat} {H D D' : Nat → Nat} : ∀ k, (∀ p, p < k → D p = D' p) → vioB wh H D k = vioB wh H D' k
  | 0, _ => rfl
  | k + 1, h => by
    have e : vi1 wh H D k = vi1 wh H D' k := by unfold vi1; rw [h k (by omega)]
    rw [vioB_s, vioB_s, e, vio_cg k (fun p hp => h p (by omega))]
theorem putN_cg {D D' : Nat → Nat} : ∀ k, (∀ p, p < k → D p = D' p) → putN D k = putN D' k
  | 0, _ => rfl
  | k + 1, h => by rw [putN_s, putN_s, h k (by omega), putN_cg k (fun p hp => h p (by omega))]
theorem movN_cg {H D D' : Nat → Nat} : ∀ k, (∀ p, p < k → D p = D' p) → movN H D k = movN H D' k
  | 0, _ => rfl
  | k + 1, h => by rw [movN_s, movN_s, h k (by omega), movN_cg k (fun p hp => h p (by omega))]
theorem pvN_v (c : SCx) (D : Nat → Nat) : ∀ k, pvN c D k = cS c * (putN D k : Int) - cM c * (movN (cH c) D k : Int)
  | 0 => by show (0 : Int) = cS c * 0 - cM c * 0; rw [Int.mul_zero, Int.mul_zero]; rfl
  | k + 1 => by
    have ih := pvN_v c D k
    show pvN c D k + joinC c k (D k) = _
    rw [ih, putN_s, movN_s]
    unfold joinC
    by_cases q1 : D k = 0
    · by_cases q2 : cH c k = 0 ∨ cH c k = D k
      · rw [if_pos q1, if_pos q2, if_pos q1, if_pos q2]; omega
      · rw [if_pos q1, if_neg q2, if_pos q1, if_neg q2, Int.natCast_add, Int.mul_add, Int.natCast_one, Int.mul_one]; omega
    · by_cases q2 : cH c k = 0 ∨ cH c k = D k
      · rw [if_neg q1, if_pos q2, if_neg q1, if_pos q2, Int.natCast_add, Int.mul_add, Int.natCast_one, Int.mul_one]; omega
      · rw [if_neg q1, if_neg q2, if_neg q1, if_neg q2, Int.natCast_add, Int.mul_add, Int.natCast_one, Int.mul_one, Int.natCast_add, Int.mul_add, Int.natCast_one, Int.mul_one]; omega
/-- what the reference remembers as the best so far -/
def AccV (m : Mem) (g : Nat → Int32) (f : Nat → Int32) (n cs : Nat) (ev : Bool) (wh : Option Nat) (u : Int × List Nat) : Prop := m.1 19 16 = 1 ∧ u.2.length = n ∧ (∀ p, p < n → m.1 25 p = nI (u.2.getD p 0)) ∧ ∃ P E V : Nat, P ≤ 6 ∧ E ≤ 18 ∧ V ≤ 6 ∧ m.1 19 12 = nI P ∧ m.1 19 13 = nI E ∧ m.1 19 14 = nI V ∧ u.1 = 10000 * (P : Int) - 100 * (E : Int) - (V : Int) ∧ V = movN (hadG g cs) (fun p => u.2.getD p 0) n ∧ (wh = none → P = putN (fun p => u.2.getD p 0) n) ∧ (ev = true → E = gapS (baseC f g n cs (0, 0, 0)) (stF (fun p => u.2.getD p 0) n))
def AccR (m : Mem) (g : Nat → Int32) (f : Nat → Int32) (n cs : Nat) (ev : Bool) (wh : Option Nat) : Option (Int × List Nat) → Prop
  | none => m.1 19 16 = 0
  | some u => AccV m g f n cs ev wh u
theorem AccR_cg {m m' : Mem} {g f : Nat → Int32} {n cs : Nat} {ev : Bool} {wh : Option Nat} {acc : Option (Int × List Nat)} (h : AccR m g f n cs ev wh acc) (h25 : m'.1 25 = m.1 25) (h19 : ∀ j, j = 12 ∨ j = 13 ∨ j = 14 ∨ j = 16 → m'.1 19 j = m.1 19 j) : AccR m' g f n cs ev wh acc := by
  cases acc with
  | none => show m'.1 19 16 = 0; rw [h19 16 (by omega)]; exact h
  | some u =>
    obtain ⟨a1, a2, a3, P, E, V, a4, a5, a6, a7, a8, a9, a10⟩ := h
    exact ⟨by rw [h19 16 (by omega)]; exact a1, a2, fun p hp => by rw [h25]; exact a3 p hp, P, E, V, a4, a5, a6, by rw [h19 12 (by omega)]; exact a7, by rw [h19 13 (by omega)]; exact a8, by rw [h19 14 (by omega)]; exact a9, a10⟩
/-- the digits of a try, in the reference's row -/
def digR (m : Mem) (D : Nat → Nat) (k : Nat) : Prop := ∀ p, p < k → m.1 24 p = nI (D p) ∧ D p < 9
theorem M_looks17 {m : Mem} {n cs : Nat} {D : Nat → Nat} {wh : Option Nat} (hM : okM (m.1 20) n) (hcs : cs < 4) (hD : digR m D n) (hw : m.1 19 17 = whI wh) (hwn : ∀ p, wh = some p → p < n) : ∃ b, lp (fun a => bX7_looks_17 m (nI cs) a.1 a.2.1 a.2.2) 600 ((0 : Int32), (0 : Int32), (0 : Int32)) = some b ∧ ((vioB wh (hadG (m.1 20) cs) D n = true ∧ b = .inl m) ∨ (vioB wh (hadG (m.1 20) cs) D n = false ∧ b = .inr (nI (putN D n), nI (movN (hadG (m.1 20) cs) D n)))) := by
  have hn := hM.1
  refine lp_inv (α := Int32 × Int32 × Int32) (β := Mem ⊕ (Int32 × Int32)) (fun i a => a = (nI (putN D i), nI (movN (hadG (m.1 20) cs) D i), nI i) ∧ vioB wh (hadG (m.1 20) cs) D i = false) (fun b => (vioB wh (hadG (m.1 20) cs) D n = true ∧ b = .inl m) ∨ (vioB wh (hadG (m.1 20) cs) D n = false ∧ b = .inr (nI (putN D n), nI (movN (hadG (m.1 20) cs) D n)))) n ?_ ?_ (by omega) ⟨rfl, rfl⟩
  · rintro i a hi ⟨rfl, hv⟩
    obtain ⟨eD, bD⟩ := hD i hi
    obtain ⟨eH, bH⟩ := had_v (hM.2.2 i hi cs hcs)
    have hneg : (m.1 20 (100 + 7 * i + cs) < 0) ↔ hadG (m.1 20) cs i = 0 := by
      unfold hadG
      rcases trp_ok (hM.2.2 i hi cs hcs) with ⟨h1, h2, -⟩ | ⟨t, ht, h1, h2, -⟩
      · rw [h1]; exact ⟨fun _ => rfl, fun _ => h2⟩
      · rw [h1]; exact ⟨fun z => absurd z h2, fun z => by cases z⟩
    have r0 : (nI (D i) ≤ (0 : Int32)) ↔ D i = 0 := by
      rw [show (0 : Int32) = nI 0 from rfl, nI_leI (by omega) (by omega)]; omega
    have r1 : (nI (D i) = (0 : Int32)) ↔ D i = 0 := nI_eq (b := 0) (by omega) (by omega)
    have r2 : (nI (D i) = nI (hadG (m.1 20) cs i)) ↔ D i = hadG (m.1 20) cs i := nI_eq (by omega) (by omega)
    have h81 : ∀ (P k0 M : Nat), gX7_looks_81 m (nI cs) (nI P) (nI i) (m.1 20 (100 + 7 * i + cs)) (nI k0) (nI M) = if vi1 wh (hadG (m.1 20) cs) D i = true then some (.inl (.inl m)) else some (.inr (nI P, nI (M + k0), nI (i + 1))) := by
      intro P k0 M
      unfold gX7_looks_81
      rw [lt_e, nI_add, hw, gd_in (by omega) (by omega), nI_clamp (by omega), eD]
      simp only [lt_e, nI_p1, r1, hneg]
      cases wh with
      | none => rw [show whI none = -1 from rfl, if_pos (by decide)]; rfl
      | some p =>
        have hp := hwn p rfl
        have r3 : (nI i = nI p) ↔ i = p := nI_eq (by omega) (by omega)
        rw [show whI (some p) = nI p from rfl, if_neg (nI_pos (by omega))]
        simp only [r3]
        show _ = if (decide (D i = 0) && (decide (i = p) || decide (hadG (m.1 20) cs i ≠ 0))) = true then _ else _
        by_cases z1 : D i = 0
        · by_cases z2 : i = p
          · simp [z1, z2]
          · by_cases z3 : hadG (m.1 20) cs i = 0
            · simp [z1, z2, z3]
            · simp [z1, z2, z3]
        · simp [z1]
    have hb : bX7_looks_17 m (nI cs) (nI (putN D i)) (nI (movN (hadG (m.1 20) cs) D i)) (nI i) = if vi1 wh (hadG (m.1 20) cs) D i = true then some (.inl (.inl m)) else some (.inr (nI (putN D (i + 1)), nI (movN (hadG (m.1 20) cs) D (i + 1)), nI (i + 1))) := by
      unfold bX7_looks_17 gX7_looks_54 gX7_looks_80
      simp only [cl96]
      rw [gd96, hM.2.1, if_neg (nI_cn hi hn), M_triple m (by omega) hcs, Option.bind_some, gd_in (by omega) (by omega), nI_clamp (by omega), eD, eH, putN_s, movN_s]
      have r0' : (nI (D i) ≤ nI 0) ↔ D i = 0 := r0
      have hneg' : (m.1 20 (100 + 7 * i + cs) < nI 0) ↔ hadG (m.1 20) cs i = 0 := hneg
      simp only [lt_e, r0', r2, hneg', gd_in (show i < 6 by omega) (show 6 < 2 ^ 31 by omega), show (0 : Int32) = nI 0 from rfl, show (1 : Int32) = nI 1 from rfl, nI_add, h81, Nat.add_zero]
      by_cases z1 : D i = 0
      · rw [if_pos z1, if_pos z1]
        by_cases z2 : hadG (m.1 20) cs i = 0
        · rw [if_pos z2, if_pos (Or.inl z2)]
        · rw [if_neg z2]
          by_cases z3 : D i = hadG (m.1 20) cs i
          · rw [if_pos z3, if_pos (Or.inr z3.symm)]
          · rw [if_neg z3, if_neg (show ¬ (hadG (m.1 20) cs i = 0 ∨ hadG (m.1 20) cs i = D i) by omega)]
      · rw [if_neg z1, if_neg z1]
        by_cases z2 : hadG (m.1 20) cs i = 0
        · rw [if_pos z2, if_pos (Or.inl z2)]
        · rw [if_neg z2]
          by_cases z3 : D i = hadG (m.1 20) cs i
          · rw [if_pos z3, if_pos (Or.inr z3.symm)]
          · rw [if_neg z3, if_neg (show ¬ (hadG (m.1 20) cs i = 0 ∨ hadG (m.1 20) cs i = D i) by omega)]
    cases e : vi1 wh (hadG (m.1 20) cs) D i
    · rw [e, if_neg (by decide)] at hb
      exact Or.inl ⟨_, hb, rfl, by rw [vioB_s, hv, e]; rfl⟩
    · rw [e, if_pos rfl] at hb
      have h1 : vioB wh (hadG (m.1 20) cs) D (i + 1) = true := by rw [vioB_s, e, Bool.or_true]
      have h2 := vio_mono h1 (n - (i + 1))
      rw [show i + 1 + (n - (i + 1)) = n by omega] at h2
      exact Or.inr ⟨_, hb, Or.inl ⟨h2, rfl⟩⟩
  · rintro a ⟨rfl, hv⟩
    refine ⟨_, ?_, Or.inr ⟨hv, rfl⟩⟩
    show bX7_looks_17 m (nI cs) (nI (putN D n)) (nI (movN (hadG (m.1 20) cs) D n)) (nI n) = _
    unfold bX7_looks_17
    simp only [cl96]
    rw [gd96, hM.2.1, if_pos (nI_le (Nat.le_refl n) (by omega))]
/-- frames: what tries leave as it was -/
def FrR (b m : Mem) : Prop := (∀ a, a ≠ 24 → a ≠ 25 → a ≠ 26 → a ≠ 19 → m.1 a = b.1 a) ∧ (∀ j, j ≠ 12 → j ≠ 13 → j ≠ 14 → j ≠ 16 → m.1 19 j = b.1 19 j) ∧ (∀ a, a ≠ 19 → m.2 a = b.2 a)
theorem M_look234 (m : Mem) : lp (fun a => bX7_looks_234 a.2 a.1) 600 ((0 : Int32), m) = some (upR m 25 (va_cpy (m.1 24) (m.1 25) 0 0 6)) := by
  have hs : ∀ i, i < 6 → bX7_looks_234 (upR m 25 (va_cpy (m.1 24) (m.1 25) 0 0 i)) (nI i) = some (.inr (nI (i + 1), upR m 25 (va_cpy (m.1 24) (m.1 25) 0 0 (i + 1)))) := by
    intro i hi
    have h6 : ¬ (6 : Int32) ≤ nI i := by rw [show (6 : Int32) = nI 6 from rfl, nI_leI (by omega) (by omega)]; omega
    unfold bX7_looks_234
    rw [if_neg h6, gd_in hi (by omega), gd_in hi (by omega), nI_clamp (by omega), lt_e, lt_e, nI_p1, upR_n (by omega), up2_R, upR_s, upR_R, cpy_step]
  have he : bX7_looks_234 (upR m 25 (va_cpy (m.1 24) (m.1 25) 0 0 6)) (nI 6) = some (.inl (upR m 25 (va_cpy (m.1 24) (m.1 25) 0 0 6))) := by
    unfold bX7_looks_234
    rw [if_pos (by decide)]
  exact lp_at (body := fun a => bX7_looks_234 a.2 a.1) (a := ((0 : Int32), m)) (k := 600) (fun i => (nI i, upR m 25 (va_cpy (m.1 24) (m.1 25) 0 0 i))) 6 (by show _ = ((0 : Int32), va_cpy (m.1 24) (m.1 25) 0 0 0 |> upR m 25); rw [cpy_0, upR_id]) hs he (by omega)
theorem nI_n0 {n : Nat} (h : n < 2 ^ 31) : (nI n < (0 : Int32)) ↔ False := ⟨fun z => nI_pos h z, fun z => z.elim⟩
/-- the comparison, and what is remembered then -/
theorem M_look148 {m : Mem} {f g : Nat → Int32} {n cs : Nat} {ev : Bool} {wh : Option Nat} {D : Nat → Nat} {acc : Option (Int × List Nat)} {P E V : Nat} (hn : n ≤ 6) (hP : P ≤ 6) (hE : E ≤ 18) (hV : V ≤ 6) (hD : digR m D n) (hA : AccR m g f n cs ev wh acc) (e1 : V = movN (hadG g cs) D n) (e2 : wh = none → P = putN D n) (e3 : ev = true → E = gapS (baseC f g n cs (0, 0, 0)) (stF D n)) : ∃ m', gX7_looks_148 m (nI P) (nI V) (nI E) = some m' ∧ (∀ a, a ≠ 19 → a ≠ 25 → m'.1 a = m.1 a) ∧ (∀ j, j ≠ 12 → j ≠ 13 → j ≠ 14 → j ≠ 16 → m'.1 19 j = m.1 19 j) ∧ m'.2 = m.2 ∧ AccR m' g f n cs ev wh (pck acc (some (10000 * (P : Int) - 100 * (E : Int) - (V : Int), dl D n))) := by
  have hset : ∃ m', gX7_looks_197 m (nI P) (nI V) (nI E) = some m' ∧ (∀ a, a ≠ 19 → a ≠ 25 → m'.1 a = m.1 a) ∧ (∀ j, j ≠ 12 → j ≠ 13 → j ≠ 14 → j ≠ 16 → m'.1 19 j = m.1 19 j) ∧ m'.2 = m.2 ∧ AccV m' g f n cs ev wh (10000 * (P : Int) - 100 * (E : Int) - (V : Int), dl D n) := by
    generalize hA4 : up2 (up2 (up2 (up2 m 19 16 1) 19 12 (nI P)) 19 13 (nI E)) 19 14 (nI V) = A
    have Ao : ∀ a, a ≠ 19 → A.1 a = m.1 a := fun a ha => by rw [← hA4, up2_n ha, up2_n ha, up2_n ha, up2_n ha]
    refine ⟨upR A 25 (va_cpy (A.1 24) (A.1 25) 0 0 6), ?_, fun a q1 q2 => by rw [upR_n q2, Ao a q1], fun j q1 q2 q3 q4 => ?_, by rw [upR_2, ← hA4]; rfl, ?_, dl_len D n, fun p hp => ?_, P, E, V, hP, hE, hV, ?_, ?_, ?_, rfl, ?_, ?_, ?_⟩
    · unfold gX7_looks_197 gX7_looks_202
      rw [if_neg (by decide), lt_e, lt_e, lt_e, lt_e, hA4, M_look234]; rfl
    · rw [upR_n (by omega), ← hA4, up2_get, if_neg (by omega), up2_get, if_neg (by omega), up2_get, if_neg (by omega), up2_get, if_neg (by omega)]
    · rw [upR_n (by omega), ← hA4, up2_get, if_neg (by omega), up2_get, if_neg (by omega), up2_get, if_neg (by omega), up2_get, if_pos (by omega)]
    · rw [upR_s, pk_cpy_in (by omega) (by omega), Ao 24 (by omega), show 0 + (p - 0) = p by omega, (hD p hp).1, dl_get D n p hp]
    · rw [upR_n (by omega), ← hA4, up2_get, if_neg (by omega), up2_get, if_neg (by omega), up2_get, if_pos (by omega)]
    · rw [upR_n (by omega), ← hA4, up2_get, if_neg (by omega), up2_get, if_pos (by omega)]
    · rw [upR_n (by omega), ← hA4, up2_get, if_pos (by omega)]
    · rw [e1]; exact movN_cg n (fun p hp => (dl_get D n p hp).symm)
    · intro z; rw [e2 z]; exact putN_cg n (fun p hp => (dl_get D n p hp).symm)
    · intro z; rw [e3 z, stF_cg (D' := fun p => (dl D n).getD p 0) n (fun p hp => (dl_get D n p hp).symm)]
  obtain ⟨m', s1, s2, s3, s4, s5⟩ := hset
  have keep : gX7_looks_201 m (nI P) (nI V) (nI E) = some m := by
    unfold gX7_looks_201 gX7_looks_202
    rw [if_pos rfl]
  cases acc with
  | none =>
    have h16 : m.1 19 16 = 0 := hA
    refine ⟨m', ?_, s2, s3, s4, s5⟩
    unfold gX7_looks_148
    rw [h16, if_pos rfl, s1]
  | some u =>
    obtain ⟨a1, a2, a3, P', E', V', a4, a5, a6, a7, a8, a9, a10, a11⟩ := hA
    have hval : pck (some u) (some (10000 * (P : Int) - 100 * (E : Int) - (V : Int), dl D n)) = if u.1 < 10000 * (P : Int) - 100 * (E : Int) - (V : Int) then some (10000 * (P : Int) - 100 * (E : Int) - (V : Int), dl D n) else some u := rfl
    have r1 : (nI P' < nI P) ↔ P' < P := nI_ltI (by omega) (by omega)
    have r2 : (nI P = nI P') ↔ P = P' := nI_eq (by omega) (by omega)
    have r3 : (nI E < nI E') ↔ E < E' := nI_ltI (by omega) (by omega)
    have r4 : (nI E = nI E') ↔ E = E' := nI_eq (by omega) (by omega)
    have r5 : (nI V' ≤ nI V) ↔ V' ≤ V := nI_leI (by omega) (by omega)
    have hx : gX7_looks_148 m (nI P) (nI V) (nI E) = if P' < P then some m' else if P = P' then (if E < E' then some m' else if E = E' then (if V' ≤ V then some m else some m') else some m) else some m := by
      unfold gX7_looks_148
      rw [a1, if_neg (by decide), a7, a8, a9, s1, keep]
      simp only [r1, r2, r3, r4, r5]
    rw [hval, hx]
    have better : u.1 < 10000 * (P : Int) - 100 * (E : Int) - (V : Int) → ∃ m'', some m' = some m'' ∧ (∀ a, a ≠ 19 → a ≠ 25 → m''.1 a = m.1 a) ∧ (∀ j, j ≠ 12 → j ≠ 13 → j ≠ 14 → j ≠ 16 → m''.1 19 j = m.1 19 j) ∧ m''.2 = m.2 ∧ AccR m'' g f n cs ev wh (if u.1 < 10000 * (P : Int) - 100 * (E : Int) - (V : Int) then some (10000 * (P : Int) - 100 * (E : Int) - (V : Int), dl D n) else some u) := by
      intro z
      rw [if_pos z]
      exact ⟨m', rfl, s2, s3, s4, s5⟩
    have same : ¬ u.1 < 10000 * (P : Int) - 100 * (E : Int) - (V : Int) → ∃ m'', some m = some m'' ∧ (∀ a, a ≠ 19 → a ≠ 25 → m''.1 a = m.1 a) ∧ (∀ j, j ≠ 12 → j ≠ 13 → j ≠ 14 → j ≠ 16 → m''.1 19 j = m.1 19 j) ∧ m''.2 = m.2 ∧ AccR m'' g f n cs ev wh (if u.1 < 10000 * (P : Int) - 100 * (E : Int) - (V : Int) then some (10000 * (P : Int) - 100 * (E : Int) - (V : Int), dl D n) else some u) := by
      intro z
      rw [if_neg z]
      exact ⟨m, rfl, fun _ _ _ => rfl, fun _ _ _ _ _ => rfl, rfl, a1, a2, a3, P', E', V', a4, a5, a6, a7, a8, a9, a10, a11⟩
    by_cases z1 : P' < P
    · rw [if_pos z1]; exact better (by omega)
    · rw [if_neg z1]
      by_cases z2 : P = P'
      · rw [if_pos z2]
        by_cases z3 : E < E'
        · rw [if_pos z3]; exact better (by omega)
        · rw [if_neg z3]
          by_cases z4 : E = E'
          · rw [if_pos z4]
            by_cases z5 : V' ≤ V
            · rw [if_pos z5]; exact same (by omega)
            · rw [if_neg z5]; exact better (by omega)
          · rw [if_neg z4]; exact same (by omega)
      · rw [if_neg z2]; exact same (by omega)
