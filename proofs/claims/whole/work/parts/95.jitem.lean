/-! text: which item a word begins -/
def kdI (b : Nat → Nat) (st en : Nat) : Nat → Int32 := itr (fun k a => if isW b k st en = true then nI k else a) (-1)
theorem kdI_s (b : Nat → Nat) (st en k : Nat) : kdI b st en (k + 1) = if isW b k st en = true then nI k else kdI b st en k := rfl
theorem wd_ne : ∀ k, k < 6 → ∀ k', k' < 6 → wdL k = wdL k' → (∀ i, i < wdL k → wdN k i = wdN k' i) → k = k' := by decide +kernel
theorem isW_u {b : Nat → Nat} {st en k k' : Nat} (hk : k < 6) (hk' : k' < 6) (h : isW b k st en = true) (h' : isW b k' st en = true) : k = k' := by
  have h := of_decide_eq_true h
  have h' := of_decide_eq_true h'
  refine wd_ne k hk k' hk' (by rw [← h.1, ← h'.1]) (fun i hi => ?_)
  rw [← h.2 i hi, ← h'.2 i (by rw [← h'.1, h.1]; exact hi)]
theorem kdI_no {b : Nat → Nat} {st en : Nat} : ∀ n, (∀ k, k < n → ¬ isW b k st en = true) → kdI b st en n = -1
  | 0, _ => rfl
  | n + 1, h => by rw [kdI_s, if_neg (h n (by omega))]; exact kdI_no n (fun k hk => h k (by omega))
theorem kdI_yes {b : Nat → Nat} {st en k : Nat} (hk : k < 6) (h : isW b k st en = true) : ∀ n, k < n → n ≤ 6 → kdI b st en n = nI k
  | 0, h0, _ => by omega
  | n + 1, h0, h6 => by
    rw [kdI_s]
    by_cases e : isW b n st en = true
    · rw [if_pos e, isW_u hk (by omega) h e]
    · rw [if_neg e]
      have : n ≠ k := fun z => e (by rw [z]; exact h)
      exact kdI_yes hk h n (by omega) (by omega)
/-- the class looks for the kind -/
theorem C_kinds {L : Nat} {b : Nat → Nat} (hB : Bt L b) {s : Mem} (hT : TC L b s) (F : Nat → Int32) (p : Int32) {st en : Nat} (h2 : F 2 = nI st) (h3 : F 3 = nI en) (hs : st ≤ en) (he : en ≤ L) : lp (α := Int32 × Mem) (β := Mem) (fun a => bX5_readItem_7 a.2 p a.1) 600 ((0 : Int32), upR s 12 (upd F 6 (-1 : Int32))) = some (upR s 12 (upd F 6 (kdI b st en 6))) := by
  refine lp_at (α := Int32 × Mem) (β := Mem) (fun i => (nI i, upR s 12 (upd F 6 (kdI b st en i)))) 6 rfl ?_ ?_ (by omega)
  · intro i hi
    show bX5_readItem_7 (upR s 12 (upd F 6 (kdI b st en i))) p (nI i) = _
    unfold bX5_readItem_7
    rw [if_neg (show ¬ (6 : Int32) ≤ nI i from by show ¬ nI 6 ≤ nI i; rw [nI_leI (by omega) (by omega)]; omega), wd_C i hi, Option.bind_some, C_says hB (TC_R hT _) (k := i) (by omega) (by rw [upR_s]; exact h2) (by rw [upR_s]; exact h3) hs he, Option.bind_some, bi_n0, kdI_s]
    by_cases e : isW b i st en = true
    · rw [if_pos e, if_pos e, lt_e, lt_e, up2_upRk, upd_upd, nI_p1]
    · rw [if_neg e, if_neg e, lt_e, nI_p1]
  · show bX5_readItem_7 (upR s 12 (upd F 6 (kdI b st en 6))) p (nI 6) = _
    unfold bX5_readItem_7
    rw [if_pos (by decide)]
def soI (b : Nat → Nat) (st en : Nat) : Option Nat := if isW b 8 st en = true then some 0 else if isW b 9 st en = true then some 1 else if isW b 10 st en = true then some 2 else none
theorem C_itemK {L : Nat} {b : Nat → Nat} (hB : Bt L b) {s : Mem} (hT : TC L b s) (F : Nat → Int32) (p : Int32) {st en kd : Nat} (hk : kd < 6) (hw : isW b kd st en = true) (h2 : F 2 = nI st) (h3 : F 3 = nI en) (hs : st ≤ en) (he : en ≤ L) : fX5_readItem (upR s 12 F) p = if p = (0 : Int32) then (fX5_readPupil (upR s 12 (upd F 6 (nI kd)))).bind (fun y22 => if y22.1 = (0 : Int32) then some (((0 : Int32), y22.2)) else some (((1 : Int32), y22.2))) else some (((0 : Int32), upR s 12 (upd F 6 (nI kd)))) := by
  unfold fX5_readItem
  rw [lt_e, up2_upRk, C_kinds hB hT F p h2 h3 hs he, Option.bind_some, kdI_yes hk hw 6 hk (by omega), upR_s, upd_s, if_neg (nI_pos (by omega))]
theorem C_itemS {L : Nat} {b : Nat → Nat} (hB : Bt L b) {s : Mem} (hT : TC L b s) (F : Nat → Int32) (p : Int32) {st en : Nat} (hw : ∀ k, k < 6 → ¬ isW b k st en = true) (h2 : F 2 = nI st) (h3 : F 3 = nI en) (hs : st ≤ en) (he : en ≤ L) : fX5_readItem (upR s 12 F) p = gX5_readItem_100 (upR s 12 (upd F 6 (-1 : Int32))) (oI (soI b st en)) := by
  unfold fX5_readItem
  have sy : ∀ k, k < 14 → fX5_says (upR s 12 (upd F 6 (-1 : Int32))) k = some (bi (isW b k st en)) := fun k hk => C_says hB (TC_R hT _) hk (by rw [upR_s]; exact h2) (by rw [upR_s]; exact h3) hs he
  rw [lt_e, up2_upRk, C_kinds hB hT F p h2 h3 hs he, Option.bind_some, kdI_no 6 hw, upR_s, upd_s, if_pos (by decide), sy 8 (by omega), Option.bind_some, bi_n0, sy 9 (by omega), Option.bind_some, bi_n0, sy 10 (by omega), Option.bind_some, bi_n0]
  unfold soI
  by_cases e8 : isW b 8 st en = true
  · rw [if_pos e8, if_pos e8]; rfl
  · rw [if_neg e8, if_neg e8]
    by_cases e9 : isW b 9 st en = true
    · rw [if_pos e9, if_pos e9]; rfl
    · rw [if_neg e9, if_neg e9]
      by_cases e10 : isW b 10 st en = true
      · rw [if_pos e10, if_pos e10]; rfl
      · rw [if_neg e10, if_neg e10]; rfl
/-- the reference looks for the kind -/
theorem M_itemK {L : Nat} {b : Nat → Nat} (hB : Bt L b) {s : Mem} (hT : TM L b s) (G : Nat → Int32) {st en kd : Nat} (hk : kd < 6) (hw : isW b kd st en = true) (h1 : G 19 = nI L) (h2 : G 20 = nI st) (h3 : G 21 = nI en) (h4 : G 22 = -1) (hs : st ≤ en) (he : en ≤ L) (y : Mem) (hy : fX7_pupilItem (upR s 19 G) (nI kd) = some y) : fX7_item (upR s 19 G) = some y := by
  have iw : ∀ k, k < 14 → fX7_isWord (upR s 19 G) (14 + k) = some (bi (isW b k st en)) := fun k hk => M_isWord hB (TM_R hT G) hk (by rw [upR_s]; exact h1) (by rw [upR_s]; exact h2) (by rw [upR_s]; exact h3) (by rw [upR_s]; exact h4) hs he
  have hl : lp (α := Int32 × Mem) (β := Mem ⊕ Mem) (fun a => bX7_item_2 a.2 a.1) 600 ((0 : Int32), upR s 19 G) = some (.inl y) := by
    refine lp_at (α := Int32 × Mem) (β := Mem ⊕ Mem) (fun i => (nI i, upR s 19 G)) kd rfl ?_ ?_ (by omega)
    · intro i hi
      show bX7_item_2 (upR s 19 G) (nI i) = _
      unfold bX7_item_2
      have : ¬ isW b i st en = true := fun z => by have := isW_u (by omega) hk z hw; omega
      rw [if_neg (show ¬ (6 : Int32) ≤ nI i from by show ¬ nI 6 ≤ nI i; rw [nI_leI (by omega) (by omega)]; omega), wd_M i (by omega), Option.bind_some, iw i (by omega), Option.bind_some, bi_n0, if_neg this, lt_e, nI_p1]
    · show bX7_item_2 (upR s 19 G) (nI kd) = _
      unfold bX7_item_2
      rw [if_neg (show ¬ (6 : Int32) ≤ nI kd from by show ¬ nI 6 ≤ nI kd; rw [nI_leI (by omega) (by omega)]; omega), wd_M kd hk, Option.bind_some, iw kd (by omega), Option.bind_some, bi_n0, if_pos hw, hy, Option.bind_some]
  unfold fX7_item
  rw [hl]; rfl
theorem M_itemS {L : Nat} {b : Nat → Nat} (hB : Bt L b) {s : Mem} (hT : TM L b s) (G : Nat → Int32) {st en : Nat} (hw : ∀ k, k < 6 → ¬ isW b k st en = true) (h1 : G 19 = nI L) (h2 : G 20 = nI st) (h3 : G 21 = nI en) (h4 : G 22 = -1) (hs : st ≤ en) (he : en ≤ L) : fX7_item (upR s 19 G) = gX7_item_77 (upR s 19 G) (oI (soI b st en)) := by
  have iw : ∀ k, k < 14 → fX7_isWord (upR s 19 G) (14 + k) = some (bi (isW b k st en)) := fun k hk => M_isWord hB (TM_R hT G) hk (by rw [upR_s]; exact h1) (by rw [upR_s]; exact h2) (by rw [upR_s]; exact h3) (by rw [upR_s]; exact h4) hs he
  have hl : lp (α := Int32 × Mem) (β := Mem ⊕ Mem) (fun a => bX7_item_2 a.2 a.1) 600 ((0 : Int32), upR s 19 G) = some (.inr (upR s 19 G)) := by
    refine lp_at (α := Int32 × Mem) (β := Mem ⊕ Mem) (fun i => (nI i, upR s 19 G)) 6 rfl ?_ ?_ (by omega)
    · intro i hi
      show bX7_item_2 (upR s 19 G) (nI i) = _
      unfold bX7_item_2
      rw [if_neg (show ¬ (6 : Int32) ≤ nI i from by show ¬ nI 6 ≤ nI i; rw [nI_leI (by omega) (by omega)]; omega), wd_M i (by omega), Option.bind_some, iw i (by omega), Option.bind_some, bi_n0, if_neg (hw i hi), lt_e, nI_p1]
    · show bX7_item_2 (upR s 19 G) (nI 6) = _
      unfold bX7_item_2
      rw [if_pos (by decide)]
  have i8 : fX7_isWord (upR s 19 G) 22 = _ := iw 8 (by omega)
  have i9 : fX7_isWord (upR s 19 G) 23 = _ := iw 9 (by omega)
  have i10 : fX7_isWord (upR s 19 G) 24 = _ := iw 10 (by omega)
  unfold fX7_item
  rw [hl, Option.bind_some]
  show (fX7_isWord (upR s 19 G) 22).bind _ = _
  rw [i8, Option.bind_some, bi_n0, i9, Option.bind_some, bi_n0, i10, Option.bind_some, bi_n0]
  unfold soI
  by_cases e8 : isW b 8 st en = true
  · rw [if_pos e8, if_pos e8]; rfl
  · rw [if_neg e8, if_neg e8]
    by_cases e9 : isW b 9 st en = true
    · rw [if_pos e9, if_pos e9]; rfl
    · rw [if_neg e9, if_neg e9]
      by_cases e10 : isW b 10 st en = true
      · rw [if_pos e10, if_pos e10]; rfl
      · rw [if_neg e10, if_neg e10]; rfl
