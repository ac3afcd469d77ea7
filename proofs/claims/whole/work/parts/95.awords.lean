/-! text: what a word says -/
def wdN (k i : Nat) : Nat := (wdC k i).toNatClampNeg
theorem wv_Cl : ∀ k, k < 14 → fT_length k = some (nI (wdL k)) := by decide +kernel
theorem wv_Ml : ∀ k, k < 14 → fT_length (14 + k) = some (nI (wdL k)) := by decide +kernel
theorem wv_Cc : ∀ k, k < 14 → ∀ i, i < wdL k → fT_charAt k (nI i) = some (nI (wdN k i)) := by decide +kernel
theorem wv_Mc : ∀ k, k < 14 → ∀ i, i < wdL k → fT_charAt (14 + k) (nI i) = some (nI (wdN k i)) := by decide +kernel
theorem wv_le : ∀ k, k < 14 → 0 < wdL k ∧ wdL k ≤ 7 := by decide +kernel
theorem wv_n : ∀ k, k < 14 → ∀ i, i < wdL k → wdN k i < 128 := by decide +kernel
def isW (b : Nat → Nat) (k st en : Nat) : Bool := decide (en - st = wdL k ∧ ∀ i, i < wdL k → b (st + i) = wdN k i)
theorem C_says {L : Nat} {b : Nat → Nat} (hB : Bt L b) {s : Mem} (hT : TC L b s) {k st en : Nat} (hk : k < 14) (h2 : s.1 12 2 = nI st) (h3 : s.1 12 3 = nI en) (hs : st ≤ en) (he : en ≤ L) : fX5_says s k = some (bi (isW b k st en)) := by
  have hL := hB.1
  have hw := wv_le k hk
  unfold fX5_says isW
  rw [wv_Cl k hk, Option.bind_some, h2, h3, pk_sub hs]
  by_cases e1 : en - st = wdL k
  · rw [if_pos (by rw [e1])]
    have key : ∃ r, lp (α := Int32) (β := Int32 ⊕ Unit) (fun a => bX5_says_20 s k a) 600 (0 : Int32) = some r ∧ ((r = .inr () ∧ ∀ i, i < wdL k → b (st + i) = wdN k i) ∨ (r = .inl 0 ∧ ¬ ∀ i, i < wdL k → b (st + i) = wdN k i)) := by
      refine lp_inv (α := Int32) (β := Int32 ⊕ Unit) (fun i a => a = nI i ∧ ∀ j, j < i → b (st + j) = wdN k j) (fun r => (r = .inr () ∧ ∀ i, i < wdL k → b (st + i) = wdN k i) ∨ (r = .inl 0 ∧ ¬ ∀ i, i < wdL k → b (st + i) = wdN k i)) (wdL k) ?_ ?_ (k := 600) (by omega) ⟨rfl, fun j hj => by omega⟩
      · rintro i a hi ⟨rfl, q⟩
        show (∃ a', bX5_says_20 s k (nI i) = some (.inr a') ∧ _) ∨ (∃ b, bX5_says_20 s k (nI i) = some (.inl b) ∧ _)
        unfold bX5_says_20
        rw [wv_Cl k hk, Option.bind_some, if_neg (by rw [nI_leI (by omega) (by omega)]; omega), h2, nI_add, gd_in (by omega) (by omega), wv_Cc k hk i hi, Option.bind_some, nI_clamp (by omega), hT (st + i) (by omega)]
        by_cases e2 : b (st + i) = wdN k i
        · rw [if_pos ((b13k _ (hB.2 _ (by omega)) _ (wv_n k hk i hi)).mpr e2), lt_e, nI_p1]
          refine Or.inl ⟨_, rfl, rfl, fun j hj => ?_⟩
          by_cases e3 : j = i
          · rw [e3]; exact e2
          · exact q j (by omega)
        · rw [if_neg (fun z => e2 ((b13k _ (hB.2 _ (by omega)) _ (wv_n k hk i hi)).mp z))]
          exact Or.inr ⟨_, rfl, Or.inr ⟨rfl, fun z => e2 (z i hi)⟩⟩
      · rintro a ⟨rfl, q⟩
        refine ⟨.inr (), ?_, Or.inl ⟨rfl, q⟩⟩
        show bX5_says_20 s k (nI (wdL k)) = _
        unfold bX5_says_20
        rw [wv_Cl k hk, Option.bind_some, if_pos (by rw [nI_leI (by omega) (by omega)]; omega)]
    obtain ⟨r, hr, q⟩ := key
    rw [hr, Option.bind_some]
    rcases q with ⟨rfl, q⟩ | ⟨rfl, q⟩
    · rw [decide_eq_true ⟨e1, q⟩]; rfl
    · rw [decide_eq_false (fun z => q z.2)]; rfl
  · rw [if_neg (fun z => e1 ((nI_eq (by omega) (by omega)).mp z)), decide_eq_false (fun z => e1 z.1)]; rfl
theorem M_w0 {s : Mem} {k : Nat} (hk : k < 14) : gX7_isWord_38 s (14 + k) = some (bi false) := by
  have hw := wv_le k hk
  obtain ⟨f, hf⟩ := f600
  unfold gX7_isWord_38 gX7_isWord_39
  have h : bX7_isWord_42 s (14 + k) (0 : Int32) (0 : Int32) = some (.inl 0) := by
    unfold bX7_isWord_42
    rw [wv_Ml k hk, Option.bind_some, if_neg (show ¬ nI (wdL k) ≤ (0 : Int32) from by show ¬ nI (wdL k) ≤ nI 0; rw [nI_leI (by omega) (by omega)]; omega), if_pos rfl]
  rw [hf, lp_l (α := Int32 × Int32) (body := fun a => bX7_isWord_42 s (14 + k) a.1 a.2) (a := ((0 : Int32), (0 : Int32))) h]
  rfl
theorem M_isWord {L : Nat} {b : Nat → Nat} (hB : Bt L b) {s : Mem} (hT : TM L b s) {k st en : Nat} (hk : k < 14) (h1 : s.1 19 19 = nI L) (h2 : s.1 19 20 = nI st) (h3 : s.1 19 21 = nI en) (h4 : s.1 19 22 = -1) (hs : st ≤ en) (he : en ≤ L) : fX7_isWord s (14 + k) = some (bi (isW b k st en)) := by
  have hL := hB.1
  have hw := wv_le k hk
  unfold fX7_isWord isW
  rw [h4, if_neg (by decide), wv_Ml k hk, Option.bind_some, h1, h2, h3, pk_sub hs]
  by_cases e1 : en - st = wdL k
  · rw [if_pos (by rw [e1]), if_neg (by rw [nI_leI (by omega) (by omega)]; omega)]
    unfold gX7_isWord_39
    have key : ∃ r, lp (α := Int32 × Int32) (β := Int32) (fun a => bX7_isWord_42 s (14 + k) a.1 a.2) 600 ((1 : Int32), (0 : Int32)) = some r ∧ ((r = 1 ∧ ∀ i, i < wdL k → b (st + i) = wdN k i) ∨ (r = 0 ∧ ¬ ∀ i, i < wdL k → b (st + i) = wdN k i)) := by
      refine lp_inv (α := Int32 × Int32) (β := Int32) (fun i a => a.2 = nI i ∧ ((a.1 = 1 ∧ ∀ j, j < i → b (st + j) = wdN k j) ∨ (a.1 = 0 ∧ ¬ ∀ i, i < wdL k → b (st + i) = wdN k i))) (fun r => (r = 1 ∧ ∀ i, i < wdL k → b (st + i) = wdN k i) ∨ (r = 0 ∧ ¬ ∀ i, i < wdL k → b (st + i) = wdN k i)) (wdL k) ?_ ?_ (k := 600) (by omega) ⟨rfl, Or.inl ⟨rfl, fun j hj => by omega⟩⟩
      · rintro i ⟨a, a2⟩ hi ⟨q0, q⟩
        have q0 : a2 = nI i := q0
        subst q0
        show (∃ a', bX7_isWord_42 s (14 + k) a (nI i) = some (.inr a') ∧ _) ∨ (∃ b, bX7_isWord_42 s (14 + k) a (nI i) = some (.inl b) ∧ _)
        unfold bX7_isWord_42
        rw [wv_Ml k hk, Option.bind_some, if_neg (by rw [nI_leI (by omega) (by omega)]; omega)]
        rcases q with ⟨qa, q⟩ | ⟨qa, q⟩
        · have qa : a = 1 := qa
          subst qa
          rw [if_neg (by decide), h2, nI_add, gd_in (by omega) (by omega), wv_Mc k hk i hi, Option.bind_some, nI_clamp (by omega), hT (st + i) (by omega)]
          have hb := hB.2 (st + i) (by omega)
          have hn := wv_n k hk i hi
          by_cases e2 : b (st + i) = wdN k i
          · rw [if_pos (by rw [e2]), lt_e, nI_p1]
            refine Or.inl ⟨_, rfl, rfl, Or.inl ⟨rfl, fun j hj => ?_⟩⟩
            by_cases e3 : j = i
            · rw [e3]; exact e2
            · exact q j (by omega)
          · rw [if_neg (fun z => e2 ((nI_eq (by omega) (by omega)).mp z)), lt_e, nI_p1]
            exact Or.inl ⟨_, rfl, rfl, Or.inr ⟨rfl, fun z => e2 (z i hi)⟩⟩
        · have qa : a = 0 := qa
          subst qa
          rw [if_pos rfl]
          exact Or.inr ⟨_, rfl, Or.inr ⟨rfl, q⟩⟩
      · rintro ⟨a, a2⟩ ⟨q0, q⟩
        have q0 : a2 = nI (wdL k) := q0
        subst q0
        refine ⟨a, ?_, q⟩
        show bX7_isWord_42 s (14 + k) a (nI (wdL k)) = _
        unfold bX7_isWord_42
        rw [wv_Ml k hk, Option.bind_some, if_pos (by rw [nI_leI (by omega) (by omega)]; omega)]
    obtain ⟨r, hr, q⟩ := key
    rw [hr, Option.bind_some]
    rcases q with ⟨rfl, q⟩ | ⟨rfl, q⟩
    · rw [decide_eq_true ⟨e1, q⟩]; rfl
    · rw [decide_eq_false (fun z => q z.2)]; rfl
  · rw [if_neg (fun z => e1 ((nI_eq (by omega) (by omega)).mp z)), decide_eq_false (fun z => e1 z.1)]
    exact M_w0 hk
/-- one sign, an hour, a letter -/
def oI : Option Nat → Int32
  | none => -1
  | some v => nI v
def one (b : Nat → Nat) (st en ba mx : Nat) : Option Nat := if en = st + 1 ∧ ba ≤ b st ∧ b st ≤ ba + mx then some (b st - ba) else none
def hou (b : Nat → Nat) (st en : Nat) : Option Nat := if en = st + 2 ∧ b st = 49 ∧ 48 ≤ b (st + 1) ∧ b (st + 1) ≤ 57 then some (b (st + 1) - 38) else one b st en 48 9
theorem C_one {L : Nat} {b : Nat → Nat} (hB : Bt L b) {s : Mem} (hT : TC L b s) {st en ba mx : Nat} (h2 : s.1 12 2 = nI st) (h3 : s.1 12 3 = nI en) (hs : st ≤ en) (he : en ≤ L) (hm : 0 < ba ∧ ba + mx < 128) : fX5_oneSign s (nI ba) (nI mx) = some (oI (one b st en ba mx)) := by
  have hL := hB.1
  unfold fX5_oneSign one
  rw [h2, h3, pk_sub hs]
  by_cases e1 : en = st + 1
  · have hb := hB.2 st (by omega)
    rw [if_pos (show nI (en - st) = (1 : Int32) from by rw [e1, Nat.add_sub_cancel_left]; rfl), gd_in (by omega) (by omega), lt_e, nI_clamp (by omega), hT st (by omega)]
    by_cases e2 : b st < 128
    · rw [(b13k _ hb (b st) e2).mpr rfl]
      by_cases e3 : ba ≤ b st
      · rw [pk_sub e3, if_neg (nI_pos (by omega))]
        by_cases e4 : b st ≤ ba + mx
        · rw [if_neg (by rw [nI_ltI (by omega) (by omega)]; omega), if_pos ⟨e1, e3, e4⟩]; rfl
        · rw [if_pos (by rw [nI_ltI (by omega) (by omega)]; omega), if_neg (fun z => e4 z.2.2)]; rfl
      · rw [if_pos (by rw [i32_lt, pk_sub_toInt (by omega) (by omega)]; show _ < (0 : Int); omega), if_neg (fun z => e3 z.2.1)]; rfl
    · rw [if_pos (b13neg (b st) hb (by omega) ba (by omega)), if_neg (show ¬ (en = st + 1 ∧ ba ≤ b st ∧ b st ≤ ba + mx) from by omega)]; rfl
  · rw [if_neg (show ¬ nI (en - st) = (1 : Int32) from fun z => e1 (by have := (nI_eq (b := 1) (by omega) (by omega)).mp z; omega)), if_neg (fun z => e1 z.1)]; rfl
theorem C_letter {L : Nat} {b : Nat → Nat} (hB : Bt L b) {s : Mem} (hT : TC L b s) {st en : Nat} (h2 : s.1 12 2 = nI st) (h3 : s.1 12 3 = nI en) (hs : st ≤ en) (he : en ≤ L) : fX5_letter s = some (oI (one b st en 97 3)) := by
  have h := C_one hB hT (ba := 97) (mx := 3) h2 h3 hs he (by omega)
  unfold fX5_letter
  show (fX5_oneSign s (nI 97) (nI 3)).bind _ = _
  rw [h]; rfl
theorem C_hour {L : Nat} {b : Nat → Nat} (hB : Bt L b) {s : Mem} (hT : TC L b s) {st en : Nat} (h2 : s.1 12 2 = nI st) (h3 : s.1 12 3 = nI en) (hs : st ≤ en) (he : en ≤ L) : fX5_hour s = some (oI (hou b st en)) := by
  have hL := hB.1
  have h : gX5_hour_77 s = some (oI (one b st en 48 9)) := by
    have h := C_one hB hT (ba := 48) (mx := 9) h2 h3 hs he (by omega)
    unfold gX5_hour_77
    show (fX5_oneSign s (nI 48) (nI 9)).bind _ = _
    rw [h]; rfl
  unfold fX5_hour hou
  rw [h, h2, h3, pk_sub hs]
  by_cases e1 : en = st + 2
  · have hb := hB.2 st (by omega)
    have hb1 := hB.2 (st + 1) (by omega)
    rw [if_pos (show nI (en - st) = (2 : Int32) from by rw [e1, Nat.add_sub_cancel_left]; rfl), gd_in (by omega) (by omega), nI_clamp (by omega), hT st (by omega)]
    by_cases e2 : b st = 49
    · rw [if_pos (show (nI (b st)).toInt8.toInt32 = (49 : Int32) from (b13k _ hb 49 (by omega)).mpr e2), nI_p1, gd_in (by omega) (by omega), gd_in (by omega) (by omega), gd_in (by omega) (by omega), nI_clamp (by omega), hT (st + 1) (by omega)]
      have h9 : ∀ b, b < 256 → ((nI b).toInt8.toInt32 < (48 : Int32) ↔ (b < 48 ∨ 128 ≤ b)) ∧ ((57 : Int32) < (nI b).toInt8.toInt32 ↔ (57 < b ∧ b < 128)) := by decide +kernel
      obtain ⟨p1, p2⟩ := h9 _ hb1
      by_cases e3 : b (st + 1) < 48 ∨ 128 ≤ b (st + 1)
      · rw [if_pos (p1.mpr e3), if_neg (fun z => by omega)]
      · rw [if_neg (fun z => e3 (p1.mp z))]
        by_cases e4 : 57 < b (st + 1)
        · rw [if_pos (p2.mpr ⟨e4, by omega⟩), if_neg (fun z => by omega)]
        · rw [if_neg (fun z => e4 (p2.mp z).1), if_pos ⟨e1, e2, by omega, by omega⟩, (b13k _ hb1 (b (st + 1)) (by omega)).mpr rfl, show (10 : Int32) = nI 10 from rfl, show (48 : Int32) = nI 48 from rfl, nI_add, pk_sub (by omega)]
          show some (nI _) = some (nI _)
          congr 2; omega
    · rw [if_neg (show ¬ (nI (b st)).toInt8.toInt32 = (49 : Int32) from fun z => e2 ((b13k _ hb 49 (by omega)).mp z)), if_neg (fun z => e2 z.2.1)]
  · rw [if_neg (show ¬ nI (en - st) = (2 : Int32) from fun z => e1 (by have := (nI_eq (b := 2) (by omega) (by omega)).mp z; omega)), if_neg (fun z => e1 z.1)]
