/-! the class: the hours found anew; hours of a pupil; seats taken -/
theorem up2_get (σ : Mem) (k i : Nat) (x : Int32) (a j : Nat) : (up2 σ k i x).1 a j = if a = k ∧ j = i then x else σ.1 a j := by
  by_cases h : a = k
  · subst h
    rw [up2_s]
    unfold upd
    by_cases h2 : j = i
    · rw [if_pos h2, if_pos ⟨rfl, h2⟩]
    · rw [if_neg h2, if_neg (fun q => h2 q.2)]
  · rw [(up2_o a h).1, if_neg (fun q => h q.1)]
def finS (g : Nat → Int32) (c : Nat) (s : Mem) : Nat → Mem := itr (fun t σ => up2 σ 2 (139 + 8 * c + t) (hrsG g c t)) s
theorem finS_get (g : Nat → Int32) (c : Nat) (s : Mem) : ∀ (n a j : Nat), (finS g c s n).1 a j = if a = 2 ∧ 139 + 8 * c ≤ j ∧ j < 139 + 8 * c + n then hrsG g c (j - (139 + 8 * c)) else s.1 a j
  | 0, a, j => by rw [if_neg (by omega)]; rfl
  | n + 1, a, j => by
    have e : finS g c s (n + 1) = up2 (finS g c s n) 2 (139 + 8 * c + n) (hrsG g c n) := rfl
    rw [e, up2_get, finS_get g c s n a j]
    by_cases h : a = 2 ∧ j = 139 + 8 * c + n
    · rw [if_pos h, if_pos (by omega), h.2, Nat.add_sub_cancel_left]
    · rw [if_neg h]
      by_cases h2 : a = 2 ∧ 139 + 8 * c ≤ j ∧ j < 139 + 8 * c + n
      · rw [if_pos h2, if_pos (by omega)]
      · rw [if_neg h2, if_neg (by omega)]
theorem finS_2 (g : Nat → Int32) (c : Nat) (s : Mem) : ∀ n, (finS g c s n).2 = s.2
  | 0 => rfl
  | n + 1 => finS_2 g c s n
theorem SR_low {f f' g : Nat → Int32} (h : SR f g) (he : ∀ j, j < 96 → f' j = f j) : SR f' g := by
  intro c hc so hs w hw
  have := h c hc so hs w hw
  rw [he _ (by omega), he _ (by omega), he _ (by omega), he _ (by omega)]
  exact this
theorem C_findLawful (s : Mem) {g : Nat → Int32} (h : SR (s.1 2) g) {c : Nat} (hc : c < 4) : fX0_findLawful s (nI c) = some (finS g c s 8) := by
  unfold fX0_findLawful
  have key : lp (fun a => bX0_findLawful_2 a.2 (nI c) a.1) 600 ((fun i => (nI i, finS g c s i)) 0) = some (finS g c s 8) := by
    refine lp_iter (fun i => (nI i, finS g c s i)) 8 (fun i hi => ?_) ?_ (by omega)
    · show bX0_findLawful_2 (finS g c s i) (nI c) (nI i) = some (.inr (nI (i + 1), finS g c s (i + 1)))
      have e : (139 : Int32) + (8 : Int32) * nI c + nI i = nI (139 + 8 * c + i) := by rw [show (139 : Int32) = nI 139 from rfl, show (8 : Int32) = nI 8 from rfl, pk_mul, nI_add, nI_add]
      have hS : SR ((finS g c s i).1 2) g := SR_low h (fun j hj => by rw [finS_get, if_neg (by omega)])
      unfold bX0_findLawful_2
      rw [if_neg (nI_c8 hi), C_lawfulHours _ hS hc hi, Option.bind_some, e, gd_in (by omega) (by omega), nI_clamp (by omega)]
      simp only [lt, nI_p1]
      rfl
    · show bX0_findLawful_2 (finS g c s 8) (nI c) (nI 8) = _
      unfold bX0_findLawful_2
      rw [if_pos (by decide)]
  have e0 : ((0 : Int32), s) = (fun i => (nI i, finS g c s i)) 0 := rfl
  rw [e0, key]
  rfl
/-- the class's book means g's: sections, pupils up to n, hours -/
def BR (f g : Nat → Int32) (n : Nat) : Prop := SR f g ∧ n ≤ 6 ∧ g 96 = nI n ∧ f 138 = nI n ∧ (∀ p, p < n → ∀ j, j < 7 → f (96 + 7 * p + j) = g (97 + 7 * p + j)) ∧ (∀ c, c < 4 → ∀ t, t < 8 → f (139 + 8 * c + t) = hrsG g c t)
/-- every pupil's triple is none or one of eight -/
def okP (g : Nat → Int32) (n : Nat) : Prop := ∀ p, p < n → ∀ c, c < 4 → okT (g (100 + 7 * p + c))
/-- who is in a triple of course c is in a lawful one -/
def snd1 (g : Nat → Int32) (n c : Nat) : Prop := ∀ p, p < n → ∀ t, trp g p c = some t → lawG g c t = true
def sndA (g : Nat → Int32) (n : Nat) : Prop := ∀ c, c < 4 → snd1 g n c
theorem BR_sits {f g : Nat → Int32} {n : Nat} (h : BR f g n) {p c : Nat} (hp : p < n) (hc : c < 4) : f (99 + 7 * p + c) = g (100 + 7 * p + c) := by
  have := h.2.2.2.2.1 p hp (3 + c) (by omega)
  rw [show 96 + 7 * p + (3 + c) = 99 + 7 * p + c by omega, show 97 + 7 * p + (3 + c) = 100 + 7 * p + c by omega] at this
  exact this
/-- the class's hours of a pupil: every course but one (there all that he is in is lawful) -/
theorem C_busy (s : Mem) {g : Nat → Int32} {n p : Nat} (b : Int32) (h : BR (s.1 2) g n) (ho : okP g n) (hp : p < n) (hs : ∀ c, c < 4 → nI c ≠ b → ∀ t, trp g p c = some t → lawG g c t = true) : fX0_busy s (nI p) b = some (busyG g p b 4) := by
  have hn := h.2.1
  unfold fX0_busy
  have key : lp (fun a => bX0_busy_5 s (nI p) b a.1 a.2) 600 ((fun i => (busyG g p b i, nI i)) 0) = some (busyG g p b 4) := by
    refine lp_iter (fun i => (busyG g p b i, nI i)) 4 (fun i hi => ?_) ?_ (by omega)
    · show bX0_busy_5 s (nI p) b (busyG g p b i) (nI i) = some (.inr (busyG g p b (i + 1), nI (i + 1)))
      have eB : busyG g p b (i + 1) = if nI i = b then busyG g p b i else match trp g p i with | none => busyG g p b i | some t => busyG g p b i ||| timeG g i t := rfl
      rw [eB]
      unfold bX0_busy_5
      rw [if_neg (nI_c4 hi), C_sits s (by omega) hi, Option.bind_some, BR_sits h hp hi]
      by_cases e : nI i = b
      · rw [if_pos e, if_pos e]
        simp only [lt, nI_p1]
      · rw [if_neg e, if_neg e]
        rcases trp_ok (ho p hp i hi) with ⟨h1, h2, -⟩ | ⟨t, ht, h1, h2, h3⟩
        · rw [h1, if_pos h2]
          simp only [lt, nI_p1]
        · rw [h1, if_neg h2, h3, C_hoursOf s hi ht, Option.bind_some, h.2.2.2.2.2 i hi t ht]
          unfold hrsG
          rw [if_pos (hs i hi e t h1)]
          simp only [lt, nI_p1]
    · show bX0_busy_5 s (nI p) b (busyG g p b 4) (nI 4) = _
      unfold bX0_busy_5
      rw [if_pos (by decide)]
  have e0 : ((0 : Int32), (0 : Int32)) = (fun i => (busyG g p b i, nI i)) 0 := rfl
  rw [e0, key]
  rfl
