/-! the reference: pupils, hours, seats -/
theorem M_kindOf (s : Mem) {p : Nat} (hp : p < 6) : fX7_kindOf s (nI p) = some (s.1 20 (97 + 7 * p)) := by
  have e : (97 : Int32) + (7 : Int32) * nI p = nI (97 + 7 * p) := by rw [show (97 : Int32) = nI 97 from rfl, show (7 : Int32) = nI 7 from rfl, pk_mul, nI_add]
  unfold fX7_kindOf
  rw [e, gd_in (by omega) (by omega), nI_clamp (by omega)]
theorem M_away (s : Mem) {p : Nat} (hp : p < 6) : fX7_away s (nI p) = some (s.1 20 (98 + 7 * p)) := by
  have e : (97 : Int32) + (7 : Int32) * nI p + (1 : Int32) = nI (98 + 7 * p) := by rw [show (97 : Int32) = nI 97 from rfl, show (7 : Int32) = nI 7 from rfl, pk_mul, nI_add, nI_p1, show 97 + 7 * p + 1 = 98 + 7 * p by omega]
  unfold fX7_away
  rw [e, gd_in (by omega) (by omega), nI_clamp (by omega)]
theorem M_wishes (s : Mem) {p : Nat} (hp : p < 6) : fX7_wishes s (nI p) = some (s.1 20 (99 + 7 * p)) := by
  have e : (97 : Int32) + (7 : Int32) * nI p + (2 : Int32) = nI (99 + 7 * p) := by rw [show (97 : Int32) = nI 97 from rfl, show (7 : Int32) = nI 7 from rfl, pk_mul, nI_add, nI_p2, show 97 + 7 * p + 2 = 99 + 7 * p by omega]
  unfold fX7_wishes
  rw [e, gd_in (by omega) (by omega), nI_clamp (by omega)]
theorem ixT {p c : Nat} : (97 : Int32) + (7 : Int32) * nI p + (3 : Int32) + nI c = nI (100 + 7 * p + c) := by rw [show (97 : Int32) = nI 97 from rfl, show (7 : Int32) = nI 7 from rfl, pk_mul, nI_add, nI_p3, nI_add, show 97 + 7 * p + 3 + c = 100 + 7 * p + c by omega]
theorem M_triple (s : Mem) {p c : Nat} (hp : p < 6) (hc : c < 4) : fX7_triple s (nI p) (nI c) = some (s.1 20 (100 + 7 * p + c)) := by
  unfold fX7_triple
  rw [ixT, gd_in (by omega) (by omega), nI_clamp (by omega)]
theorem M_puts (s : Mem) {p c : Nat} (v : Int32) (hp : p < 6) (hc : c < 4) : fX7_puts s (nI p) (nI c) v = some (up2 s 20 (100 + 7 * p + c) v) := by
  unfold fX7_puts
  rw [ixT, gd_in (by omega) (by omega), nI_clamp (by omega)]
  rfl
/-- in which triple a pupil is -/
def trp (g : Nat → Int32) (p c : Nat) : Option Nat := if g (100 + 7 * p + c) < 0 then none else some (g (100 + 7 * p + c)).toNatClampNeg
def okT (x : Int32) : Prop := x = -1 ∨ ∃ t, t < 8 ∧ x = nI t
theorem trp_ok {g : Nat → Int32} {p c : Nat} (h : okT (g (100 + 7 * p + c))) : (trp g p c = none ∧ g (100 + 7 * p + c) < 0 ∧ g (100 + 7 * p + c) = -1) ∨ ∃ t, t < 8 ∧ trp g p c = some t ∧ ¬ g (100 + 7 * p + c) < 0 ∧ g (100 + 7 * p + c) = nI t := by
  unfold trp
  rcases h with h | ⟨t, ht, h⟩
  · left
    rw [h]
    exact ⟨rfl, by decide, rfl⟩
  · right
    refine ⟨t, ht, ?_, ?_, h⟩
    · rw [h, if_neg (nI_pos (by omega)), nI_clamp (by omega)]
    · rw [h]; exact nI_pos (by omega)
def busyG (g : Nat → Int32) (p : Nat) (b : Int32) : Nat → Int32 := itr (fun k a => if nI k = b then a else match trp g p k with | none => a | some t => a ||| timeG g k t) 0
theorem M_busy (s : Mem) {p : Nat} (b : Int32) (hp : p < 6) (hw : ∀ c, c < 4 → okT (s.1 20 (100 + 7 * p + c))) : fX7_busyBut s (nI p) b = some (busyG (s.1 20) p b 4) := by
  unfold fX7_busyBut
  have key : lp (fun a => bX7_busyBut_5 s (nI p) b a.1 a.2) 600 ((fun i => (busyG (s.1 20) p b i, nI i)) 0) = some (busyG (s.1 20) p b 4) := by
    refine lp_iter (fun i => (busyG (s.1 20) p b i, nI i)) 4 (fun i hi => ?_) ?_ (by omega)
    · show bX7_busyBut_5 s (nI p) b (busyG (s.1 20) p b i) (nI i) = some (.inr (busyG (s.1 20) p b (i + 1), nI (i + 1)))
      have eB : busyG (s.1 20) p b (i + 1) = if nI i = b then busyG (s.1 20) p b i else match trp (s.1 20) p i with | none => busyG (s.1 20) p b i | some t => busyG (s.1 20) p b i ||| timeG (s.1 20) i t := rfl
      rw [eB]
      unfold bX7_busyBut_5
      rw [if_neg (nI_c4 hi), M_triple s hp hi]
      by_cases e : nI i = b
      · rw [if_pos e, if_pos e]
        simp only [lt, nI_p1]
      · rw [if_neg e, if_neg e]
        rcases trp_ok (hw i hi) with ⟨h1, h2, -⟩ | ⟨t, ht, h1, h2, h3⟩
        · rw [h1, Option.bind_some, if_pos h2]
          simp only [lt, nI_p1]
        · rw [h1, Option.bind_some, if_neg h2, Option.bind_some, h3, M_time s hi ht, Option.bind_some]
          simp only [lt, nI_p1]
    · show bX7_busyBut_5 s (nI p) b (busyG (s.1 20) p b 4) (nI 4) = _
      unfold bX7_busyBut_5
      rw [if_pos (by decide)]
  have e0 : ((0 : Int32), (0 : Int32)) = (fun i => (busyG (s.1 20) p b i, nI i)) 0 := rfl
  rw [e0, key]
  rfl
/-- how many sit in a section, one left out -/
def takG (g : Nat → Int32) (c so w : Nat) (b : Int32) : Nat → Nat := itr (fun p a => if nI p = b then a else match trp g p c with | none => a | some t => if prt t so = w ∧ opn g c so (prt t so) = true then a + 1 else a) 0
theorem takG_le (g : Nat → Int32) (c so w : Nat) (b : Int32) : ∀ n, takG g c so w b n ≤ n
  | 0 => Nat.le_refl 0
  | n + 1 => by
    have ih := takG_le g c so w b n
    have e : takG g c so w b (n + 1) = if nI n = b then takG g c so w b n else match trp g n c with | none => takG g c so w b n | some t => if prt t so = w ∧ opn g c so (prt t so) = true then takG g c so w b n + 1 else takG g c so w b n := rfl
    rw [e]
    split
    · omega
    · split
      · omega
      · split <;> omega
theorem gd96 {α : Type} {x : Option α} : gd (96 : Int32) 139 x = x := gd_in (i := 96) (by omega) (by omega)
theorem cl96 : (96 : Int32).toNatClampNeg = 96 := by decide +kernel
theorem M_taken (s : Mem) {c so w n : Nat} (b : Int32) (hc : c < 4) (hs : so < 3) (hw : w < 2) (hn : n ≤ 6) (hg : s.1 20 96 = nI n) (ht : ∀ p, p < n → okT (s.1 20 (100 + 7 * p + c))) : fX7_takenBut s (nI c) (nI so) (nI w) b = some (nI (takG (s.1 20) c so w b n)) := by
  unfold fX7_takenBut
  have key : lp (fun a => bX7_takenBut_6 s (nI c) (nI so) (nI w) b a.1 a.2) 600 ((fun i => (nI (takG (s.1 20) c so w b i), nI i)) 0) = some (nI (takG (s.1 20) c so w b n)) := by
    refine lp_iter (fun i => (nI (takG (s.1 20) c so w b i), nI i)) n (fun i hi => ?_) ?_ (by omega)
    · show bX7_takenBut_6 s (nI c) (nI so) (nI w) b (nI (takG (s.1 20) c so w b i)) (nI i) = some (.inr (nI (takG (s.1 20) c so w b (i + 1)), nI (i + 1)))
      have e : takG (s.1 20) c so w b (i + 1) = if nI i = b then takG (s.1 20) c so w b i else match trp (s.1 20) i c with | none => takG (s.1 20) c so w b i | some t => if prt t so = w ∧ opn (s.1 20) c so (prt t so) = true then takG (s.1 20) c so w b i + 1 else takG (s.1 20) c so w b i := rfl
      rw [e]
      generalize takG (s.1 20) c so w b i = a
      unfold bX7_takenBut_6 gX7_takenBut_66
      simp only [lt, nI_p1, nI_p0, cl96]
      rw [gd96, hg, if_neg (by rw [nI_leI (by omega) (by omega)]; omega), M_triple s (by omega) hc, Option.bind_some]
      by_cases e1 : nI i = b
      · rw [if_pos e1, if_pos e1]
      · rw [if_neg e1, if_neg e1]
        rcases trp_ok (ht i hi) with ⟨h1, h2, -⟩ | ⟨t, ht', h1, h2, h3⟩
        · rw [h1, if_pos h2]
        · rw [h1, if_neg h2, h3, M_part t ht' so hs, Option.bind_some]
          have hp := prt_lt t ht' so hs
          have e2 : (nI (prt t so) = nI w) ↔ prt t so = w := nI_eq (by omega) (by omega)
          simp only [e2]
          by_cases e3 : prt t so = w
          · rw [if_pos e3, M_counts s hc ht' hs, Option.bind_some, bi_n0]
            cases e4 : opn (s.1 20) c so (prt t so)
            · rw [if_neg (by decide), if_neg (fun q => by cases q.2)]
            · rw [if_pos rfl, if_pos ⟨e3, rfl⟩]
          · rw [if_neg e3, if_neg (fun q => e3 q.1)]
    · show bX7_takenBut_6 s (nI c) (nI so) (nI w) b (nI (takG (s.1 20) c so w b n)) (nI n) = _
      unfold bX7_takenBut_6
      rw [gd96, cl96, hg, if_pos (nI_le (Nat.le_refl n) (by omega))]
  have e0 : ((0 : Int32), (0 : Int32)) = (fun i => (nI (takG (s.1 20) c so w b i), nI i)) 0 := rfl
  rw [e0, key]
  rfl
