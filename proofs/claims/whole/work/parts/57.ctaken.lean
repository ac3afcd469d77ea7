/-! the class: seats taken -/
theorem law_goes {g : Nat → Int32} {c t : Nat} (h : lawG g c t = true) : goesG g c t 0 = true ∧ goesG g c t 1 = true ∧ goesG g c t 2 = true := by
  unfold lawG at h
  simp only [Bool.and_eq_true] at h
  exact ⟨h.1.1.1, h.1.1.2, h.1.2⟩
theorem law_go {g : Nat → Int32} {c t so : Nat} (h : lawG g c t = true) (hs : so < 3) : goesG g c t so = true := by
  obtain ⟨h0, h1, h2⟩ := law_goes h
  obtain rfl | rfl | rfl : so = 0 ∨ so = 1 ∨ so = 2 := by omega
  · exact h0
  · exact h1
  · exact h2
theorem law_opn {g : Nat → Int32} {c t so : Nat} (ht : t < 8) (h : lawG g c t = true) (hs : so < 3) (ha : so = 0 ∨ anyO g c so = true) : opn g c so (prt t so) = true := by
  have hg := law_go h hs
  rcases ha with rfl | ha
  · rw [goes_0 ht] at hg; exact hg
  · unfold goesG at hg
    rw [if_pos ha] at hg
    exact (Bool.and_eq_true_iff.mp hg).1
theorem C_taken (s : Mem) {g : Nat → Int32} {n c so w : Nat} (b : Int32) (h : BR (s.1 2) g n) (ho : okP g n) (hc : c < 4) (hs : so < 3) (hw : w < 2) (hsd : snd1 g n c) (ha : so = 0 ∨ anyO g c so = true) : fX0_taken s (nI c) (nI so) (nI w) b = some (nI (takG g c so w b n)) := by
  have hn := h.2.1
  unfold fX0_taken
  have key : lp (fun a => bX0_taken_6 s (nI c) (nI so) (nI w) b a.1 a.2) 600 ((fun i => (nI (takG g c so w b i), nI i)) 0) = some (nI (takG g c so w b n)) := by
    refine lp_iter (fun i => (nI (takG g c so w b i), nI i)) n (fun i hi => ?_) ?_ (by omega)
    · show bX0_taken_6 s (nI c) (nI so) (nI w) b (nI (takG g c so w b i)) (nI i) = some (.inr (nI (takG g c so w b (i + 1)), nI (i + 1)))
      have e : takG g c so w b (i + 1) = if nI i = b then takG g c so w b i else match trp g i c with | none => takG g c so w b i | some t => if prt t so = w ∧ opn g c so (prt t so) = true then takG g c so w b i + 1 else takG g c so w b i := rfl
      rw [e]
      generalize takG g c so w b i = a
      unfold bX0_taken_6
      simp only [lt, nI_p1, cl138]
      rw [gd138, h.2.2.2.1, if_neg (by rw [nI_leI (by omega) (by omega)]; omega), ixP, gd_in (by omega) (by omega), nI_clamp (by omega), BR_sits h hi hc]
      by_cases e1 : nI i = b
      · rw [if_pos e1, if_pos e1]
      · rw [if_neg e1, if_neg e1]
        rcases trp_ok (ho i hi c hc) with ⟨h1, h2, -⟩ | ⟨t, ht', h1, h2, h3⟩
        · rw [h1, if_pos h2]
        · have hp := prt_lt t ht' so hs
          have hpt : (nI t >>> (((2 : Int32) - nI so) &&& 31)) &&& (1 : Int32) = nI (prt t so) := Option.some.inj (C_part t ht' so hs)
          rw [h1, if_neg h2, h3, hpt]
          have e2 : (nI (prt t so) = nI w) ↔ prt t so = w := nI_eq (by omega) (by omega)
          simp only [e2]
          have hop := law_opn ht' (hsd i hi t h1) hs ha
          by_cases e3 : prt t so = w
          · rw [if_pos e3, if_pos ⟨e3, hop⟩]
          · rw [if_neg e3, if_neg (fun q => e3 q.1)]
    · show bX0_taken_6 s (nI c) (nI so) (nI w) b (nI (takG g c so w b n)) (nI n) = _
      unfold bX0_taken_6
      rw [gd138, cl138, h.2.2.2.1, if_pos (nI_le (Nat.le_refl n) (by omega))]
  have e0 : ((0 : Int32), (0 : Int32)) = (fun i => (nI (takG g c so w b i), nI i)) 0 := rfl
  rw [e0, key]
  rfl
/-- free for a pupil: lawful, no hour in common -/
def clsG (g : Nat → Int32) (p c t : Nat) : Bool := decide (¬ timeG g c t &&& (g (98 + 7 * p) ||| busyG g p (nI c) 4) = 0)
def freG (g : Nat → Int32) (p c t : Nat) : Bool := lawG g c t && !clsG g p c t
/-- a lawful triple's hours are no negative number -/
def hrOK (g : Nat → Int32) : Prop := ∀ c, c < 4 → ∀ t, t < 8 → ¬ timeG g c t < 0
theorem C_freeSet (s : Mem) {g : Nat → Int32} {n p c : Nat} (h : BR (s.1 2) g n) (ho : okP g n) (hr : hrOK g) (hp : p < n) (hc : c < 4) (hs : ∀ k, k < 4 → k ≠ c → ∀ t, trp g p k = some t → lawG g k t = true) : fX0_freeSet s (nI p) (nI c) = some (setG (freG g p c) 8) := by
  have hn := h.2.1
  have hb := C_busy s (nI c) h ho hp (fun k hk hne t ht => hs k hk (fun e => hne (by rw [e])) t ht)
  have ha := C_ofPupil s (p := p) (by omega) (j := 1) (by omega)
  rw [show nI 1 = (1 : Int32) from rfl] at ha
  have hag : s.1 2 (96 + 7 * p + 1) = g (98 + 7 * p) := by
    rw [h.2.2.2.2.1 p hp 1 (by omega), show 97 + 7 * p + 1 = 98 + 7 * p by omega]
  unfold fX0_freeSet
  rw [ha, Option.bind_some, hb, Option.bind_some, hag]
  have key : lp (fun a => bX0_freeSet_20 s (nI c) (g (98 + 7 * p) ||| busyG g p (nI c) 4) a.1 a.2) 600 ((fun i => (setG (freG g p c) i, nI i)) 0) = some (setG (freG g p c) 8) := by
    refine lp_iter (fun i => (setG (freG g p c) i, nI i)) 8 (fun i hi => ?_) ?_ (by omega)
    · show bX0_freeSet_20 s (nI c) (g (98 + 7 * p) ||| busyG g p (nI c) 4) (setG (freG g p c) i) (nI i) = some (.inr (setG (freG g p c) (i + 1), nI (i + 1)))
      have e : setG (freG g p c) (i + 1) = if freG g p c i then setG (freG g p c) i ||| ((1 : Int32) <<< (nI i &&& 31)) else setG (freG g p c) i := rfl
      rw [e]
      generalize setG (freG g p c) i = a
      unfold bX0_freeSet_20
      rw [if_neg (nI_c8 hi), C_hoursOf s hc hi, Option.bind_some, h.2.2.2.2.2 c hc i hi]
      simp only [lt, nI_p1]
      unfold freG clsG hrsG
      cases e1 : lawG g c i
      · simp only [Bool.false_eq_true, if_false, Bool.false_and]
        rw [if_pos (by decide)]
      · rw [if_pos rfl, if_neg (hr c hc i hi)]
        by_cases e2 : timeG g c i &&& (g (98 + 7 * p) ||| busyG g p (nI c) 4) = 0
        · rw [if_pos e2, decide_eq_false (not_not_intro e2)]
          rfl
        · rw [if_neg e2, decide_eq_true e2]
          rfl
    · show bX0_freeSet_20 s (nI c) (g (98 + 7 * p) ||| busyG g p (nI c) 4) (setG (freG g p c) 8) (nI 8) = _
      unfold bX0_freeSet_20
      rw [if_pos (by decide)]
  have e0 : ((0 : Int32), (0 : Int32)) = (fun i => (setG (freG g p c) i, nI i)) 0 := rfl
  simp only [lt]
  rw [e0, key]
  rfl
