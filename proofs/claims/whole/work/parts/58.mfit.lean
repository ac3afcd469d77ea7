/-! the reference: room, clashes, what fits -/
/-- what the reference's lemmas ask of its row -/
def okM (g : Nat → Int32) (n : Nat) : Prop := n ≤ 6 ∧ g 96 = nI n ∧ okP g n
def capG (g : Nat → Int32) (c so w : Nat) : Int32 := g (24 * c + 8 * so + 4 * w + 2)
def lefG (g : Nat → Int32) (n c so w : Nat) (b : Int32) : Int32 := capG g c so w - nI (takG g c so w b n)
theorem M_left (s : Mem) {c so w n : Nat} (b : Int32) (hc : c < 4) (hs : so < 3) (hw : w < 2) (h : okM (s.1 20) n) : fX7_leftBut s (nI c) (nI so) (nI w) b = some (lefG (s.1 20) n c so w b) := by
  unfold fX7_leftBut
  rw [M_at c hc so hs w hw, Option.bind_some, nI_p2, gd_in (by omega) (by omega), M_taken s b hc hs hw h.1 h.2.1 (fun p hp => h.2.2 p hp c hc), Option.bind_some, nI_clamp (by omega)]
  rfl
def roomG (g : Nat → Int32) (n c t : Nat) (b : Int32) (so : Nat) : Bool := !opn g c so (prt t so) || decide (1 ≤ lefG g n c so (prt t so) b)
def hasG (g : Nat → Int32) (n c t : Nat) (b : Int32) : Bool := roomG g n c t b 0 && roomG g n c t b 1 && roomG g n c t b 2
theorem M_roomB (s : Mem) {c t so n : Nat} (b : Int32) (hc : c < 4) (ht : t < 8) (hs : so < 3) (h : okM (s.1 20) n) : bX7_hasRoom_3 s (nI c) (nI t) b (nI so) = if roomG (s.1 20) n c t b so = true then some (.inr (nI (so + 1))) else some (.inl (.inl 0)) := by
  unfold bX7_hasRoom_3 roomG
  rw [if_neg (nI_c3 hs), M_counts s hc ht hs, Option.bind_some, bi_n0, M_part t ht so hs, Option.bind_some, M_left s b hc hs (prt_lt t ht so hs) h, Option.bind_some]
  simp only [lt, nI_p1]
  cases opn (s.1 20) c so (prt t so)
  · rfl
  · by_cases e : 1 ≤ lefG (s.1 20) n c so (prt t so) b
    · simp [e]
    · simp [e]
theorem M_hasRoom (s : Mem) {c t n : Nat} (b : Int32) (hc : c < 4) (ht : t < 8) (h : okM (s.1 20) n) : fX7_hasRoom s (nI c) (nI t) b = some (bi (hasG (s.1 20) n c t b)) := by
  have g0 := M_roomB s b hc ht (so := 0) (by omega) h
  have g1 := M_roomB s b hc ht (so := 1) (by omega) h
  have g2 := M_roomB s b hc ht (so := 2) (by omega) h
  have g3 : bX7_hasRoom_3 s (nI c) (nI t) b (nI 3) = some (.inl (.inr ())) := by unfold bX7_hasRoom_3; rw [if_pos (by decide)]
  rw [show nI 0 = (0 : Int32) from rfl] at g0
  obtain ⟨k, hk⟩ := f600
  unfold fX7_hasRoom hasG
  rw [hk]
  cases q0 : roomG (s.1 20) n c t b 0
  · rw [q0, if_neg (by decide)] at g0
    rw [lp_l g0]; rfl
  · rw [q0, if_pos rfl] at g0
    rw [lp_r g0]
    cases q1 : roomG (s.1 20) n c t b 1
    · rw [q1, if_neg (by decide)] at g1
      rw [lp_l g1]; rfl
    · rw [q1, if_pos rfl] at g1
      rw [lp_r g1]
      cases q2 : roomG (s.1 20) n c t b 2
      · rw [q2, if_neg (by decide)] at g2
        rw [lp_l g2]; rfl
      · rw [q2, if_pos rfl] at g2
        rw [lp_r g2, lp_l g3]; rfl
theorem M_clashes (s : Mem) {p c t n : Nat} (hp : p < n) (hc : c < 4) (ht : t < 8) (h : okM (s.1 20) n) : fX7_clashes s (nI p) (nI c) (nI t) = some (bi (clsG (s.1 20) p c t)) := by
  have hn := h.1
  unfold fX7_clashes clsG
  rw [M_time s hc ht, Option.bind_some, M_away s (by omega), Option.bind_some, M_busy s (nI c) (by omega) (fun k hk => h.2.2 p hp k hk), Option.bind_some]
  by_cases e : timeG (s.1 20) c t &&& (s.1 20 (98 + 7 * p) ||| busyG (s.1 20) p (nI c) 4) = 0
  · rw [if_pos e, decide_eq_false (not_not_intro e)]; rfl
  · rw [if_neg e, decide_eq_true e]; rfl
def fitG (g : Nat → Int32) (n p c t : Nat) : Bool := freG g p c t && hasG g n c t (nI p)
theorem M_isFit (s : Mem) {p c t n : Nat} (hp : p < n) (hc : c < 4) (ht : t < 8) (h : okM (s.1 20) n) : fX7_isFit s (nI p) (nI c) (nI t) = some (bi (fitG (s.1 20) n p c t)) := by
  unfold fX7_isFit fitG freG
  rw [M_isLawful s hc ht, Option.bind_some, bi_n0, M_clashes s hp hc ht h, Option.bind_some, bi_n0, M_hasRoom s (nI p) hc ht h, Option.bind_some, bi_n0]
  cases lawG (s.1 20) c t <;> cases clsG (s.1 20) p c t <;> cases hasG (s.1 20) n c t (nI p) <;> rfl
theorem M_fitting (s : Mem) {p c n : Nat} (hp : p < n) (hc : c < 4) (h : okM (s.1 20) n) : fX7_fitting s (nI p) (nI c) = some (setG (fitG (s.1 20) n p c) 8) := by
  unfold fX7_fitting
  have key : lp (fun a => bX7_fitting_5 s (nI p) (nI c) a.1 a.2) 600 ((fun i => (setG (fitG (s.1 20) n p c) i, nI i)) 0) = some (setG (fitG (s.1 20) n p c) 8) := by
    refine lp_iter (fun i => (setG (fitG (s.1 20) n p c) i, nI i)) 8 (fun i hi => ?_) ?_ (by omega)
    · show bX7_fitting_5 s (nI p) (nI c) (setG (fitG (s.1 20) n p c) i) (nI i) = some (.inr (setG (fitG (s.1 20) n p c) (i + 1), nI (i + 1)))
      have e : setG (fitG (s.1 20) n p c) (i + 1) = if fitG (s.1 20) n p c i then setG (fitG (s.1 20) n p c) i ||| ((1 : Int32) <<< (nI i &&& 31)) else setG (fitG (s.1 20) n p c) i := rfl
      rw [e]
      unfold bX7_fitting_5
      rw [if_neg (nI_c8 hi), M_isFit s hp hc hi h, Option.bind_some, bi_n0]
      simp only [lt, nI_p1, or_0]
      cases fitG (s.1 20) n p c i <;> rfl
    · show bX7_fitting_5 s (nI p) (nI c) (setG (fitG (s.1 20) n p c) 8) (nI 8) = _
      unfold bX7_fitting_5
      rw [if_pos (by decide)]
  have e0 : ((0 : Int32), (0 : Int32)) = (fun i => (setG (fitG (s.1 20) n p c) i, nI i)) 0 := rfl
  rw [e0, key]
  rfl
