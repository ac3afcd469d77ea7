/-! the class: prepared for a course -/
theorem bit9 (a : Int32) {k : Nat} (hk : k < 9) : ((a >>> (nI k &&& 31)) &&& (1 : Int32)) = 0 ↔ a.toBitVec.getLsbD k = false := by
  rw [← Int32.toBitVec_inj, Int32.toBitVec_and, Int32.toBitVec_shiftRight]
  have e : (nI k &&& 31 : Int32).toBitVec.smod 32 = BitVec.ofNat 32 k := by
    have : ∀ k, k < 9 → (nI k &&& 31 : Int32).toBitVec.smod 32 = BitVec.ofNat 32 k := by decide +kernel
    exact this k hk
  rw [e]
  have e1 : (1 : Int32).toBitVec = BitVec.twoPow 32 0 := by decide +kernel
  rw [e1, BitVec.and_twoPow]
  have e2 : (a.toBitVec.sshiftRight' (BitVec.ofNat 32 k)).getLsbD 0 = a.toBitVec.getLsbD k := by
    show (a.toBitVec.sshiftRight (BitVec.ofNat 32 k).toNat).getLsbD 0 = _
    rw [BitVec.getLsbD_sshiftRight]
    have : (BitVec.ofNat 32 k).toNat = k := by rw [BitVec.toNat_ofNat]; omega
    rw [this]
    have h32 : k < 32 := by omega
    simp [h32]
  rw [e2]
  cases a.toBitVec.getLsbD k
  · simp
  · simp only [if_true, Bool.true_eq_false, iff_false]; decide +kernel
theorem may_bit (F : Nat → Bool) {dg : Nat} (hd : dg < 9) : ((((1 : Int32) ||| (setG F 8 <<< ((1 : Int32) &&& 31))) >>> (nI dg &&& 31)) &&& (1 : Int32)) = 0 ↔ (if dg = 0 then true else F (dg - 1)) = false := by
  rw [bit9 _ hd, Int32.toBitVec_or, BitVec.getLsbD_or, Int32.toBitVec_shiftLeft]
  have e : ((1 : Int32) &&& 31).toBitVec.smod 32 = 1#32 := by decide +kernel
  rw [e]
  have e2 : ((setG F 8).toBitVec <<< (1#32)).getLsbD dg = (decide (1 ≤ dg) && (setG F 8).toBitVec.getLsbD (dg - 1)) := by
    show ((setG F 8).toBitVec <<< (1#32).toNat).getLsbD dg = _
    rw [BitVec.getLsbD_shiftLeft, show (1#32).toNat = 1 from rfl]
    have h32 : dg < 32 := by omega
    by_cases q : dg < 1
    · have : ¬ 1 ≤ dg := by omega
      simp [q, this]
    · have : 1 ≤ dg := by omega
      simp [h32, this, q]
  rw [e2, setG_bit F 8 (by omega)]
  have e3 : (1 : Int32).toBitVec.getLsbD dg = decide (dg = 0) := by
    have : ∀ dg, dg < 9 → (1 : Int32).toBitVec.getLsbD dg = decide (dg = 0) := by decide +kernel
    exact this dg hd
  rw [e3]
  by_cases q : dg = 0
  · simp [q]
  · have h1 : 1 ≤ dg := by omega
    have h2 : dg - 1 < 8 := by omega
    simp [q, h1, h2]
theorem and_m2 (a : Int32) {dg : Nat} (hd : dg < 9) : (((a &&& (-2 : Int32)) >>> (nI dg &&& 31)) &&& (1 : Int32)) = 0 ↔ (dg = 0 ∨ ((a >>> (nI dg &&& 31)) &&& (1 : Int32)) = 0) := by
  rw [bit9 _ hd, bit9 _ hd, Int32.toBitVec_and, BitVec.getLsbD_and]
  have e3 : (-2 : Int32).toBitVec.getLsbD dg = decide (dg ≠ 0) := by
    have : ∀ dg, dg < 9 → (-2 : Int32).toBitVec.getLsbD dg = decide (dg ≠ 0) := by decide +kernel
    exact this dg hd
  rw [e3]
  by_cases q : dg = 0
  · simp [q]
  · simp [q]
theorem or_ass (a b d : Int32) : a ||| b ||| d = a ||| (b ||| d) := by
  apply Int32.toBitVec_inj.mp
  simp only [Int32.toBitVec_or, BitVec.or_assoc]
theorem or_com (a b : Int32) : a ||| b = b ||| a := by
  apply Int32.toBitVec_inj.mp
  simp only [Int32.toBitVec_or, BitVec.or_comm]
theorem or_idem (a : Int32) : a ||| a = a := by
  apply Int32.toBitVec_inj.mp
  simp only [Int32.toBitVec_or, BitVec.or_self]
theorem or_keep {p x : Int32} (q : Int32) (h : p ||| x = p) : (p ||| q) ||| x = p ||| q := by
  rw [or_ass, or_com q x, ← or_ass, h]
theorem C_prep90 (m : Mem) (F : Nat → Bool) (v2 v3 : Int32) : ∃ m2, lp (fun a => bX3_prepare_90 a.2 v2 v3 (setG F 8) a.1) 600 ((0 : Int32), m) = some m2 ∧ ((∀ a, a ≠ 5 → m2.1 a = m.1 a) ∧ (∀ j, j ≠ 7 → m2.1 5 j = m.1 5 j) ∧ m2.2 = m.2 ∧ (∀ x, m.1 5 7 ||| x = m.1 5 7 → m2.1 5 7 ||| x = m2.1 5 7) ∧ ∀ t, t < 8 → F t = true → m2.1 5 7 ||| nI t = m2.1 5 7) := by
  refine lp_inv (α := Int32 × Mem) (β := Mem) (fun i a => a.1 = nI i ∧ (∀ b, b ≠ 5 → a.2.1 b = m.1 b) ∧ (∀ j, j ≠ 7 → a.2.1 5 j = m.1 5 j) ∧ a.2.2 = m.2 ∧ (∀ x, m.1 5 7 ||| x = m.1 5 7 → a.2.1 5 7 ||| x = a.2.1 5 7) ∧ ∀ t, t < i → F t = true → a.2.1 5 7 ||| nI t = a.2.1 5 7) (fun m2 => (∀ a, a ≠ 5 → m2.1 a = m.1 a) ∧ (∀ j, j ≠ 7 → m2.1 5 j = m.1 5 j) ∧ m2.2 = m.2 ∧ (∀ x, m.1 5 7 ||| x = m.1 5 7 → m2.1 5 7 ||| x = m2.1 5 7) ∧ ∀ t, t < 8 → F t = true → m2.1 5 7 ||| nI t = m2.1 5 7) 8 ?_ ?_ (by omega) ⟨rfl, fun _ _ => rfl, fun _ _ => rfl, rfl, fun _ h => h, fun t ht => by omega⟩
  · rintro i ⟨x, m'⟩ hi ⟨h1, h2, h3, h4, h5, h6⟩
    simp only at h1 h2 h3 h4 h5 h6
    subst h1
    left
    show ∃ a', bX3_prepare_90 m' v2 v3 (setG F 8) (nI i) = some (.inr a') ∧ _
    unfold bX3_prepare_90
    rw [if_neg (nI_c8 hi), nI_p1]
    cases e : F i
    · rw [if_pos ((set_has F hi).mpr e), lt_e]
      refine ⟨_, rfl, rfl, h2, h3, h4, h5, fun t ht hF => ?_⟩
      by_cases q : t = i
      · subst q; rw [e] at hF; cases hF
      · exact h6 t (by omega) hF
    · rw [if_neg (fun q => by rw [(set_has F hi).mp q] at e; cases e), lt_e, lt_e]
      have e5 : (up2 m' 5 7 (m'.1 5 7 ||| nI i)).1 5 7 = m'.1 5 7 ||| nI i := by rw [up2_s, pk_us]
      refine ⟨_, rfl, rfl, fun b hb => ?_, fun j hj => ?_, h4, fun y hy => ?_, fun t ht hF => ?_⟩
      · show (up2 m' 5 7 _).1 b = _
        rw [up2_n hb]; exact h2 b hb
      · show (up2 m' 5 7 _).1 5 j = _
        rw [up2_s, pk_un hj]; exact h3 j hj
      · show (up2 m' 5 7 _).1 5 7 ||| y = (up2 m' 5 7 _).1 5 7
        rw [e5]; exact or_keep _ (h5 y hy)
      · show (up2 m' 5 7 _).1 5 7 ||| nI t = (up2 m' 5 7 _).1 5 7
        rw [e5]
        by_cases q : t = i
        · subst q; rw [or_ass, or_idem]
        · exact or_keep _ (h6 t (by omega) hF)
  · rintro ⟨x, m'⟩ ⟨h1, h2, h3, h4, h5, h6⟩
    simp only at h1 h2 h3 h4 h5 h6
    subst h1
    refine ⟨m', ?_, h2, h3, h4, h5, h6⟩
    show bX3_prepare_90 m' v2 v3 (setG F 8) (nI 8) = _
    unfold bX3_prepare_90
    rw [if_pos (by decide)]
/-- what a pupil may have, had -/
def mayG (g : Nat → Int32) (cs k t : Nat) : Bool := wshG g k cs && freG g k cs t
def hadG (g : Nat → Int32) (cs k : Nat) : Nat := match trp g k cs with
  | none => 0
  | some t => t + 1
theorem had_v {g : Nat → Int32} {cs k : Nat} (h : okT (g (100 + 7 * k + cs))) : g (100 + 7 * k + cs) + 1 = nI (hadG g cs k) ∧ hadG g cs k < 9 := by
  unfold hadG
  rcases trp_ok h with ⟨h1, -, h2⟩ | ⟨t, ht, h1, -, h3⟩
  · rw [h1, h2]; exact ⟨by decide, by decide⟩
  · rw [h1, h3]
    exact ⟨nI_p1 t, by show t + 1 < 9; omega⟩
def capF (f : Nat → Int32) (cs so w : Nat) : Nat := if cntF f cs so then (f (24 * cs + 8 * so + 4 * w + 2)).toNatClampNeg else 9
def baseC (f g : Nat → Int32) (n cs : Nat) (w : Int × Int × Int) : SCx := (n, fun k dg => if dg = 0 then true else mayG g cs k (dg - 1), hadG g cs, capF f cs, fun so => opn g cs so 0 && opn g cs so 1, w)
/-- rows made ready -/
def PrepM (m : Mem) (c : SCx) : Prop := cN c ≤ 6 ∧ m.1 5 6 = nI (cN c) ∧ (∀ k, k < cN c → ∀ dg, dg < 9 → (((m.1 7 k >>> (nI dg &&& 31)) &&& (1 : Int32)) = 0 ↔ cAl c k dg = false)) ∧ (∀ k, k < cN c → m.1 8 k = nI (cH c k) ∧ cH c k < 9) ∧ (∀ so, so < 3 → ∀ w, w < 2 → m.1 10 (2 * so + w) = nI (cK c so w) ∧ cK c so w ≤ 9) ∧ (∀ so, so < 3 → m.1 11 so = bi (cP c so))
theorem Prep_Seat {m : Mem} {c : SCx} (h : PrepM m c) (wS : 0 ≤ cS c ∧ cS c ≤ 10000) (wG : 0 ≤ cG c ∧ cG c ≤ 100) (wM : 0 ≤ cM c ∧ cM c ≤ 1) : SeatM (up2 (up2 (up2 (up2 m 5 8 0) 5 9 (iI (cS c))) 5 10 (iI (cG c))) 5 11 (iI (cM c))) c 0 := by
  obtain ⟨h1, h2, h3, h4, h5, h6⟩ := h
  generalize hs4 : up2 (up2 (up2 (up2 m 5 8 0) 5 9 (iI (cS c))) 5 10 (iI (cG c))) 5 11 (iI (cM c)) = s4
  have s4o : ∀ a, a ≠ 5 → s4.1 a = m.1 a := fun a ha => by rw [← hs4, up2_n ha, up2_n ha, up2_n ha, up2_n ha]
  unfold SeatM
  rw [s4o 7 (by omega), s4o 8 (by omega), s4o 10 (by omega), s4o 11 (by omega)]
  refine ⟨h1, ?_, ?_, fun _ => ⟨?_, ?_, ?_⟩, h3, h4, h5, h6, wS, wG, wM⟩
  · rw [← hs4, up2_get, if_neg (by omega), up2_get, if_neg (by omega), up2_get, if_neg (by omega), up2_get, if_neg (by omega)]; exact h2
  · rw [← hs4, up2_get, if_neg (by omega), up2_get, if_neg (by omega), up2_get, if_neg (by omega), up2_get, if_pos (by omega)]
  · rw [← hs4, up2_get, if_neg (by omega), up2_get, if_neg (by omega), up2_get, if_pos (by omega)]
  · rw [← hs4, up2_get, if_neg (by omega), up2_get, if_pos (by omega)]
  · rw [← hs4, up2_get, if_pos (by omega)]
theorem Prep_SeatN {m : Mem} {c : SCx} (h : PrepM m c) (wS : 0 ≤ cS c ∧ cS c ≤ 10000) (wG : 0 ≤ cG c ∧ cG c ≤ 100) (wM : 0 ≤ cM c ∧ cM c ≤ 1) : SeatM (up2 m 5 8 1) c 1 := by
  obtain ⟨h1, h2, h3, h4, h5, h6⟩ := h
  unfold SeatM
  rw [up2_n (show 7 ≠ 5 by omega), up2_n (show 8 ≠ 5 by omega), up2_n (show 10 ≠ 5 by omega), up2_n (show 11 ≠ 5 by omega)]
  refine ⟨h1, ?_, ?_, fun q => absurd q (by decide), h3, h4, h5, h6, wS, wG, wM⟩
  · rw [up2_get, if_neg (by omega)]; exact h2
  · rw [up2_get, if_pos (by omega)]
/-- the class's rows for pupils made ready up to i -/
def PI (m : Mem) (g : Nat → Int32) (cs i : Nat) (m' : Mem) : Prop := (∀ a, a ≠ 5 → a ≠ 7 → a ≠ 8 → a ≠ 9 → m'.1 a = m.1 a) ∧ (∀ j, j ≠ 7 → m'.1 5 j = m.1 5 j) ∧ m'.2 = m.2 ∧ (∀ k, k < i → m'.1 7 k = (1 : Int32) ||| (setG (mayG g cs k) 8 <<< ((1 : Int32) &&& 31)) ∧ m'.1 8 k = nI (hadG g cs k) ∧ m'.1 9 k = nI (hadG g cs k)) ∧ ∀ k, k < i → ∀ t, t < 8 → mayG g cs k t = true → m'.1 5 7 ||| nI t = m'.1 5 7
theorem set_0 : ∀ n, setG (fun _ => false) n = 0
  | 0 => rfl
  | n + 1 => by
    have e : setG (fun _ => false) (n + 1) = setG (fun _ => false) n := rfl
    rw [e, set_0 n]
theorem C_prep47 {m : Mem} {g : Nat → Int32} {cs n i : Nat} (hcs : cs < 4) (hi : i < n) (hn : n ≤ 6) (hsit : m.1 2 (99 + 7 * i + cs) = g (100 + 7 * i + cs)) (hT : okT (g (100 + 7 * i + cs))) {m' : Mem} (h : PI m g cs i m') : ∃ m2, gX3_prepare_47 m' (nI cs) (nI i) (setG (mayG g cs i) 8) = some (.inr (nI (i + 1), m2)) ∧ PI m g cs (i + 1) m2 := by
  obtain ⟨h1, h2, h3, h4, h5⟩ := h
  obtain ⟨ev, hlt⟩ := had_v hT
  generalize hA : up2 (up2 (up2 m' 7 i ((1 : Int32) ||| (setG (mayG g cs i) 8 <<< ((1 : Int32) &&& 31)))) 8 i (nI (hadG g cs i))) 9 i (nI (hadG g cs i)) = A
  have Ao : ∀ a, a ≠ 7 → a ≠ 8 → a ≠ 9 → A.1 a = m'.1 a := fun a q1 q2 q3 => by rw [← hA, up2_n q3, up2_n q2, up2_n q1]
  obtain ⟨m2, k1, k2, k3, k4, k5, k6⟩ := C_prep90 A (mayG g cs i) (nI cs) (nI i)
  refine ⟨m2, ?_, ?_, ?_, ?_, ?_, ?_⟩
  · unfold gX3_prepare_47
    rw [gd_in (by omega) (by omega), nI_clamp (by omega), lt_e, C_sits _ (by omega) hcs, Option.bind_some, up2_n (by omega), h1 2 (by omega) (by omega) (by omega) (by omega), hsit, ev, gd_in (by omega) (by omega), lt_e, gd_in (by omega) (by omega), gd_in (by omega) (by omega), lt_e, up2_s, pk_us, hA, k1, Option.bind_some, lt_e, nI_p1]
  · intro a q1 q2 q3 q4
    rw [k2 a q1, Ao a q2 q3 q4]; exact h1 a q1 q2 q3 q4
  · intro j hj
    rw [k3 j hj, Ao 5 (by omega) (by omega) (by omega)]; exact h2 j hj
  · rw [k4, ← hA]; exact h3
  · intro k hk
    rw [k2 7 (by omega), k2 8 (by omega), k2 9 (by omega), ← hA]
    by_cases q : k = i
    · subst q
      refine ⟨?_, ?_, ?_⟩
      · rw [up2_n (by omega), up2_n (by omega), up2_s, pk_us]
      · rw [up2_n (by omega), up2_s, pk_us]
      · rw [up2_s, pk_us]
    · obtain ⟨w1, w2, w3⟩ := h4 k (by omega)
      refine ⟨?_, ?_, ?_⟩
      · rw [up2_n (by omega), up2_n (by omega), up2_s, pk_un q]; exact w1
      · rw [up2_n (by omega), up2_s, pk_un q, up2_n (by omega)]; exact w2
      · rw [up2_s, pk_un q, up2_n (by omega), up2_n (by omega)]; exact w3
  · intro k hk t ht hm
    have e57 : A.1 5 7 = m'.1 5 7 := by rw [Ao 5 (by omega) (by omega) (by omega)]
    by_cases q : k = i
    · subst q; exact k6 t ht hm
    · exact k5 _ (by rw [e57]; exact h5 k (by omega) t ht hm)
theorem C_prep20 {m : Mem} {g : Nat → Int32} {n cs : Nat} (hS : SG (m.1 2) g) (hP : PG (m.1 2) g n) (hcs : cs < 4) (h56 : m.1 5 6 = nI n) (h57 : m.1 5 7 = 0) : ∃ m2, lp (fun a => bX3_prepare_20 a.2 (nI cs) a.1) 600 ((0 : Int32), m) = some m2 ∧ PI m g cs n m2 := by
  have hn := hP.1
  refine lp_inv (α := Int32 × Mem) (β := Mem) (fun i a => a.1 = nI i ∧ PI m g cs i a.2) (fun m2 => PI m g cs n m2) n ?_ ?_ (by omega) ⟨rfl, fun _ _ _ _ _ => rfl, fun _ _ => rfl, rfl, fun k hk => by omega, fun k hk => by omega⟩
  · rintro i ⟨x, m'⟩ hi ⟨h1, h2⟩
    simp only at h1 h2
    subst h1
    left
    have e2 : m'.1 2 = m.1 2 := h2.1 2 (by omega) (by omega) (by omega) (by omega)
    have e56 : m'.1 5 6 = nI n := by rw [h2.2.1 6 (by omega)]; exact h56
    obtain ⟨m2, k1, k2⟩ := C_prep47 hcs hi hn (BR_sits (Gd_BR hS hP) hi hcs) (PG_okP hP i hi cs hcs) h2
    show ∃ a', bX3_prepare_20 m' (nI cs) (nI i) = some (.inr a') ∧ _
    unfold bX3_prepare_20
    rw [e56, if_neg (nI_cn hi hn), C_wsh m' (g := g) (n := n) (by rw [e2]; exact hP) hi, Option.bind_some, bi_n0]
    cases e : wshG g i cs
    · have ez : setG (mayG g cs i) 8 = 0 := by
        rw [← set_0 8]
        apply setG_congr _ 8 (by omega)
        intro t ht
        unfold mayG; rw [e]; rfl
      rw [ez] at k1
      exact ⟨_, k1, rfl, k2⟩
    · have ez : setG (mayG g cs i) 8 = setG (freG g i cs) 8 := by
        apply setG_congr _ 8 (by omega)
        intro t ht
        unfold mayG; rw [e]; rfl
      rw [ez] at k1
      rw [if_pos rfl, C_freeSet m' (g := g) (n := n) (by rw [e2]; exact Gd_BR hS hP) (PG_okP hP) (SG_hrOK hS) hi hcs (fun k hk _ t ht => PG_snd hP k hk i hi t ht), Option.bind_some]
      exact ⟨_, k1, rfl, k2⟩
  · rintro ⟨x, m'⟩ ⟨h1, h2⟩
    simp only at h1 h2
    subst h1
    refine ⟨m', ?_, h2⟩
    show bX3_prepare_20 m' (nI cs) (nI n) = _
    unfold bX3_prepare_20
    rw [h2.2.1 6 (by omega), h56, if_pos (nI_le (Nat.le_refl n) (by omega))]
theorem nar_bi (b : Bool) : vp_nar .boolean (bi b) = bi b := by cases b <;> decide
def SI (m : Mem) (f g : Nat → Int32) (cs i : Nat) (m' : Mem) : Prop := (∀ a, a ≠ 10 → a ≠ 11 → m'.1 a = m.1 a) ∧ m'.2 = m.2 ∧ ∀ so, so < i → m'.1 11 so = bi (opn g cs so 0 && opn g cs so 1) ∧ ∀ w, w < 2 → m'.1 10 (2 * so + w) = nI (capF f cs so w)
theorem capF_v {f g : Nat → Int32} (hS : SG f g) {cs so w : Nat} (hc : cs < 4) (hs : so < 3) (hw : w < 2) : capF f cs so w ≤ 9 ∧ (cntF f cs so = true → f (24 * cs + 8 * so + 4 * w + 2) = nI (capF f cs so w)) := by
  obtain ⟨k, hk, e⟩ := (hS.2.2 cs hc so hs w hw).2.2.2
  unfold capF
  cases q : cntF f cs so
  · exact ⟨Nat.le_refl 9, fun z => by cases z⟩
  · rw [if_pos rfl, e, nI_clamp (by omega)]
    exact ⟨hk, fun _ => rfl⟩
theorem C_prep132 {m : Mem} {g : Nat → Int32} {cs : Nat} (hS : SG (m.1 2) g) (hcs : cs < 4) : ∃ m2, lp (fun a => bX3_prepare_132 a.2 (nI cs) a.1) 600 ((0 : Int32), m) = some m2 ∧ SI m (m.1 2) g cs 3 m2 := by
  refine lp_inv (α := Int32 × Mem) (β := Mem) (fun i a => a.1 = nI i ∧ SI m (m.1 2) g cs i a.2) (fun m2 => SI m (m.1 2) g cs 3 m2) 3 ?_ ?_ (by omega) ⟨rfl, fun _ _ _ => rfl, rfl, fun k hk => by omega⟩
  · rintro so ⟨x, m'⟩ hso ⟨h1, h2⟩
    simp only at h1 h2
    subst h1
    left
    have e2 : m'.1 2 = m.1 2 := h2.1 2 (by omega) (by omega)
    generalize hb : (opn g cs so 0 && opn g cs so 1) = b
    generalize hA : up2 m' 11 so (bi b) = A
    have A2 : A.1 2 = m.1 2 := by rw [← hA, up2_n (by omega), e2]
    have hip := C_isPaired m' (g := g) (by rw [e2]; exact hS.1) hcs hso
    rw [hb] at hip
    have hct := C_counts A hcs hso
    rw [A2] at hct
    have c0 := capF_v hS hcs hso (w := 0) (by omega)
    have c1 := capF_v hS hcs hso (w := 1) (by omega)
    have hfin : ∀ v0 v1 : Int32, v0 = nI (capF (m.1 2) cs so 0) → v1 = nI (capF (m.1 2) cs so 1) → SI m (m.1 2) g cs (so + 1) (up2 (up2 A 10 (2 * so) v0) 10 (2 * so + 1) v1) := by
      intro v0 v1 e0 e1
      refine ⟨fun a q1 q2 => ?_, ?_, fun so' hs' => ?_⟩
      · rw [up2_n q1, up2_n q1, ← hA, up2_n q2]; exact h2.1 a q1 q2
      · rw [up2_2, up2_2, ← hA]; exact h2.2.1
      · by_cases q : so' = so
        · subst q
          refine ⟨?_, fun w hw => ?_⟩
          · rw [up2_n (by omega), up2_n (by omega), ← hA, up2_s, pk_us, hb]
          · rw [up2_s]
            obtain rfl | rfl : w = 0 ∨ w = 1 := by omega
            · rw [show 2 * so' + 0 = 2 * so' from rfl, pk_un (by omega), up2_s, pk_us]; exact e0
            · rw [pk_us]; exact e1
        · obtain ⟨w1, w2⟩ := h2.2.2 so' (by omega)
          refine ⟨?_, fun w hw => ?_⟩
          · rw [up2_n (by omega), up2_n (by omega), ← hA, up2_s, pk_un q]; exact w1
          · rw [up2_s, pk_un (by omega), up2_s, pk_un (by omega), ← hA, up2_n (by omega)]; exact w2 w hw
    show ∃ a', bX3_prepare_132 m' (nI cs) (nI so) = some (.inr a') ∧ _
    unfold bX3_prepare_132
    rw [if_neg (nI_c3 hso), hip, Option.bind_some, gd_in hso (by omega), nI_clamp (by omega), nar_bi, lt_e, hA, hct, Option.bind_some, nI_mul2]
    unfold gX3_prepare_182 gX3_prepare_210
    simp only [lt_e, nI_mul2, nI_p1, nI_clamp (show 2 * so < 2 ^ 31 by omega), nI_clamp (show 2 * so + 1 < 2 ^ 31 by omega), gd_in (show 2 * so + 1 < 6 by omega) (show 6 < 2 ^ 31 by omega), gd_in (show 2 * so < 6 by omega) (show 6 < 2 ^ 31 by omega)]
    cases ec : cntF (m.1 2) cs so
    · rw [show bi false = 0 from rfl, if_pos rfl, if_pos rfl]
      refine ⟨_, rfl, rfl, hfin 9 9 ?_ ?_⟩
      · unfold capF; rw [ec]; rfl
      · unfold capF; rw [ec]; rfl
    · have o0 := C_ofSection A hcs hso (w := 0) (by omega) (j := 2) (by omega)
      rw [show nI 0 = (0 : Int32) from rfl, show nI 2 = (2 : Int32) from rfl, A2, c0.2 ec] at o0
      have o1 : ∀ v, fX0_ofSection (up2 A 10 (2 * so) v) (nI cs) (nI so) (1 : Int32) (2 : Int32) = some (nI (capF (m.1 2) cs so 1)) := by
        intro v
        have := C_ofSection (up2 A 10 (2 * so) v) hcs hso (w := 1) (by omega) (j := 2) (by omega)
        rw [up2_n (by omega), A2, c1.2 ec] at this
        exact this
      rw [show bi true = 1 from rfl, if_neg (by decide), o0, Option.bind_some, if_neg (by decide), o1, Option.bind_some]
      exact ⟨_, rfl, rfl, hfin _ _ rfl rfl⟩
  · rintro ⟨x, m'⟩ ⟨h1, h2⟩
    simp only at h1 h2
    subst h1
    refine ⟨m', ?_, h2⟩
    show bX3_prepare_132 m' (nI cs) (nI 3) = _
    unfold bX3_prepare_132
    rw [if_pos (by decide)]
def psF (p : Int32) (so : Nat) : Bool := if so = 0 then !decide (p &&& (4 : Int32) = 0) else if so = 1 then !decide (p &&& (2 : Int32) = 0) else !decide (p &&& (1 : Int32) = 0)
theorem psF_M {m : Mem} : psM m (psF (m.1 5 7)) := by
  unfold psM psF
  refine ⟨?_, ?_, ?_⟩ <;> simp
theorem prt_bit : ∀ t, t < 8 → (prt t 0 = 1 → ¬ (nI t &&& (4 : Int32)) = 0) ∧ (prt t 1 = 1 → ¬ (nI t &&& (2 : Int32)) = 0) ∧ (prt t 2 = 1 → ¬ (nI t &&& (1 : Int32)) = 0) := by decide +kernel
theorem psF_bit {p : Int32} {t so : Nat} (ht : t < 8) (hs : so < 3) (h : p ||| nI t = p) (hp : prt t so = 1) : psF p so = true := by
  have key : ∀ q : Int32, ¬ (nI t &&& q) = 0 → ¬ (p &&& q) = 0 := by
    intro q hq z
    rw [← h] at z
    exact hq ((and_or0 p (nI t) q).mp z).2
  have b := prt_bit t ht
  unfold psF
  obtain rfl | rfl | rfl : so = 0 ∨ so = 1 ∨ so = 2 := by omega
  · rw [if_pos rfl, decide_eq_false (key _ (b.1 hp))]; rfl
  · rw [if_neg (by omega), if_pos rfl, decide_eq_false (key _ (b.2.1 hp))]; rfl
  · rw [if_neg (by omega), if_neg (by omega), decide_eq_false (key _ (b.2.2 hp))]; rfl
theorem C_prepare {m : Mem} {g : Nat → Int32} {n cs : Nat} (w : Int × Int × Int) (hS : SG (m.1 2) g) (hP : PG (m.1 2) g n) (hcs : cs < 4) : ∃ m2 ps, fX3_prepare m (nI cs) = some m2 ∧ PrepM m2 (baseC (m.1 2) g n cs w) ∧ psM m2 ps ∧ psOK (baseC (m.1 2) g n cs w) ps ∧ (∀ a, a < 5 ∨ 11 < a → m2.1 a = m.1 a) ∧ m2.2 = m.2 ∧ (∀ k, k < n → m2.1 9 k = nI (hadG g cs k)) := by
  have hn := hP.1
  generalize hs3 : up2 (up2 m 5 6 (nI n)) 5 7 0 = s3
  have s3o : ∀ a, a ≠ 5 → s3.1 a = m.1 a := fun a ha => by rw [← hs3, up2_n ha, up2_n ha]
  obtain ⟨m1, k1, k2, k3, k4, k5, k6⟩ := C_prep20 (m := s3) (g := g) (n := n) (cs := cs) (by rw [s3o 2 (by omega)]; exact hS) (by rw [s3o 2 (by omega)]; exact hP) hcs (by rw [← hs3, up2_get, if_neg (by omega), up2_get, if_pos (by omega)]) (by rw [← hs3, up2_get, if_pos (by omega)])
  have e12 : m1.1 2 = m.1 2 := by rw [k2 2 (by omega) (by omega) (by omega) (by omega), s3o 2 (by omega)]
  obtain ⟨m2, j1, j2, j3, j4⟩ := C_prep132 (m := m1) (g := g) (cs := cs) (by rw [e12]; exact hS) hcs
  rw [e12] at j4
  have e56 : m2.1 5 6 = nI n := by rw [j2 5 (by omega) (by omega), k3 6 (by omega), ← hs3, up2_get, if_neg (by omega), up2_get, if_pos (by omega)]
  refine ⟨m2, psF (m2.1 5 7), ?_, ⟨hn, e56, fun k hk dg hd => ?_, fun k hk => ?_, fun so hs w' hw => ?_, fun so hs => (j4 so hs).1⟩, psF_M, fun k hk t ht ha so hs hp => ?_, fun a ha => ?_, ?_, fun k hk => ?_⟩
  · unfold fX3_prepare
    have hmin : mnI (6 : Int32) (nI n) = nI n := by
      unfold mnI
      by_cases q : n = 6
      · rw [q]; decide
      · rw [if_pos (show nI n < (6 : Int32) from nI_lt (b := 6) (by omega) (by omega))]
    rw [C_pupils, hP.2.2.1, Option.bind_some, hmin, lt_e, lt_e, hs3, k1, Option.bind_some, j1]
    rfl
  · rw [j2 7 (by omega) (by omega), (k5 k hk).1]
    exact may_bit (mayG g cs k) hd
  · rw [j2 8 (by omega) (by omega), (k5 k hk).2.1]
    exact ⟨rfl, (had_v (PG_okP hP k hk cs hcs)).2⟩
  · exact ⟨(j4 so hs).2 w' hw, (capF_v hS hcs hs hw).1⟩
  · have hm : mayG g cs k t = true := ha
    have := k6 k hk t ht hm
    refine psF_bit ht hs ?_ hp
    rw [j2 5 (by omega) (by omega)]; exact this
  · rw [j2 a (by omega) (by omega), k2 a (by omega) (by omega) (by omega) (by omega), s3o a (by omega)]
  · rw [j3, k4, ← hs3]; rfl
  · rw [j2 9 (by omega) (by omega)]; exact (k5 k hk).2.2
