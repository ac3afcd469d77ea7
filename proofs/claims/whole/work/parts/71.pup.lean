/-! calls that change: pupil, leave, change -/
def comL (F : Nat → Int32) (b : Nat) : Nat → (Nat → Int32) := itr (fun c F' => upd F' (b + c) (-1)) F
theorem comL_s (F : Nat → Int32) (b i : Nat) : comL F b (i + 1) = upd (comL F b i) (b + i) (-1) := rfl
theorem comL_get (F : Nat → Int32) (b : Nat) : ∀ i j, comL F b i j = if b ≤ j ∧ j < b + i then -1 else F j
  | 0, j => by rw [if_neg (by omega)]; rfl
  | i + 1, j => by
    rw [comL_s]
    by_cases h : j = b + i
    · rw [h, pk_us, if_pos (by omega)]
    · rw [pk_un h, comL_get F b i j]
      by_cases h2 : b ≤ j ∧ j < b + i
      · rw [if_pos h2, if_pos (by omega)]
      · rw [if_neg h2, if_neg (by omega)]
def comF (f : Nat → Int32) (n : Nat) (kd aw wi : Int32) : Nat → Int32 := upd (comL (upd (upd (upd f (96 + 7 * n) kd) (97 + 7 * n) aw) (98 + 7 * n) wi) (99 + 7 * n) 4) 138 (nI (n + 1))
def comG (g : Nat → Int32) (n : Nat) (kd aw wi : Int32) : Nat → Int32 := upd (comL (upd (upd (upd g (97 + 7 * n) kd) (98 + 7 * n) aw) (99 + 7 * n) wi) (100 + 7 * n) 4) 96 (nI (n + 1))
theorem comF_o {f : Nat → Int32} {n j : Nat} {kd aw wi : Int32} (h : j < 96 + 7 * n ∨ 103 + 7 * n ≤ j) (h2 : j ≠ 138) : comF f n kd aw wi j = f j := by
  unfold comF
  rw [pk_un h2, comL_get, if_neg (by omega), pk_un (by omega), pk_un (by omega), pk_un (by omega)]
theorem comG_o {g : Nat → Int32} {n j : Nat} {kd aw wi : Int32} (h : j < 97 + 7 * n ∨ 104 + 7 * n ≤ j) (h2 : j ≠ 96) : comG g n kd aw wi j = g j := by
  unfold comG
  rw [pk_un h2, comL_get, if_neg (by omega), pk_un (by omega), pk_un (by omega), pk_un (by omega)]
theorem comF_v {f : Nat → Int32} {n : Nat} {kd aw wi : Int32} (hn : n < 6) : comF f n kd aw wi 138 = nI (n + 1) ∧ comF f n kd aw wi (96 + 7 * n) = kd ∧ comF f n kd aw wi (97 + 7 * n) = aw ∧ comF f n kd aw wi (98 + 7 * n) = wi ∧ ∀ c, c < 4 → comF f n kd aw wi (99 + 7 * n + c) = -1 := by
  unfold comF
  refine ⟨pk_us, ?_, ?_, ?_, fun c hc => ?_⟩
  · rw [pk_un (by omega), comL_get, if_neg (by omega), pk_un (by omega), pk_un (by omega), pk_us]
  · rw [pk_un (by omega), comL_get, if_neg (by omega), pk_un (by omega), pk_us]
  · rw [pk_un (by omega), comL_get, if_neg (by omega), pk_us]
  · rw [pk_un (by omega), comL_get, if_pos (by omega)]
theorem comG_v {g : Nat → Int32} {n : Nat} {kd aw wi : Int32} (hn : n < 6) : comG g n kd aw wi 96 = nI (n + 1) ∧ comG g n kd aw wi (97 + 7 * n) = kd ∧ comG g n kd aw wi (98 + 7 * n) = aw ∧ comG g n kd aw wi (99 + 7 * n) = wi ∧ ∀ c, c < 4 → comG g n kd aw wi (100 + 7 * n + c) = -1 := by
  unfold comG
  refine ⟨pk_us, ?_, ?_, ?_, fun c hc => ?_⟩
  · rw [pk_un (by omega), comL_get, if_neg (by omega), pk_un (by omega), pk_un (by omega), pk_us]
  · rw [pk_un (by omega), comL_get, if_neg (by omega), pk_un (by omega), pk_us]
  · rw [pk_un (by omega), comL_get, if_neg (by omega), pk_us]
  · rw [pk_un (by omega), comL_get, if_pos (by omega)]
theorem Gd_comes {f g : Nat → Int32} {n kd : Nat} {aw : Int32} {wi : Nat} (hS : SG f g) (hP : PG f g n) (hn : n < 6) (hk : kd < 6) (ha : hr aw) (hw : wi < 16) : SG (comF f n (nI kd) aw (nI wi)) (comG g n (nI kd) aw (nI wi)) ∧ PG (comF f n (nI kd) aw (nI wi)) (comG g n (nI kd) aw (nI wi)) (n + 1) := by
  obtain ⟨q1, q2, q3, q4, q5⟩ := hP
  obtain ⟨v0, v1, v2, v3, v4⟩ := comF_v (f := f) (kd := nI kd) (aw := aw) (wi := nI wi) hn
  obtain ⟨u0, u1, u2, u3, u4⟩ := comG_v (g := g) (kd := nI kd) (aw := aw) (wi := nI wi) hn
  have hg : ∀ j, j < 96 → comG g n (nI kd) aw (nI wi) j = g j := fun j hj => comG_o (by omega) (by omega)
  refine ⟨SG_cg hS (fun j hj => comF_o (by omega) (by omega)) hg (fun j hj _ => comF_o (by omega) (by omega)), by omega, u0, v0, fun p hp j hj => ?_, fun p hp => ?_⟩
  · by_cases e : p = n
    · subst e
      by_cases j0 : j = 0
      · subst j0; rw [Nat.add_zero, Nat.add_zero, v1, u1]
      · by_cases j1 : j = 1
        · subst j1; rw [show 96 + 7 * p + 1 = 97 + 7 * p by omega, show 97 + 7 * p + 1 = 98 + 7 * p by omega, v2, u2]
        · by_cases j2 : j = 2
          · subst j2; rw [show 96 + 7 * p + 2 = 98 + 7 * p by omega, show 97 + 7 * p + 2 = 99 + 7 * p by omega, v3, u3]
          · rw [show 96 + 7 * p + j = 99 + 7 * p + (j - 3) by omega, show 97 + 7 * p + j = 100 + 7 * p + (j - 3) by omega, v4 _ (by omega), u4 _ (by omega)]
    · rw [comF_o (by omega) (by omega), comG_o (by omega) (by omega)]
      exact q4 p (by omega) j hj
  · by_cases e : p = n
    · subst e
      refine ⟨⟨kd, hk, u1⟩, by rw [u2]; exact ha, ⟨wi, hw, u3⟩, fun c hc => Or.inl (u4 c hc)⟩
    · exact pupOK_cg (q5 p (by omega)) (by omega) hg (fun j hj => comG_o (by omega) (by omega))
theorem C_comes (s : Mem) {n : Nat} (kd aw wi : Int32) (hn : n < 6) (h : s.1 2 138 = nI n) : fX0_comes s kd aw wi = some (nI n, upR s 2 (comF (s.1 2) n kd aw wi)) := by
  have e0 : (96 : Int32) + (7 : Int32) * nI n = nI (96 + 7 * n) := by rw [show (96 : Int32) = nI 96 from rfl, show (7 : Int32) = nI 7 from rfl, pk_mul, nI_add]
  have hl : ∀ F : Nat → Int32, lp (fun a => bX0_comes_49 a.2 (nI n) (nI (96 + 7 * n)) a.1) 600 ((0 : Int32), upR s 2 F) = some (upR s 2 (comL F (99 + 7 * n) 4)) := by
    intro F
    have hs : ∀ i, i < 4 → bX0_comes_49 (upR s 2 (comL F (99 + 7 * n) i)) (nI n) (nI (96 + 7 * n)) (nI i) = some (.inr (nI (i + 1), upR s 2 (comL F (99 + 7 * n) (i + 1)))) := by
      intro i hi
      unfold bX0_comes_49
      rw [if_neg (nI_c4 hi), nI_p3, nI_add, gd_in (by omega) (by omega), nI_clamp (by omega), show 96 + 7 * n + 3 + i = 99 + 7 * n + i by omega]
      simp only [lt, nI_p1]
      rw [up2_R, upR_s, upR_R, comL_s]
    have he : bX0_comes_49 (upR s 2 (comL F (99 + 7 * n) 4)) (nI n) (nI (96 + 7 * n)) (nI 4) = some (.inl (upR s 2 (comL F (99 + 7 * n) 4))) := by
      unfold bX0_comes_49
      rw [if_pos (by decide)]
    exact lp_at (body := fun a => bX0_comes_49 a.2 (nI n) (nI (96 + 7 * n)) a.1) (a := ((0 : Int32), upR s 2 F)) (k := 600) (fun i => (nI i, upR s 2 (comL F (99 + 7 * n) i))) 4 rfl hs he (by omega)
  unfold fX0_comes
  rw [C_pupils, h, Option.bind_some]
  simp only [lt]
  rw [e0, nI_p0, nI_p1, nI_p2, gd_in (by omega) (by omega), gd_in (by omega) (by omega), gd_in (by omega) (by omega), nI_clamp (by omega), nI_clamp (by omega), nI_clamp (by omega), up2_R, up2_R, upR_s, upR_R, up2_R, upR_s, upR_R, show 96 + 7 * n + 1 = 97 + 7 * n by omega, show 96 + 7 * n + 2 = 98 + 7 * n by omega, hl, Option.bind_some, gd138, cl138, up2_R, upR_s, upR_R]
  rw [nI_p1]
  rfl
theorem M_comes (s : Mem) {n : Nat} (kd aw wi : Int32) (hn : n < 6) (h : s.1 20 96 = nI n) : fX7_comes s kd aw wi = some (upR s 20 (comG (s.1 20) n kd aw wi)) := by
  have e0 : (97 : Int32) + (7 : Int32) * nI n = nI (97 + 7 * n) := by rw [show (97 : Int32) = nI 97 from rfl, show (7 : Int32) = nI 7 from rfl, pk_mul, nI_add]
  have hl : ∀ F : Nat → Int32, lp (fun a => bX7_comes_46 a.2 (nI (97 + 7 * n)) a.1) 600 ((0 : Int32), upR s 20 F) = some (upR s 20 (comL F (100 + 7 * n) 4)) := by
    intro F
    have hs : ∀ i, i < 4 → bX7_comes_46 (upR s 20 (comL F (100 + 7 * n) i)) (nI (97 + 7 * n)) (nI i) = some (.inr (nI (i + 1), upR s 20 (comL F (100 + 7 * n) (i + 1)))) := by
      intro i hi
      unfold bX7_comes_46
      rw [if_neg (nI_c4 hi), nI_p3, nI_add, gd_in (by omega) (by omega), nI_clamp (by omega), show 97 + 7 * n + 3 + i = 100 + 7 * n + i by omega]
      simp only [lt, nI_p1]
      rw [up2_R, upR_s, upR_R, comL_s]
    have he : bX7_comes_46 (upR s 20 (comL F (100 + 7 * n) 4)) (nI (97 + 7 * n)) (nI 4) = some (.inl (upR s 20 (comL F (100 + 7 * n) 4))) := by
      unfold bX7_comes_46
      rw [if_pos (by decide)]
    exact lp_at (body := fun a => bX7_comes_46 a.2 (nI (97 + 7 * n)) a.1) (a := ((0 : Int32), upR s 20 F)) (k := 600) (fun i => (nI i, upR s 20 (comL F (100 + 7 * n) i))) 4 rfl hs he (by omega)
  unfold fX7_comes
  simp only [lt, cl96]
  rw [gd96, h, e0, nI_p1, nI_p2, gd_in (by omega) (by omega), gd_in (by omega) (by omega), gd_in (by omega) (by omega), nI_clamp (by omega), nI_clamp (by omega), nI_clamp (by omega), up2_R, up2_R, upR_s, upR_R, up2_R, upR_s, upR_R, show 97 + 7 * n + 1 = 98 + 7 * n by omega, show 97 + 7 * n + 2 = 99 + 7 * n by omega, hl, Option.bind_some, gd96, gd96, up2_R, upR_s, upR_R]
  have ev : comL (upd (upd (upd (s.1 20) (97 + 7 * n) kd) (98 + 7 * n) aw) (99 + 7 * n) wi) (100 + 7 * n) 4 96 = nI n := by
    rw [comL_get, if_neg (by omega), pk_un (by omega), pk_un (by omega), pk_un (by omega)]; exact h
  rw [ev, nI_p1]
  rfl
theorem call_pupil {s : Mem} (hR : Rel s) (x y z : Int32) : OK2 (fX6_pupil s x y z) (fun s1 => fX7_pupil s1 x y z) := by
  obtain ⟨hS, n, hP⟩ := hR.1
  have hn := hP.1
  have m96 : ∀ s1 : Mem, (∀ a, a ≠ 18 → s1.1 a = s.1 a) → s1.1 20 96 = nI n := fun s1 h1 => by rw [h1 20 (by omega)]; exact hP.2.1
  cases e : inR x 0 5
  · refine fnd hR 0 (by omega) _ ?_ (fun s1 h1 _ => ?_)
    · unfold fX6_pupil gX6_pupil_26; rw [C_isKind, e]; rfl
    · show fX7_pupil s1 x y z = _
      unfold fX7_pupil gX7_pupil_26; rw [M_isKind, e]; rfl
  cases e2 : inR y 0 1048575
  · refine fnd hR 0 (by omega) _ ?_ (fun s1 h1 _ => ?_)
    · unfold fX6_pupil gX6_pupil_26; rw [C_isKind, e, C_isHours, e2]; rfl
    · show fX7_pupil s1 x y z = _
      unfold fX7_pupil gX7_pupil_26; rw [M_isKind, e, M_areHours, e2]; rfl
  cases e3 : inR z 0 15
  · refine fnd hR 0 (by omega) _ ?_ (fun s1 h1 _ => ?_)
    · unfold fX6_pupil gX6_pupil_26; rw [C_isKind, e, C_isHours, e2, wi_in z 0 15 (by decide) (by decide), e3]; rfl
    · show fX7_pupil s1 x y z = _
      unfold fX7_pupil gX7_pupil_26; rw [M_isKind, e, M_areHours, e2, mi_in z 0 15 (by decide) (by decide), e3]; rfl
  have hx : fX6_pupil s x y z = if nI n < (6 : Int32) then (fX6_begin s).bind (fun y6 => (fX0_comes y6 x y z).bind (fun y7 => some ((y7.1, y7.2)))) else (fX6_finding s (1 : Int32)).bind (fun y8 => some ((y8.1, y8.2))) := by
    unfold fX6_pupil
    rw [C_isKind, e, C_isHours, e2, wi_in z 0 15 (by decide) (by decide), e3, Option.bind_some, bi_n0, if_pos rfl, Option.bind_some, bi_n0, if_pos rfl, Option.bind_some, bi_n0, if_pos rfl, C_pupils, hP.2.2.1, Option.bind_some]
  have hy : ∀ s1 : Mem, s1.1 20 = s.1 20 → fX7_pupil s1 x y z = if nI n = (6 : Int32) then (fX7_finds s1 (1 : Int32)).bind (fun y10 => some ((y10.1, y10.2))) else (fX7_laysAside s1).bind (fun y6 => (fX7_comes y6 x y z).bind (fun y7 => (fX7_changes y7).bind (fun y8 => gd (96 : Int32) 139 (some (((y8.1 20 (96 : Int32).toNatClampNeg) - (1 : Int32), y8)))))) := by
    intro s1 e20
    unfold fX7_pupil
    rw [M_isKind, e, M_areHours, e2, mi_in z 0 15 (by decide) (by decide), e3, Option.bind_some, bi_n0, if_pos rfl, Option.bind_some, bi_n0, if_pos rfl, Option.bind_some, bi_n0, if_pos rfl, gd96]
    simp only [cl96]
    rw [e20, hP.2.1]
  by_cases h6 : n = 6
  · refine fnd hR 1 (by omega) _ ?_ (fun s1 h1 _ => ?_)
    · rw [hx, if_neg (by rw [h6]; decide)]; rfl
    · show fX7_pupil s1 x y z = _
      rw [hy s1 (h1 20 (by omega)), if_pos (by rw [h6]; rfl)]; rfl
  · obtain ⟨a, ha, rfl⟩ := inR_ex (h := 5) (by omega) e
    obtain ⟨b, hb, rfl⟩ := inR_ex (h := 1048575) (by omega) e2
    obtain ⟨d, hd, rfl⟩ := inR_ex (h := 15) (by omega) e3
    obtain ⟨s1, b1, b2, b3, b4, b5, b6, -⟩ := C_beg hR
    have hG := Gd_comes (kd := a) (aw := nI b) (wi := d) hS hP (by omega) (by omega) ⟨b, by omega, rfl⟩ (by omega)
    have hc := C_comes s1 (nI a) (nI b) (nI d) (n := n) (by omega) (by rw [b3]; exact hP.2.2.1)
    rw [b3] at hc
    refine ok_chg hR (a := nI n) (s1 := upR s1 2 (comF (s.1 2) n (nI a) (nI b) (nI d))) ?_ (b2 _) ⟨hG.1, n + 1, hG.2⟩ (fun s2 k1 k2 => ?_)
    · rw [hx, if_pos (show nI n < (6 : Int32) from nI_lt (b := 6) (by omega) (by omega)), b1, Option.bind_some, hc]; rfl
    · have e20 : (upR s1 2 (comF (s.1 2) n (nI a) (nI b) (nI d))).1 20 = s.1 20 := by rw [upR_1, if_neg (by omega), b4]
      show fX7_pupil (upR s1 2 (comF (s.1 2) n (nI a) (nI b) (nI d))) (nI a) (nI b) (nI d) = _
      rw [hy _ e20, if_neg (by rw [show (6 : Int32) = nI 6 from rfl, nI_eq (by omega) (by omega)]; exact h6), M_aside, Option.bind_some, aside_id, M_comes _ _ _ _ (n := n) (by omega) (by rw [upR_s, e20]; exact hP.2.1), Option.bind_some, upR_R, upR_s, e20]
      rw [e20] at k1
      rw [k1, Option.bind_some, gd96, cl96, k2, (comG_v (by omega)).1, nI_pred]
theorem call_leave {s : Mem} (hR : Rel s) : OK2 (fX6_leave s) (fun s1 => fX7_leave s1) := by
  obtain ⟨hS, n, hP⟩ := hR.1
  have hn := hP.1
  by_cases h0 : n = 0
  · refine fnd hR 3 (by omega) _ ?_ (fun s1 h1 _ => ?_)
    · unfold fX6_leave; rw [C_pupils, hP.2.2.1, h0]; rfl
    · show fX7_leave s1 = _
      unfold fX7_leave; rw [gd96]; simp only [cl96]; rw [h1 20 (by omega), hP.2.1, h0]; rfl
  · obtain ⟨m, rfl⟩ : ∃ m, n = m + 1 := ⟨n - 1, by omega⟩
    obtain ⟨q1, q2, q3, q4, q5⟩ := hP
    obtain ⟨s1, b1, b2, b3, b4, b5, b6, -⟩ := C_beg hR
    have hne : ¬ nI (m + 1) = (0 : Int32) := nI_ne0 (by omega) (by omega)
    have hG : Gd (upd (s.1 2) 138 (nI m)) (upd (s.1 20) 96 (nI m)) := by
      have hg : ∀ j, j < 96 → upd (s.1 20) 96 (nI m) j = s.1 20 j := fun j hj => pk_un (by omega)
      refine ⟨SG_cg hS (fun j hj => pk_un (by omega)) hg (fun j hj _ => pk_un (by omega)), m, by omega, pk_us, pk_us, fun p hp j hj => ?_, fun p hp => ?_⟩
      · rw [pk_un (by omega), pk_un (by omega)]; exact q4 p (by omega) j hj
      · exact pupOK_cg (q5 p (by omega)) (by omega) hg (fun j hj => pk_un (by omega))
    refine ok_chg hR (a := nI m) (s1 := upR s1 2 (upd (s.1 2) 138 (nI m))) ?_ (b2 _) hG (fun s2 k1 k2 => ?_)
    · unfold fX6_leave fX0_lastGoes
      rw [C_pupils, q3, Option.bind_some, if_neg hne, b1, Option.bind_some, gd138, gd138, cl138]
      simp only [lt]
      rw [gd138, up2_R, upR_s, b3, q3, nI_pred, pk_us]
      rfl
    · have e20 : (upR s1 2 (upd (s.1 2) 138 (nI m))).1 20 = s.1 20 := by rw [upR_1, if_neg (by omega), b4]
      show fX7_leave (upR s1 2 (upd (s.1 2) 138 (nI m))) = _
      unfold fX7_leave
      rw [gd96]
      simp only [cl96]
      rw [e20, q2, if_neg hne, M_aside, Option.bind_some, aside_id, gd96, gd96, up2_R, upR_s, upR_R, e20, q2, nI_pred]
      simp only [lt]
      rw [e20] at k1
      rw [k1, Option.bind_some, gd96, k2, pk_us]
/-- a pupil's kind, hours or wishes become others -/
def becG (g : Nat → Int32) (p j : Nat) (v : Int32) : Nat → (Nat → Int32) := itr (fun c g' => if wshG g' p c then g' else upd g' (100 + 7 * p + c) (-1)) (upd g (97 + 7 * p + j) v)
def becF (f g : Nat → Int32) (p j : Nat) (v : Int32) : Nat → (Nat → Int32) := itr (fun c f' => if wshG (becG g p j v c) p c then f' else upd f' (99 + 7 * p + c) (-1)) (upd f (96 + 7 * p + j) v)
theorem becG_s (g : Nat → Int32) (p j : Nat) (v : Int32) (c : Nat) : becG g p j v (c + 1) = if wshG (becG g p j v c) p c then becG g p j v c else upd (becG g p j v c) (100 + 7 * p + c) (-1) := rfl
theorem becF_s (f g : Nat → Int32) (p j : Nat) (v : Int32) (c : Nat) : becF f g p j v (c + 1) = if wshG (becG g p j v c) p c then becF f g p j v c else upd (becF f g p j v c) (99 + 7 * p + c) (-1) := rfl
theorem Gd_fld {f g : Nat → Int32} {n p j : Nat} {v : Int32} (hS : SG f g) (hP : PG f g n) (hp : p < n) (hj : j < 3) (hv : (j = 0 → ∃ k, k < 6 ∧ v = nI k) ∧ (j = 1 → hr v) ∧ (j = 2 → ∃ k, k < 16 ∧ v = nI k)) : SG (upd f (96 + 7 * p + j) v) (upd g (97 + 7 * p + j) v) ∧ PG (upd f (96 + 7 * p + j) v) (upd g (97 + 7 * p + j) v) n := by
  obtain ⟨q1, q2, q3, q4, q5⟩ := hP
  have hg : ∀ i, i < 96 → upd g (97 + 7 * p + j) v i = g i := fun i hi => pk_un (by omega)
  refine ⟨SG_cg hS (fun i hi => pk_un (by omega)) hg (fun i hi _ => pk_un (by omega)), q1, by rw [pk_un (by omega)]; exact q2, by rw [pk_un (by omega)]; exact q3, fun p' hp' i hi => ?_, fun p' hp' => ?_⟩
  · by_cases e : p' = p ∧ i = j
    · obtain ⟨rfl, rfl⟩ := e
      rw [pk_us, pk_us]
    · rw [pk_un (by omega), pk_un (by omega)]; exact q4 p' hp' i hi
  · by_cases e : p' = p
    · subst e
      obtain ⟨w1, w2, w3, w4⟩ := q5 p' hp'
      refine ⟨?_, ?_, ?_, fun c hc => ?_⟩
      · by_cases z : j = 0
        · subst z; rw [Nat.add_zero, pk_us]; exact hv.1 rfl
        · rw [pk_un (by omega)]; exact w1
      · by_cases z : j = 1
        · subst z; rw [show 98 + 7 * p' = 97 + 7 * p' + 1 by omega, pk_us]; exact hv.2.1 rfl
        · rw [pk_un (by omega)]; exact w2
      · by_cases z : j = 2
        · subst z; rw [show 99 + 7 * p' = 97 + 7 * p' + 2 by omega, pk_us]; exact hv.2.2 rfl
        · rw [pk_un (by omega)]; exact w3
      · rw [pk_un (by omega)]
        rcases w4 c hc with q | ⟨t, ht, q, hl⟩
        · exact Or.inl q
        · exact Or.inr ⟨t, ht, q, by rw [law_cg hg hc ht]; exact hl⟩
    · exact pupOK_cg (q5 p' hp') (by omega) hg (fun i hi => pk_un (by omega))
theorem Gd_bec {f g : Nat → Int32} {n p j : Nat} {v : Int32} (hS : SG f g) (hP : PG f g n) (hp : p < n) (hj : j < 3) (hv : (j = 0 → ∃ k, k < 6 ∧ v = nI k) ∧ (j = 1 → hr v) ∧ (j = 2 → ∃ k, k < 16 ∧ v = nI k)) : ∀ i, i ≤ 4 → SG (becF f g p j v i) (becG g p j v i) ∧ PG (becF f g p j v i) (becG g p j v i) n
  | 0, _ => Gd_fld hS hP hp hj hv
  | i + 1, hi => by
    have ih := Gd_bec hS hP hp hj hv i (by omega)
    rw [becF_s, becG_s]
    cases wshG (becG g p j v i) p i
    · exact Gd_sits ih.1 ih.2 hp (by omega) (Or.inl rfl)
    · exact ih
theorem C_becomes (s : Mem) {g : Nat → Int32} {n p j : Nat} {v : Int32} (hS : SG (s.1 2) g) (hP : PG (s.1 2) g n) (hp : p < n) (hj : j < 3) (hv : (j = 0 → ∃ k, k < 6 ∧ v = nI k) ∧ (j = 1 → hr v) ∧ (j = 2 → ∃ k, k < 16 ∧ v = nI k)) : fX0_becomes s (nI p) (nI j) v = some (g (97 + 7 * p + j), upR s 2 (becF (s.1 2) g p j v 4)) := by
  have hn := hP.1
  have e : (96 : Int32) + (7 : Int32) * nI p + nI j = nI (96 + 7 * p + j) := by rw [show (96 : Int32) = nI 96 from rfl, show (7 : Int32) = nI 7 from rfl, pk_mul, nI_add, nI_add]
  have hs : ∀ i, i < 4 → ∀ w, bX0_becomes_26 (upR s 2 (becF (s.1 2) g p j v i)) (nI p) w (nI i) = some (.inr (nI (i + 1), upR s 2 (becF (s.1 2) g p j v (i + 1)))) := by
    intro i hi w
    have hG := Gd_bec hS hP hp hj hv i (by omega)
    unfold bX0_becomes_26
    rw [if_neg (nI_c4 hi), C_wsh (g := becG g p j v i) (n := n) _ (by rw [upR_s]; exact hG.2) hp, Option.bind_some, bi_n0, sits_up _ _ _ (by omega) hi, becF_s]
    simp only [lt, nI_p1, Option.bind_some]
    cases wshG (becG g p j v i) p i <;> rfl
  have he : ∀ w, bX0_becomes_26 (upR s 2 (becF (s.1 2) g p j v 4)) (nI p) w (nI 4) = some (.inl (upR s 2 (becF (s.1 2) g p j v 4))) := by
    intro w
    unfold bX0_becomes_26
    rw [if_pos (by decide)]
  unfold fX0_becomes
  rw [C_ofPupil s (by omega) (by omega), Option.bind_some, e, gd_in (by omega) (by omega), nI_clamp (by omega), hP.2.2.2.1 p hp j (by omega)]
  simp only [lt]
  rw [up2_R, lp_at (body := fun a => bX0_becomes_26 a.2 (nI p) (g (97 + 7 * p + j)) a.1) (a := ((0 : Int32), upR s 2 (upd (s.1 2) (96 + 7 * p + j) v))) (k := 600) (fun i => (nI i, upR s 2 (becF (s.1 2) g p j v i))) 4 rfl (fun i hi => hs i hi _) (he _) (by omega)]
  rfl
theorem M_chg127 (s : Mem) (g : Nat → Int32) {p j : Nat} (v w : Int32) (hp : p < 6) : lp (fun a => bX7_change_127 a.2 (nI p) w a.1) 600 ((0 : Int32), upR s 20 (upd g (97 + 7 * p + j) v)) = some (upR s 20 (becG g p j v 4)) := by
  have hs : ∀ i, i < 4 → bX7_change_127 (upR s 20 (becG g p j v i)) (nI p) w (nI i) = some (.inr (nI (i + 1), upR s 20 (becG g p j v (i + 1)))) := by
    intro i hi
    unfold bX7_change_127
    rw [if_neg (nI_c4 hi), M_wishes _ hp, Option.bind_some, M_has, Option.bind_some, bi_n0, puts_up _ _ _ hp hi, upR_s, becG_s]
    simp only [lt, nI_p1, Option.bind_some]
    unfold wshG
    cases decide ((becG g p j v i (99 + 7 * p) >>> (nI i &&& 31)) &&& (1 : Int32) = 1) <;> rfl
  have he : bX7_change_127 (upR s 20 (becG g p j v 4)) (nI p) w (nI 4) = some (.inl (upR s 20 (becG g p j v 4))) := by
    unfold bX7_change_127
    rw [if_pos (by decide)]
  exact lp_at (body := fun a => bX7_change_127 a.2 (nI p) w a.1) (a := ((0 : Int32), upR s 20 (upd g (97 + 7 * p + j) v))) (k := 600) (fun i => (nI i, upR s 20 (becG g p j v i))) 4 rfl hs he (by omega)
/-- what a pupil's kind, hours, wishes may become -/
def canB (x v : Int32) : Bool := if x = 0 then inR v 0 5 else if x = 1 then inR v 0 1048575 else if x = 2 then inR v 0 15 else false
theorem C_canBecome (x v : Int32) : fX6_canBecome x v = some (bi (canB x v)) := by
  unfold fX6_canBecome canB
  rw [C_isKind, C_isHours, wi_in v 0 15 (by decide) (by decide), Option.bind_some, Option.bind_some, Option.bind_some, gz_bi, gz_bi, gz_bi]
  by_cases h0 : x = 0
  · rw [if_pos h0, if_pos h0]
  · rw [if_neg h0, if_neg h0]
    by_cases h1 : x = 1
    · rw [if_pos h1, if_pos h1]
    · rw [if_neg h1, if_neg h1]
      by_cases h2 : x = 2
      · rw [if_pos h2, if_pos h2]
      · rw [if_neg h2, if_neg h2]; rfl
theorem canB_ex {x v : Int32} (h : canB x v = true) : ∃ j, j < 3 ∧ x = nI j ∧ ((j = 0 → ∃ k, k < 6 ∧ v = nI k) ∧ (j = 1 → hr v) ∧ (j = 2 → ∃ k, k < 16 ∧ v = nI k)) := by
  unfold canB at h
  by_cases h0 : x = 0
  · rw [if_pos h0] at h
    obtain ⟨k, hk, rfl⟩ := inR_ex (h := 5) (by omega) h
    exact ⟨0, by omega, h0, fun _ => ⟨k, by omega, rfl⟩, fun q => by omega, fun q => by omega⟩
  · rw [if_neg h0] at h
    by_cases h1 : x = 1
    · rw [if_pos h1] at h
      obtain ⟨k, hk, rfl⟩ := inR_ex (h := 1048575) (by omega) h
      exact ⟨1, by omega, h1, fun q => by omega, fun _ => ⟨k, by omega, rfl⟩, fun q => by omega⟩
    · rw [if_neg h1] at h
      by_cases h2 : x = 2
      · rw [if_pos h2] at h
        obtain ⟨k, hk, rfl⟩ := inR_ex (h := 15) (by omega) h
        exact ⟨2, by omega, h2, fun q => by omega, fun q => by omega, fun _ => ⟨k, by omega, rfl⟩⟩
      · rw [if_neg h2] at h; cases h
theorem M_change0 (s : Mem) {n : Nat} (x y v : Int32) (hn : n ≤ 6) (h : s.1 20 96 = nI n) : fX7_change s x y v = if inR x 0 ((n : Int) - 1) = true ∧ canB y v = true then gX7_change_67 s x y v else gX7_change_61 s := by
  unfold fX7_change
  rw [M_isPupil s x hn h, Option.bind_some, bi_n0, mi_in y 0 2 (by decide) (by decide), Option.bind_some, bi_n0, M_isKind, Option.bind_some, bi_n0, M_areHours, Option.bind_some, bi_n0, mi_in v 0 15 (by decide) (by decide), Option.bind_some, bi_n0]
  cases e : inR x 0 ((n : Int) - 1)
  · rw [if_neg (by decide), if_neg (fun q => by cases q.1)]
  · rw [if_pos rfl]
    unfold canB
    by_cases h0 : y = 0
    · subst h0
      cases inR v 0 5 <;> simp [inR]
    · by_cases h1 : y = 1
      · subst h1
        cases inR v 0 1048575 <;> simp [inR]
      · by_cases h2 : y = 2
        · subst h2
          cases inR v 0 15 <;> simp [inR]
        · have : inR y 0 2 = false := by
            rw [Bool.eq_false_iff]; intro q
            obtain ⟨k, hk, rfl⟩ := inR_ex (h := 2) (by omega) q
            obtain rfl | rfl | rfl : k = 0 ∨ k = 1 ∨ k = 2 := by omega
            · exact h0 rfl
            · exact h1 rfl
            · exact h2 rfl
          rw [this, if_neg (show ¬ (false = true) by decide), if_neg]
          intro q
          have q2 := q.2
          rw [if_neg h0, if_neg h1, if_neg h2] at q2
          cases q2
theorem call_change {s : Mem} (hR : Rel s) (x y v : Int32) : OK2 (fX6_change s x y v) (fun s1 => fX7_change s1 x y v) := by
  obtain ⟨hS, n, hP⟩ := hR.1
  have hn := hP.1
  have m96 : ∀ s1 : Mem, (∀ a, a ≠ 18 → s1.1 a = s.1 a) → s1.1 20 96 = nI n := fun s1 h1 => by rw [h1 20 (by omega)]; exact hP.2.1
  cases e : inR x 0 ((n : Int) - 1)
  · refine fnd hR 0 (by omega) _ ?_ (fun s1 h1 _ => ?_)
    · unfold fX6_change gX6_change_16; rw [C_isPupil s x hn hP.2.2.1, e]; rfl
    · show fX7_change s1 x y v = _
      rw [M_change0 s1 x y v hn (m96 s1 h1), e, if_neg (fun q => by cases q.1)]; rfl
  cases e2 : canB y v
  · refine fnd hR 0 (by omega) _ ?_ (fun s1 h1 _ => ?_)
    · unfold fX6_change gX6_change_16; rw [C_isPupil s x hn hP.2.2.1, e, C_canBecome, e2]; rfl
    · show fX7_change s1 x y v = _
      rw [M_change0 s1 x y v hn (m96 s1 h1), e2, if_neg (fun q => by cases q.2)]; rfl
  obtain ⟨p, hp, rfl⟩ := isP_ex hn e
  obtain ⟨j, hj, rfl, hv⟩ := canB_ex e2
  have hx : fX6_change s (nI p) (nI j) v = if nI j = (1 : Int32) then (if (v &&& busyG (s.1 20) p (-1) 4) = (0 : Int32) then gX6_change_47 s (nI p) (nI j) v else (fX6_finding s (4 : Int32)).bind (fun y7 => some ((y7.1, y7.2)))) else gX6_change_47 s (nI p) (nI j) v := by
    unfold fX6_change
    rw [C_isPupil s _ hn hP.2.2.1, e, C_canBecome, e2, Option.bind_some, bi_n0, if_pos rfl, Option.bind_some, bi_n0, if_pos rfl, C_busyA s hS hP hp, Option.bind_some]
  have hy : ∀ s1 : Mem, s1.1 20 = s.1 20 → fX7_change s1 (nI p) (nI j) v = if nI j = (1 : Int32) then (if (v &&& busyG (s.1 20) p (-1) 4) = (0 : Int32) then gX7_change_89 s1 (nI p) (nI j) v else (fX7_finds s1 (4 : Int32)).bind (fun y7 => some ((y7.1, y7.2)))) else gX7_change_89 s1 (nI p) (nI j) v := by
    intro s1 e20
    rw [M_change0 s1 _ _ v hn (by rw [e20]; exact hP.2.1), e, e2, if_pos ⟨rfl, rfl⟩]
    unfold gX7_change_67
    rw [M_busyA s1 (n := n) (by rw [e20]; exact PG_okM hP) hp, Option.bind_some, e20]
  by_cases z : nI j = (1 : Int32) ∧ ¬ (v &&& busyG (s.1 20) p (-1) 4) = (0 : Int32)
  · refine fnd hR 4 (by omega) _ ?_ (fun s1 h1 _ => ?_)
    · rw [hx, if_pos z.1, if_neg z.2]; rfl
    · show fX7_change s1 (nI p) (nI j) v = _
      rw [hy s1 (h1 20 (by omega)), if_pos z.1, if_neg z.2]; rfl
  have hx' : fX6_change s (nI p) (nI j) v = gX6_change_47 s (nI p) (nI j) v := by
    rw [hx]
    by_cases w : nI j = (1 : Int32)
    · rw [if_pos w, if_pos (Classical.byContradiction fun q => z ⟨w, q⟩)]
    · rw [if_neg w]
  have hy' : ∀ s1 : Mem, s1.1 20 = s.1 20 → fX7_change s1 (nI p) (nI j) v = gX7_change_89 s1 (nI p) (nI j) v := by
    intro s1 e20
    rw [hy s1 e20]
    by_cases w : nI j = (1 : Int32)
    · rw [if_pos w, if_pos (Classical.byContradiction fun q => z ⟨w, q⟩)]
    · rw [if_neg w]
  obtain ⟨s1, b1, b2, b3, b4, b5, b6, -⟩ := C_beg hR
  have hG := Gd_bec hS hP hp hj hv 4 (by omega)
  have hc := C_becomes s1 (g := s.1 20) (n := n) (p := p) (j := j) (v := v) (by rw [b3]; exact hS) (by rw [b3]; exact hP) hp hj hv
  rw [b3] at hc
  refine ok_chg hR (a := s.1 20 (97 + 7 * p + j)) (s1 := upR s1 2 (becF (s.1 2) (s.1 20) p j v 4)) ?_ (b2 _) ⟨hG.1, n, hG.2⟩ (fun s2 k1 k2 => ?_)
  · rw [hx']
    unfold gX6_change_47
    rw [b1, Option.bind_some, hc]; rfl
  · have e20 : (upR s1 2 (becF (s.1 2) (s.1 20) p j v 4)).1 20 = s.1 20 := by rw [upR_1, if_neg (by omega), b4]
    show fX7_change (upR s1 2 (becF (s.1 2) (s.1 20) p j v 4)) (nI p) (nI j) v = _
    rw [hy' _ e20]
    unfold gX7_change_89
    rw [M_aside, Option.bind_some, aside_id, ixQ, gd_in (by omega) (by omega)]
    simp only [lt]
    rw [gd_in (by omega) (by omega), nI_clamp (by omega), up2_R, upR_s, upR_R, e20, M_chg127 _ _ _ _ (by omega), Option.bind_some]
    rw [e20] at k1
    rw [k1]
    rfl
