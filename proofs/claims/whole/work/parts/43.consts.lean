/-! the law's start: constants -/
theorem flatG {args : Array Value} {s : State} (h : (Jvm.Cond.and given_1 narrow_1).before args s = true) {w : Cond} (hw : w ∈ flatC (Jvm.Cond.and given_1 narrow_1)) : w.before args s = true := flat_of_before _ h w hw
def tmV (own : String) (k : Nat) : Term := .field (.string own k) "java/lang/String" "value" "[B"
def strW (own : String) (k : Nat) (b : List Int32) : List Cond := [.exactly (.string own k) "java/lang/String", .eq (.field (.string own k) "java/lang/String" "coder" "B") (.int 0), .arrayOf (tmV own k) .byte, .eq (.length (tmV own k)) (.int (Int32.ofNat b.length))] ++ (List.range b.length).map (fun j => .eq (.elem (tmV own k) (.int (Int32.ofNat j))) (.int (b.getD j 0)))
def flG : List Cond := flatC (Jvm.Cond.and given_1 narrow_1)
theorem strW_0 : strW RX1 9 [112, 117, 112, 105, 108] = (flG.drop 29).take 9 := by decide +kernel
theorem strW_1 : strW RX1 11 [101, 97, 114, 108, 121] = (flG.drop 38).take 9 := by decide +kernel
theorem strW_2 : strW RX1 13 [108, 97, 116, 101] = (flG.drop 47).take 8 := by decide +kernel
theorem strW_3 : strW RX1 15 [97, 116, 104, 108, 101, 116, 101] = (flG.drop 55).take 11 := by decide +kernel
theorem strW_4 : strW RX1 17 [110, 105, 103, 104, 116] = (flG.drop 66).take 9 := by decide +kernel
theorem strW_5 : strW RX1 19 [102, 114, 101, 101] = (flG.drop 75).take 8 := by decide +kernel
theorem strW_6 : strW RX5 84 [97, 119, 97, 121] = (flG.drop 83).take 8 := by decide +kernel
theorem strW_7 : strW RX5 93 [119, 105, 115, 104] = (flG.drop 91).take 8 := by decide +kernel
theorem strW_8 : strW RX5 63 [108, 101, 99, 116, 117, 114, 101] = (flG.drop 99).take 11 := by decide +kernel
theorem strW_9 : strW RX5 65 [108, 97, 98] = (flG.drop 110).take 7 := by decide +kernel
theorem strW_10 : strW RX5 67 [100, 114, 105, 108, 108] = (flG.drop 117).take 9 := by decide +kernel
theorem strW_11 : strW RX5 104 [99, 97, 112] = (flG.drop 126).take 7 := by decide +kernel
theorem strW_12 : strW RX5 111 [119, 105, 116, 104] = (flG.drop 133).take 8 := by decide +kernel
theorem strW_13 : strW RX5 44 [59] = (flG.drop 141).take 5 := by decide +kernel
theorem strW_14 : strW RX7 360 [112, 117, 112, 105, 108] = (flG.drop 146).take 9 := by decide +kernel
theorem strW_15 : strW RX7 362 [101, 97, 114, 108, 121] = (flG.drop 156).take 9 := by decide +kernel
theorem strW_16 : strW RX7 364 [108, 97, 116, 101] = (flG.drop 166).take 8 := by decide +kernel
theorem strW_17 : strW RX7 366 [97, 116, 104, 108, 101, 116, 101] = (flG.drop 175).take 11 := by decide +kernel
theorem strW_18 : strW RX7 368 [110, 105, 103, 104, 116] = (flG.drop 187).take 9 := by decide +kernel
theorem strW_19 : strW RX7 370 [102, 114, 101, 101] = (flG.drop 197).take 8 := by decide +kernel
theorem strW_20 : strW RX7 371 [97, 119, 97, 121] = (flG.drop 206).take 8 := by decide +kernel
theorem strW_21 : strW RX7 378 [119, 105, 115, 104] = (flG.drop 215).take 8 := by decide +kernel
theorem strW_22 : strW RX7 397 [108, 101, 99, 116, 117, 114, 101] = (flG.drop 224).take 11 := by decide +kernel
theorem strW_23 : strW RX7 399 [108, 97, 98] = (flG.drop 236).take 7 := by decide +kernel
theorem strW_24 : strW RX7 401 [100, 114, 105, 108, 108] = (flG.drop 244).take 9 := by decide +kernel
theorem strW_25 : strW RX7 386 [99, 97, 112] = (flG.drop 254).take 7 := by decide +kernel
theorem strW_26 : strW RX7 388 [119, 105, 116, 104] = (flG.drop 262).take 8 := by decide +kernel
theorem strW_27 : strW RX7 409 [59] = (flG.drop 271).take 5 := by decide +kernel
theorem sub_flG {l : List Cond} {a n : Nat} (h : l = (flG.drop a).take n) : ∀ w ∈ l, w ∈ flatC (Jvm.Cond.and given_1 narrow_1) := fun w hw => by
  rw [h] at hw
  exact List.mem_of_mem_drop (List.mem_of_mem_take hw)
theorem strW_all : ∀ (i : Nat) (q : String × Nat × String) (b : List Int32), strL[i]? = some q → strB[i]? = some b → (∀ w ∈ strW q.1 q.2.1 b, w ∈ flatC (Jvm.Cond.and given_1 narrow_1)) ∧ b.length < 2 ^ 31 := by
  intro i q b hi hb
  match i, hi, hb with
  | 0, hi, hb => cases hi; cases hb; exact ⟨sub_flG strW_0, by decide⟩
  | 1, hi, hb => cases hi; cases hb; exact ⟨sub_flG strW_1, by decide⟩
  | 2, hi, hb => cases hi; cases hb; exact ⟨sub_flG strW_2, by decide⟩
  | 3, hi, hb => cases hi; cases hb; exact ⟨sub_flG strW_3, by decide⟩
  | 4, hi, hb => cases hi; cases hb; exact ⟨sub_flG strW_4, by decide⟩
  | 5, hi, hb => cases hi; cases hb; exact ⟨sub_flG strW_5, by decide⟩
  | 6, hi, hb => cases hi; cases hb; exact ⟨sub_flG strW_6, by decide⟩
  | 7, hi, hb => cases hi; cases hb; exact ⟨sub_flG strW_7, by decide⟩
  | 8, hi, hb => cases hi; cases hb; exact ⟨sub_flG strW_8, by decide⟩
  | 9, hi, hb => cases hi; cases hb; exact ⟨sub_flG strW_9, by decide⟩
  | 10, hi, hb => cases hi; cases hb; exact ⟨sub_flG strW_10, by decide⟩
  | 11, hi, hb => cases hi; cases hb; exact ⟨sub_flG strW_11, by decide⟩
  | 12, hi, hb => cases hi; cases hb; exact ⟨sub_flG strW_12, by decide⟩
  | 13, hi, hb => cases hi; cases hb; exact ⟨sub_flG strW_13, by decide⟩
  | 14, hi, hb => cases hi; cases hb; exact ⟨sub_flG strW_14, by decide⟩
  | 15, hi, hb => cases hi; cases hb; exact ⟨sub_flG strW_15, by decide⟩
  | 16, hi, hb => cases hi; cases hb; exact ⟨sub_flG strW_16, by decide⟩
  | 17, hi, hb => cases hi; cases hb; exact ⟨sub_flG strW_17, by decide⟩
  | 18, hi, hb => cases hi; cases hb; exact ⟨sub_flG strW_18, by decide⟩
  | 19, hi, hb => cases hi; cases hb; exact ⟨sub_flG strW_19, by decide⟩
  | 20, hi, hb => cases hi; cases hb; exact ⟨sub_flG strW_20, by decide⟩
  | 21, hi, hb => cases hi; cases hb; exact ⟨sub_flG strW_21, by decide⟩
  | 22, hi, hb => cases hi; cases hb; exact ⟨sub_flG strW_22, by decide⟩
  | 23, hi, hb => cases hi; cases hb; exact ⟨sub_flG strW_23, by decide⟩
  | 24, hi, hb => cases hi; cases hb; exact ⟨sub_flG strW_24, by decide⟩
  | 25, hi, hb => cases hi; cases hb; exact ⟨sub_flG strW_25, by decide⟩
  | 26, hi, hb => cases hi; cases hb; exact ⟨sub_flG strW_26, by decide⟩
  | 27, hi, hb => cases hi; cases hb; exact ⟨sub_flG strW_27, by decide⟩
  | i + 28, hi, _ => simp [strL] at hi
theorem strR_all : strL.all (fun q => decide (Cond.stringRef q.1 q.2.1 q.2.2 ∈ lw_tbl)) = true := by decide +kernel
theorem str_at {args : Array Value} {s : State} {A : Nat → Prop} (hgv : (Jvm.Cond.and given_1 narrow_1).before args s = true) (hA : ∀ a : Nat, a < s.heap.size → ¬ A a) {i : Nat} {q : String × Nat × String} {b : List Int32} (hi : strL[i]? = some q) (hb : strB[i]? = some b) :
    ∃ a v : Nat, (Term.string q.1 q.2.1).eval args s none [] s = some (.ref a) ∧ va_O "java/lang/String" a A s s.heap ∧ va_OF "java/lang/String" "coder" "B" (.int 0) a A s s.heap ∧ va_OF "java/lang/String" "value" "[B" (.ref v) a A s s.heap ∧ va_T .byte v b.length (fun j => .int (b.getD j 0)) A s s.heap := by
  have h0 := strW_all i q b hi hb
  have hw : ∀ w ∈ strW q.1 q.2.1 b, w.before args s = true := fun w hw => flatG hgv (h0.1 w hw)
  obtain ⟨adK, adV, hS, hev⟩ := vk_Sof (args := args) (s := s) (N := 1) (tm := fun _ => .string q.1 q.2.1) (len := [b.length]) (byt := [b]) (A := A)
    (fun i hi => by rw [show i = 0 by omega]; exact h0.2)
    (fun i _ => hw _ (by simp [strW]))
    (fun i _ => hw _ (by simp [strW]))
    (fun i _ => hw _ (by simp [strW, tmV]))
    (fun i hi => by rw [show i = 0 by omega]; exact hw _ (by simp [strW, tmV]))
    (fun i hi j hj => by
      rw [show i = 0 by omega] at hj ⊢
      exact hw _ (List.mem_append_right _ (List.mem_map.mpr ⟨j, List.mem_range.mpr hj, rfl⟩)))
    (fun i j hi hj hne => absurd (by omega : i = j) hne) hA
  obtain ⟨h1, h2, h3, h4⟩ := hS.1 0 (by omega)
  exact ⟨adK 0, adV 0, hev 0 (by omega), h1, h2, h3, h4⟩
theorem eq_ev {args : Array Value} {s : State} {t : Term} {n : Int32} (h : (Cond.eq t (.int n)).before args s = true) : t.eval args s none [] s = some (.int n) := by
  obtain ⟨y, h1, h2⟩ := Cond.eq_one (show (Cond.eq t (.int n)).holds args s none s [] = true from h)
  cases h2
  exact h1
def arW (C n : String) (b : List Int32) : List Cond := [.arrayOf (.static C n "[I") .int, .eq (.length (.static C n "[I")) (.int (Int32.ofNat b.length))] ++ (List.range b.length).map (fun j => .eq (.elem (.static C n "[I") (.int (Int32.ofNat j))) (.int (b.getD j 0)))
theorem arW_lay : (arW RX3 "LAYER" [0, 1, 10, 46, 146, 371, 812]).all (fun w => decide (w ∈ flatC (Jvm.Cond.and given_1 narrow_1))) = true := by decide +kernel
theorem arW_blk : (arW RX3 "BLOCK" [0, 1, 9, 36, 100, 225, 441]).all (fun w => decide (w ∈ flatC (Jvm.Cond.and given_1 narrow_1))) = true := by decide +kernel
theorem ar_at {args : Array Value} {s : State} {A : Nat → Prop} (hgv : (Jvm.Cond.and given_1 narrow_1).before args s = true) (hA : ∀ a : Nat, a < s.heap.size → ¬ A a) {C n : String} {b : List Int32} (hb : b.length < 2 ^ 31) (hw : (arW C n b).all (fun w => decide (w ∈ flatC (Jvm.Cond.and given_1 narrow_1))) = true) :
    ∃ t : Nat, (Term.static C n "[I").eval args s none [] s = some (.ref t) ∧ va_T .int t b.length (fun j => .int (b.getD j 0)) A s s.heap := by
  have hw : ∀ w ∈ arW C n b, w.before args s = true := fun w h => flatG hgv (by have := List.all_eq_true.mp hw w h; simpa using this)
  exact va_Tof hb (hw _ (by simp [arW])) (eq_ev (hw _ (by simp [arW]))) (fun j hj => eq_ev (hw _ (List.mem_append_right _ (List.mem_map.mpr ⟨j, List.mem_range.mpr hj, rfl⟩)))) hA
theorem cmpW : Cond.eq (.static "java/lang/String" "COMPACT_STRINGS" "Z") (.int 1) ∈ flatC (Jvm.Cond.and given_1 narrow_1) := by decide +kernel
theorem fmtW : Cond.isRef (.static "jdk/internal/util/Preconditions" "SIOOBE_FORMATTER" "Ljava/util/function/BiFunction;") ∈ flatC (Jvm.Cond.and given_1 narrow_1) := by decide +kernel
theorem lsLay : Cond.laysStatic RX3 "LAYER" "[I" ∈ lw_tbl := List.mem_of_getElem? (i := 647) (by decide +kernel)
theorem lsBlk : Cond.laysStatic RX3 "BLOCK" "[I" ∈ lw_tbl := List.mem_of_getElem? (i := 649) (by decide +kernel)
theorem lsCmp : Cond.laysStatic "java/lang/String" "COMPACT_STRINGS" "Z" ∈ lw_tbl := List.mem_of_getElem? (i := 831) (by decide +kernel)
theorem lsFmt : Cond.laysStatic "jdk/internal/util/Preconditions" "SIOOBE_FORMATTER" "Ljava/util/function/BiFunction;" ∈ lw_tbl := List.mem_of_getElem? (i := 847) (by decide +kernel)
theorem inSeat : Cond.initialized RX3 ∈ lw_tbl := List.mem_of_getElem? (i := 103) (by decide +kernel)
theorem inStr : Cond.initialized "java/lang/String" ∈ lw_tbl := List.mem_of_getElem? (i := 111) (by decide +kernel)
theorem inPre : Cond.initialized "jdk/internal/util/Preconditions" ∈ lw_tbl := List.mem_of_getElem? (i := 113) (by decide +kernel)
theorem aoI : Cond.arrayOver (.array .int) ∈ lw_tbl := List.mem_of_getElem? (i := 1028) (by decide +kernel)
theorem aoJ : Cond.arrayOver (.array .long) ∈ lw_tbl := List.mem_of_getElem? (i := 1030) (by decide +kernel)
theorem nestL_in : nestL.all (fun w => decide (w ∈ lw_tbl)) = true := by decide +kernel
theorem nestC_in : nestC.all (fun w => decide (w ∈ lw_tbl)) = true := by decide +kernel
theorem gw_lt {w : Cond} (h : w ∈ gw) : w ∈ lw_tbl := (List.mem_filter.mp h).1
/-- the classes of arrays -/
theorem arr_of {args : Array Value} {s : State} {ty : FieldType} (h : (Cond.arrayClass ty).before args s = true) (hra : ∀ cA, s.vm.findClass ("[" ++ ty.toString) = some cA → va_RA s cA ty) : ∃ cA, ArrOfT s cA ty ∧ va_RA s cA ty := by
  obtain ⟨c, k, comp, h1, h2, h3⟩ := Cond.arrayClass_spec (show (Cond.arrayClass ty).holds args s none s [] = true from h)
  exact ⟨c, fun n z => ⟨fun q hq => (by cases hq), k, h2, comp, h3⟩, hra c h1⟩
theorem arr_over {args : Array Value} {s : State} {ty : FieldType} (h : (Cond.arrayOver (.array ty)).before args s = true) : ∃ cA, ArrOfT s cA (.array ty) ∧ va_RA s cA (.array ty) := by
  obtain ⟨comp, c, k, h1, h2, h3, h4, h5⟩ := arrayOver_specB (show (Cond.arrayOver (.array ty)).holds args s none s [] = true from h)
  exact ⟨c, fun n z => ⟨fun q hq => (by cases hq), k, h3, comp, h4⟩, h5⟩
theorem tys_of {args : Array Value} {s : State} (hts : ∀ w ∈ lw_tbl, w.before args s = true) : ∃ cy : Nat → ClassId, ∀ (k : Nat) (q : ClassId × FieldType), (tysOf cy)[k]? = some q → ArrOfT s q.1 q.2 ∧ va_RA s q.1 q.2 := by
  obtain ⟨c0, h0⟩ := arr_of (hts _ (gw_lt acI)) (fun _ h => h)
  obtain ⟨c1, h1⟩ := arr_of (hts _ (gw_lt acB)) (fun _ h => h)
  obtain ⟨c2, h2⟩ := arr_of (hts _ (gw_lt acZ)) (fun _ h => h)
  obtain ⟨c3, h3⟩ := arr_of (hts _ (gw_lt acJ)) (fun _ h => h)
  obtain ⟨c4, h4⟩ := arr_over (hts _ aoI)
  obtain ⟨c5, h5⟩ := arr_over (hts _ aoJ)
  refine ⟨fun k => if k = 0 then c0 else if k = 1 then c1 else if k = 2 then c2 else if k = 3 then c3 else if k = 4 then c4 else c5, ?_⟩
  intro k q hq
  rcases k with _ | _ | _ | _ | _ | _ | k
  · cases hq; exact h0
  · cases hq; exact h1
  · cases hq; exact h2
  · cases hq; exact h3
  · cases hq; exact h4
  · cases hq; exact h5
  · simp [tysOf] at hq
theorem isX0 : Cond.instantiable RX0 1 ∈ lw_tbl := List.mem_of_getElem? (i := 124) (by decide +kernel)
theorem isX2 : Cond.instantiable RX2 3 ∈ lw_tbl := List.mem_of_getElem? (i := 135) (by decide +kernel)
theorem isX3 : Cond.instantiable RX3 12 ∈ lw_tbl := List.mem_of_getElem? (i := 151) (by decide +kernel)
theorem isX4 : Cond.instantiable RX4 3 ∈ lw_tbl := List.mem_of_getElem? (i := 253) (by decide +kernel)
theorem isX5 : Cond.instantiable RX5 14 ∈ lw_tbl := List.mem_of_getElem? (i := 195) (by decide +kernel)
theorem isX6 : Cond.instantiable RX6 7 ∈ lw_tbl := List.mem_of_getElem? (i := 116) (by decide +kernel)
theorem isX7 : Cond.instantiable RX7 29 ∈ lw_tbl := List.mem_of_getElem? (i := 1022) (by decide +kernel)
theorem dom_of {args : Array Value} {s : State} (hts : ∀ w ∈ lw_tbl, w.before args s = true) : ∃ D : va_G, ∀ (k : Nat) (q : vw_C), classes[k]? = some q → u_Kn s q.1 q.2.1 q.2.2 (D.1 k) (D.2 k) := by
  obtain ⟨c0, i0, h0⟩ := u_known (C := RX0) (T := TX0) hts (fun z hz => gw_lt (uwX0 z hz)) (hts _ isX0)
  obtain ⟨c1, i1, h1⟩ := u_known (C := RX2) (T := TX2) hts (fun z hz => gw_lt (uwX2 z hz)) (hts _ isX2)
  obtain ⟨c2, i2, h2⟩ := u_known (C := RX3) (T := TX3) hts (fun z hz => gw_lt (uwX3 z hz)) (hts _ isX3)
  obtain ⟨c3, i3, h3⟩ := u_known (C := RX4) (T := TX4) hts (fun z hz => gw_lt (uwX4 z hz)) (hts _ isX4)
  obtain ⟨c4, i4, h4⟩ := u_known (C := RX5) (T := TX5) hts (fun z hz => gw_lt (uwX5 z hz)) (hts _ isX5)
  obtain ⟨c5, i5, h5⟩ := u_known (C := RX6) (T := TX6) hts (fun z hz => gw_lt (uwX6 z hz)) (hts _ isX6)
  obtain ⟨c6, i6, h6⟩ := u_known (C := RX7) (T := TX7) hts (fun z hz => gw_lt (uwX7 z hz)) (hts _ isX7)
  refine ⟨(fun k => if k = 0 then c0 else if k = 1 then c1 else if k = 2 then c2 else if k = 3 then c3 else if k = 4 then c4 else if k = 5 then c5 else c6, fun k => if k = 0 then i0 else if k = 1 then i1 else if k = 2 then i2 else if k = 3 then i3 else if k = 4 then i4 else if k = 5 then i5 else i6), ?_⟩
  intro k q hq
  rcases k with _ | _ | _ | _ | _ | _ | _ | k
  · cases hq; exact h0
  · cases hq; exact h1
  · cases hq; exact h2
  · cases hq; exact h3
  · cases hq; exact h4
  · cases hq; exact h5
  · cases hq; exact h6
  · simp [classes] at hq
