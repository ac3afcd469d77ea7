/-! J: a String constant by ldc_w -/
section LDW
variable {p : Program} {l : Launch} {e : Env} {R : Room} {s : State} {m : MethodId} {args : Array Value} {below : List Frame} {meth : Method} {c : Code} {H : Heap} {locs : List Loc} {cells slots : Nat} {Q : State → Prop}
theorem lw_ldcwT {T : State} (X : Stand p l e R s m args below meth c T locs cells slots) (hexec : p.tables.exec = Jvm.exec) {own text : String} {index : Nat} {a : Addr} (hown : s.vm.findClass own = some m.cls)
    (hconst : (Cond.stringRef own index text).before #[] s = true) (hev : (Term.string own index).eval #[] s none [] s = some (.ref a)) {g : JFrame} (hg : g.method = m) (hdg : decode c.code g.pc = .ok (.ldc_w index, 3)) :
    ∀ target, Steps p.tables e below (T.setTop { g with pc := g.pc + 3, stack := .ref a :: g.stack }) target → Steps p.tables e below (T.setTop g) target := by
  obtain ⟨k, cf, i, a', hk, hcf, hcp, -, hr, hev'⟩ := Cond.stringRef_spec hown hconst
  cases hev.symm.trans hev'
  obtain ⟨k', hk', he⟩ := X.warmed.alike.2.2 _ _ hk
  have hr' : k'.resolved[index]? = some (some (.string a)) := by
    rcases X.warmed.entry hk hk' index with h | ⟨h, -⟩
    · rw [h]; exact hr
    · rw [hr] at h; cases h
  intro target hrest
  subst hg
  jvm_step X.here [hexec, hdg, ldc_w.wp_string (e := e) (s := T) (f := g) X.here.top hk' (by rw [he]; exact hcf) hcp hr']
  exact hrest
theorem lw_ldcwS {cc : ByteArray} {pc : Nat} {ls : Array Slot} {rest : List Value} (hexec : p.tables.exec = Jvm.exec) (hb : c.code = cc) {own tx : String} {index q : Nat} (hown : s.vm.findClass own = some m.cls) (hZ : vk_R own index tx q s) (hdg : decode cc pc = .ok (.ldc_w index, 3))
    (k : W p l e R s m args below meth c H locs cells slots Q (F0 m (pc + 3) ls (.ref q :: rest))) : W p l e R s m args below meth c H locs cells slots Q (F0 m pc ls rest) := by
  intro T hT X
  obtain ⟨t, a1, b1⟩ := k T hT X
  exact ⟨t, lw_ldcwT X hexec hown (text := tx) (a := q) hZ.1 hZ.2 (g := F0 m pc ls rest) rfl (by rw [hb]; exact hdg) t a1, b1⟩
end LDW
theorem J_ldcwS {X : Scr} {M : MD} {d pc : Nat} {L : List (Option Value)} {st : List Value} {σ σ' : Mem} {w : Option Value} {n i : Nat} {tx : String} (hi : strL[i]? = some (M.1.cls, n, tx)) (hd : decode M.2.1 pc = .ok (.ldc_w n, 3)) (k : J X M d (pc + 3) L (.ref (1000 + i) :: st) σ w σ') : J X M d pc L st σ w σ' := by
  intro p l e R s m args below meth c H locs cells slots Q ls D ad cy A cx cs hc hw hl k9
  exact lw_ldcwS cx.1 cx.2.1 cx.2.2.2.1 (cs.2.2.1 i _ hi) hd (k p l e R s m args below meth c H locs cells slots Q ls D ad cy A cx cs hc hw hl k9)
theorem sl0 : strL[0]? = some (RX1, 9, "pupil") := rfl
theorem sl1 : strL[1]? = some (RX1, 11, "early") := rfl
theorem sl2 : strL[2]? = some (RX1, 13, "late") := rfl
theorem sl3 : strL[3]? = some (RX1, 15, "athlete") := rfl
theorem sl4 : strL[4]? = some (RX1, 17, "night") := rfl
theorem sl5 : strL[5]? = some (RX1, 19, "free") := rfl
theorem sl6 : strL[6]? = some (RX5, 84, "away") := rfl
theorem sl7 : strL[7]? = some (RX5, 93, "wish") := rfl
theorem sl8 : strL[8]? = some (RX5, 63, "lecture") := rfl
theorem sl9 : strL[9]? = some (RX5, 65, "lab") := rfl
theorem sl10 : strL[10]? = some (RX5, 67, "drill") := rfl
theorem sl11 : strL[11]? = some (RX5, 104, "cap") := rfl
theorem sl12 : strL[12]? = some (RX5, 111, "with") := rfl
theorem sl13 : strL[13]? = some (RX5, 44, ";") := rfl
theorem sl14 : strL[14]? = some (RX7, 360, "pupil") := rfl
theorem sl15 : strL[15]? = some (RX7, 362, "early") := rfl
theorem sl16 : strL[16]? = some (RX7, 364, "late") := rfl
theorem sl17 : strL[17]? = some (RX7, 366, "athlete") := rfl
theorem sl18 : strL[18]? = some (RX7, 368, "night") := rfl
theorem sl19 : strL[19]? = some (RX7, 370, "free") := rfl
theorem sl20 : strL[20]? = some (RX7, 371, "away") := rfl
theorem sl21 : strL[21]? = some (RX7, 378, "wish") := rfl
theorem sl22 : strL[22]? = some (RX7, 397, "lecture") := rfl
theorem sl23 : strL[23]? = some (RX7, 399, "lab") := rfl
theorem sl24 : strL[24]? = some (RX7, 401, "drill") := rfl
theorem sl25 : strL[25]? = some (RX7, 386, "cap") := rfl
theorem sl26 : strL[26]? = some (RX7, 388, "with") := rfl
theorem sl27 : strL[27]? = some (RX7, 409, ";") := rfl
