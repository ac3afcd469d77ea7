/-! the pure theorem -/
theorem z_law : ∀ c, c < 4 → ∀ t, t < 8 → hrsG (fun _ => 0) c t = -1 := by decide +kernel
theorem z_SG : SG (fun j => if 139 ≤ j then -1 else 0) (fun _ => 0) := by
  refine ⟨?_, ?_, ?_⟩
  · intro c hc so hso w hw
    exact ⟨if_neg (by omega), fun h => absurd h (show ¬ (0 : Int32) = 1 from by decide)⟩
  · intro c hc t ht
    rw [z_law c hc t ht]
    exact if_pos (by omega)
  · intro c hc so hso w hw
    refine ⟨Or.inl rfl, ?_, ⟨0, by omega, rfl⟩, ⟨0, by omega, ?_⟩⟩
    · exact ⟨0, by decide, rfl⟩
    · exact if_neg (by omega)
theorem z_PG : PG (fun j => if 139 ≤ j then -1 else 0) (fun _ => 0) 0 := ⟨by omega, rfl, rfl, fun p hp => by omega, fun p hp => by omega⟩
theorem z_Rel : Rel mem0 := by
  refine ⟨⟨z_SG, 0, z_PG⟩, ⟨0, 0, 0, by omega, by omega, by omega, rfl, rfl, rfl, rfl, fun i hi => by omega⟩, fun k _ => rfl, rfl, ⟨0, by omega, rfl, rfl, fun i hi => by omega⟩, ?_⟩
  intro k hk
  have h4 : k = 0 ∨ k = 1 ∨ k = 2 ∨ k = 3 := by omega
  refine ⟨rfl, rfl, Or.inl ?_, ⟨0, by omega, rfl⟩, fun i _ => rfl⟩
  rcases h4 with rfl | rfl | rfl | rfl <;> rfl
theorem pure_main : ∀ X : Scr, X.1 ≤ 3584 → ∃ σ', fL_law X mem0 = some (1, σ') := by
  intro X hX
  have key : ∃ b, lp (α := Int32 × Mem) (β := (Int32 × Mem) ⊕ Mem) (fun a => bL_law_18 X a.2 a.1) 600 ((0 : Int32), mem0) = some b ∧ (∃ s2, b = .inr s2) := by
    refine lp_inv (α := Int32 × Mem) (β := (Int32 × Mem) ⊕ Mem) (fun j a => a.1 = nI (7 * j) ∧ Rel a.2) (fun b => ∃ s2, b = .inr s2) (X.1 / 7) ?_ ?_ (k := 600) (by omega) ⟨rfl, z_Rel⟩
    · rintro j ⟨v, s⟩ hj ⟨h1, h2⟩
      have h1 : v = nI (7 * j) := h1
      subst h1
      obtain ⟨s2, e, r⟩ := lw_step (X := X) h2 (i := 7 * j) (by omega) hX
      exact Or.inl ⟨_, e, by show nI (7 * j + 7) = nI (7 * (j + 1)); rw [Nat.mul_add], r⟩
    · rintro ⟨v, s⟩ ⟨h1, h2⟩
      have h1 : v = nI (7 * (X.1 / 7)) := h1
      subst h1
      refine ⟨.inr s, ?_, ⟨s, rfl⟩⟩
      show bL_law_18 X s (nI (7 * (X.1 / 7))) = some (.inl (.inr s))
      unfold bL_law_18
      refine if_pos ?_
      have e : (nI X.1 - nI 7).toInt = (X.1 : Int) - (7 : Nat) := pk_sub_toInt (by omega) (by omega)
      show nI X.1 - nI 7 < nI (7 * (X.1 / 7))
      rw [i32_lt, e, nI_toInt (by omega)]; omega
  obtain ⟨b, hb, s2, rfl⟩ := key
  refine ⟨s2, ?_⟩
  unfold fL_law
  rw [hb]; rfl
