/-! the pure theorem -/
theorem pure_main : ∀ X : Scr, X.1 ≤ 3584 → ∃ σ', fL_law X mem0 = some (1, σ') := sorry
