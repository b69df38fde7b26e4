/-! the keywords stay -/
theorem TXkn {E : MEnv} {τ τ' : MTau} {z : Nat} (hT : TX E τ τ') (hz : τ z = none) (hq : (∃ q, E.2.1 z = some q) ∨ ∃ q, E.2.2.2 z = some q) : τ' z = none := by
  cases hx : τ' z with
  | none => rfl
  | some x =>
    rcases hT.2 z (by rw [hx]; simp) with h9 | ⟨m1, m2, -⟩
    · exact absurd hz h9
    · rcases hq with ⟨q, hq⟩ | ⟨q, hq⟩
      · rw [m1] at hq; cases hq
      · rw [m2] at hq; cases hq
theorem STR.ext {E : MEnv} {τ τ' : MTau} {o : Nat} {w : List Nat} (hT : TX E τ τ') (h : STR E τ o w) : STR E τ' o w := by
  obtain ⟨h1, h2, h3, h4, h5, h6, b, f, h7, h8, h9, h10⟩ := h
  exact ⟨TXkn hT h1 (Or.inr ⟨_, h2⟩), h2, h3, h4, h5, h6, b, f, h7, TXkn hT h8 (Or.inl ⟨_, h9⟩), h9, h10⟩
theorem KW.ext {E : MEnv} {τ τ' : MTau} (hT : TX E τ τ') (h : KW E τ) : KW E τ' := by
  obtain ⟨kw, f, h1, h2, h3, h4⟩ := h
  refine ⟨kw, f, h1, TXkn hT h2 (Or.inl ⟨_, h3⟩), h3, fun i w t hw => ?_⟩
  obtain ⟨o, s, g1, g2, g3, g4, g5, g6⟩ := h4 i w t hw
  exact ⟨o, s, g1, TXkn hT g2 (Or.inr ⟨_, g3⟩), g3, g4, g5, g6.ext hT⟩
