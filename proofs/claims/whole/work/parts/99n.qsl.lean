/-! sleeper: answered or thrown -/
section QS
variable {i : Tb} {rv : Nat → Nat → Option Nat} {c n : Nat}
theorem Q_sleeper (h : Inv c n i rv) (a1 a2 : Int32) :
    (∃ v, fX11_sleeper a1 a2 i = some v ∧ fX12_sleeper a1 a2 i = some (v, u2 i 50 0 0) ∧ Inv (c + 1) n (u2 i 50 0 0) rv) ∨
    (∃ v, fX1_hasSleeper 15 a1 i = some v ∧ (v = 0 ∨ a2 < 0 ∨ 10 < a2) ∧ fX12_sleeper a1 a2 i = some (0, u2 i 50 0 1) ∧ Inv (c + 1) n (u2 i 50 0 1) rv) := by
  obtain ⟨K, W, b, σ, g, T, L, dr, m, m', la, li, h1, h2, h3, h4⟩ := id h
  by_cases hn : ∃ p z, p < K 0 3 ∧ z ≤ 10 ∧ a1 = nI p ∧ a2 = nI z
  · left
    obtain ⟨p, z, hp, hz, rfl, rfl⟩ := hn
    obtain ⟨v, e1, e2⟩ := R_sleeper1 h1 h2.2.1 h2.1.1 h2.1.2.1 h2.2.2.1 h2.2.2.2.1 hp hz
    exact ⟨v, e1, e2, Inv_up (Inv_0 h)⟩
  · right
    obtain ⟨e1, e2⟩ := R_sleeper0 (i := i) h1 h2.2.2.1 hn
    have hv : ∃ v, fX1_hasSleeper 15 a1 i = some v := by
      rcases mz_cases a1 with c1 | ⟨p, hp, rfl⟩
      · exact ⟨_, c_hasSleeper0 c1⟩
      · exact ⟨_, c_hasSleeper h2.1.1 h1 hp⟩
    obtain ⟨v, hv⟩ := hv
    refine ⟨v, hv, ?_, e1, Inv_up (Inv_0 h)⟩
    rcases e2 with e | e | e | e
    · rw [hv] at e
      exact Or.inl (Option.some.inj e)
    · exact Or.inr (Or.inl e)
    · exact Or.inr (Or.inr e)
    · exact absurd h2.1.1 e
end QS
