/-! favour, rests, which, sleeper -/
section FV
variable {i i' i1 i2 i3 j j' j1 j2 : Tb} {rv rv' rv1 rv2 : Nat → Nat → Option Nat} {W : Option ((Nat → Nat) → Int)} {K g : Nat → Nat → Nat} {σ τ σ' ρ : Nat → Nat} {q p o k b b' t w v n r z c s x a m y : Nat}
theorem mz_01 (a : Int32) : (∃ x, x ≤ 1 ∧ a = nI x ∧ (a = 0 ∨ a = 1) ∧ fX12_isIn a.toInt64 0 1 = some 1) ∨ (¬ a = 0 ∧ ¬ a = 1 ∧ fX12_isIn a.toInt64 0 1 = some 0 ∧ (a < nI 0 ∨ ∃ z, 1 < z ∧ z < 2 ^ 31 ∧ a = nI z)) := by
  rcases mz_cases a with c1 | ⟨z, hz, rfl⟩
  · refine Or.inr ⟨fun e => ?_, fun e => ?_, by rw [L0, mz_isG (by omega) c1], Or.inl c1⟩
    · rw [e, q0, nI_ltI (by omega) (by omega)] at c1
      omega
    · rw [e, q1, nI_ltI (by omega) (by omega)] at c1
      omega
  · by_cases h : z ≤ 1
    · refine Or.inl ⟨z, h, rfl, ?_, by rw [L0, L1, mz_isN (by omega) (by omega) (by omega), if_pos (by omega)]⟩
      have : z = 0 ∨ z = 1 := by omega
      rcases this with rfl | rfl
      · exact Or.inl rfl
      · exact Or.inr rfl
    · refine Or.inr ⟨fun e => ?_, fun e => ?_, by rw [L0, L1, mz_isN (by omega) (by omega) (by omega), if_neg (by omega)], Or.inr ⟨z, by omega, hz, rfl⟩⟩
      · rw [q0] at e
        have := nI_inj e (by omega) (by omega)
        omega
      · rw [q1] at e
        have := nI_inj e (by omega) (by omega)
        omega
/-- 34: favour -/
theorem R_favour (hK : OkK K) (hb : OkS K b σ) (hb2 : b < 100000) (h : WC K W σ i rv) (h' : WM K W σ j) (a1 a2 a3 a4 a5 : Int32) : ∃ v i' j' rv2, fX11_favour a1 a2 a3 a4 a5 i rv = some (v, i') ∧ fX12_favour a1 a2 a3 a4 a5 j rv' = some (v, j', rv2) ∧ FrL [24] rv i i' ∧ Fr [50, 54] j j' ∧ F5 (0 :: l17) j j' ∧ RvM rv' rv2 := by
  have hm4 := hK.2.1
  have fr0 : Fr [50, 54] j (u2 j 50 0 0) := Fr_w (by decide) Fr_u
  have f50 : F5 (0 :: l17) j (u2 j 50 0 0) := F5_w (by decide) F5_u
  have h0 := WM_0 (v' := 0) h'
  have hno : fX11_favour a1 a2 a3 a4 a5 i rv = some (-1000000, i) → fX12_favour a1 a2 a3 a4 a5 j rv' = some (-1000000, u2 j 50 0 0, rv') → ∃ v i' j' rv2, fX11_favour a1 a2 a3 a4 a5 i rv = some (v, i') ∧ fX12_favour a1 a2 a3 a4 a5 j rv' = some (v, j', rv2) ∧ FrL [24] rv i i' ∧ Fr [50, 54] j j' ∧ F5 (0 :: l17) j j' ∧ RvM rv' rv2 := fun e1 e2 => ⟨_, _, _, _, e1, e2, FrL_f (Fr_r _ _), fr0, f50, Or.inl rfl⟩
  have ec : fX11_favour a1 a2 a3 a4 a5 i rv = fX11_favour_25 a1 a2 a3 a4 a5 (if (a3 = 0 ∨ a3 = 1) ∧ (a4 = 0 ∨ a4 = 1) then 1 else 0) i rv := by
    unfold fX11_favour fX11_favour_9 fX11_favour_20 fX11_favour_24
    by_cases c1 : a3 = 0
    · by_cases c2 : a4 = 0
      · simp [c1, c2]
      · by_cases c3 : a4 = 1
        · simp [c1, c3]
        · simp [c1, c2, c3]
    · by_cases c4 : a3 = 1
      · by_cases c2 : a4 = 0
        · simp [c4, c2]
        · by_cases c3 : a4 = 1
          · simp [c4, c3]
          · simp [c4, c2, c3]
      · simp [c1, c4]
  rcases mz_cases a1 with c1 | ⟨o, ho, rfl⟩
  · refine hno ?_ ?_
    · rw [ec]
      unfold fX11_favour_25
      rw [c_hasOfficer0 c1]
      rfl
    · unfold fX12_favour
      rw [mz_lt, m_isOfficer0 c1]
      rfl
  have ec1 : fX1_hasOfficer 15 (nI o) i = some (if o < K 0 4 then 1 else 0) := c_hasOfficer h.1 hK ho
  have em1 : fX12_isOfficer (nI o) (u2 j 50 0 0) = some (if o < K 0 4 then 1 else 0) := m_isOfficer h0.1 hK ho
  by_cases h1 : ¬ o < K 0 4
  · refine hno ?_ ?_
    · rw [ec]
      unfold fX11_favour_25
      rw [ec1, if_neg h1]
      rfl
    · unfold fX12_favour
      rw [mz_lt, em1, if_neg h1]
      rfl
  have h1 : o < K 0 4 := Decidable.of_not_not h1
  rw [if_pos h1] at ec1 em1
  have n1 : ¬ (1 : Int32) = 0 := by decide
  rcases mz_cases a2 with c2 | ⟨m, hm, rfl⟩
  · have e2 : a2 < 1 := by
      have h1 := Int32.lt_iff_toInt_lt.mp c2
      apply Int32.lt_iff_toInt_lt.mpr
      have h2 : (nI 0).toInt = 0 := by decide +kernel
      have h3 : (1 : Int32).toInt = 1 := by decide +kernel
      omega
    refine hno ?_ ?_
    · rw [ec]
      unfold fX11_favour_25
      rw [ec1, mz_b1, if_neg n1, if_pos e2]
    · unfold fX12_favour
      rw [mz_lt, em1, mz_b1, if_neg n1, L1, mz_isG (by omega) c2]
      rfl
  have em2 : fX12_isIn (nI m).toInt64 1 9 = some (if 1 ≤ m ∧ m ≤ 9 then 1 else 0) := by rw [L1, L9, mz_isN (by omega) (by omega) (by omega)]
  by_cases h2 : ¬ (1 ≤ m ∧ m ≤ 9)
  · refine hno ?_ ?_
    · rw [ec]
      unfold fX11_favour_25
      rw [ec1, mz_b1, if_neg n1]
      by_cases h3 : m < 1
      · rw [if_pos (show nI m < 1 from nI_lt (a := m) (b := 1) h3 (by omega))]
      · rw [if_neg (show ¬ nI m < 1 from nI_nlt (a := m) (b := 1) (by omega) (by omega)), if_pos (show (9 : Int32) < nI m from nI_lt (a := 9) (b := m) (by omega) (by omega))]
    · unfold fX12_favour
      rw [mz_lt, em1, mz_b1, if_neg n1, em2, if_neg h2]
      rfl
  have h2 : 1 ≤ m ∧ m ≤ 9 := Decidable.of_not_not h2
  rw [if_pos h2] at em2
  have ca2 : ∀ (X Y Z : Option (Int32 × Tb)), (if nI m < 1 then X else if 9 < nI m then Y else Z) = Z := fun X Y Z => by
    rw [if_neg (show ¬ nI m < 1 from nI_nlt (a := m) (b := 1) (by omega) (by omega)), if_neg (show ¬ (9 : Int32) < nI m from nI_nlt (a := 9) (b := m) (by omega) (by omega))]
  rcases mz_01 a3 with ⟨x, hx, rfl, d3, e3⟩ | ⟨d3, d3', e3, _⟩
  · rcases mz_01 a4 with ⟨y, hy, rfl, d4, e4⟩ | ⟨d4, d4', e4, _⟩
    · rcases mz_01 a5 with ⟨z, hz, rfl, d5, e5⟩ | ⟨d5, d5', e5, hz⟩
      · rw [ec, if_pos ⟨d3, d4⟩]
        unfold fX11_favour_25 fX12_favour
        rw [mz_lt, em1, mz_b1, if_neg n1, em2, mz_b1, if_neg n1, e3, mz_b1, if_neg n1, e4, mz_b1, if_neg n1, e5, mz_b1, if_neg n1, ec1, mz_b1, if_neg n1, ca2, if_neg n1, if_neg (show ¬ nI z < 0 from nI_nlt (a := z) (b := 0) (by omega) (by omega)), if_pos (show nI z ≤ 1 from nI_le (a := z) (b := 1) hz (by omega))]
        by_cases h5 : z = 0
        · subst h5
          obtain ⟨i2, p1, p2⟩ := C_house hK hb hb2 h h1 hx hy h2.2
          obtain ⟨j2, rv2, s1, s2, s3, s4⟩ := M_house (rv' := rv') hK hb hb2 h0 h1 hx hy h2.2
          rw [if_pos (show nI 0 = 0 from rfl), p1, show nI 0 = (0 : Int32) from rfl, s1]
          exact ⟨_, _, _, _, rfl, rfl, p2, Fr_t fr0 s2, F5_t f50 s3, s4⟩
        · have : z = 1 := by omega
          subst this
          rw [if_neg (show ¬ nI 1 = 0 by decide)]
          unfold fX12_favourOf fX11_officerHas
          rw [if_pos (show nI 1 = 1 from rfl)]
          exact ⟨_, _, _, _, rfl, rfl, FrL_f (Fr_r _ _), fr0, f50, Or.inl rfl⟩
      · refine hno ?_ ?_
        · rw [ec, if_pos ⟨d3, d4⟩]
          unfold fX11_favour_25
          rw [ec1, mz_b1, if_neg n1, ca2, if_neg n1]
          rcases hz with x1 | ⟨z, hz1, hz2, rfl⟩
          · rw [if_pos (show a5 < 0 from x1)]
          · rw [if_neg (show ¬ nI z < 0 from nI_nlt (a := z) (b := 0) (by omega) (by omega)), if_neg (show ¬ nI z ≤ 1 from nI_ge (a := 1) (b := z) hz1 (by omega))]
        · unfold fX12_favour
          rw [mz_lt, em1, mz_b1, if_neg n1, em2, mz_b1, if_neg n1, e3, mz_b1, if_neg n1, e4, mz_b1, if_neg n1, e5]
          rfl
    · refine hno ?_ ?_
      · rw [ec, if_neg (fun e => by rcases e.2 with e | e <;> contradiction)]
        unfold fX11_favour_25
        rw [ec1, mz_b1, if_neg n1, ca2, if_pos rfl]
      · unfold fX12_favour
        rw [mz_lt, em1, mz_b1, if_neg n1, em2, mz_b1, if_neg n1, e3, mz_b1, if_neg n1, e4]
        rfl
  · refine hno ?_ ?_
    · rw [ec, if_neg (fun e => by rcases e.1 with e | e <;> contradiction)]
      unfold fX11_favour_25
      rw [ec1, mz_b1, if_neg n1, ca2, if_pos rfl]
    · unfold fX12_favour
      rw [mz_lt, em1, mz_b1, if_neg n1, em2, mz_b1, if_neg n1, e3]
      rfl
end FV
