/-! before: the best set -/
section BJ
variable {i i' i1 i2 i3 j j' j1 j2 : Tb} {rv rv' rv1 rv2 : Nat → Nat → Option Nat} {W : Option ((Nat → Nat) → Int)} {K g : Nat → Nat → Nat} {σ τ σ' ρ T : Nat → Nat} {q p o k b b' t w v n r z c s x a m y l d : Nat} {a1 a2 x1 x2 x3 x4 : Int32}
theorem aslS_N (hK : OkK K) : aslS K σ < 2 ^ K 0 3 := by
  refine orTo_lt (fun z hz => ?_)
  show (if _ then _ else _) < _
  have := Nat.two_pow_pos (K 0 3)
  split
  · split
    · exact Nat.pow_lt_pow_right (by omega) hz
    · omega
  · omega
theorem WMc_f (h : WM K W σ j) (hf : Fr [50, 54, 64] j j') (h5 : F5 (0 :: l41) j j') : WM K W σ j' := WM_f h hf h5 (by decide) (by decide)
/-- the first of the cheapest sets, on both sides -/
theorem R_sel (hK : OkK K) (hb : OkS K b σ) (hb2 : b < 100000) (h' : WM K W σ j) (ha : a < 2 ^ K 0 3) (hT : ∀ y, y &&& a = y → i 36 y = cI (csB K W σ y (K 0 4))) : ∀ n s i1 j1 rv1 x3 x4, s ≤ a + 1 → a + 1 - s < n → Fr [35] i i1 → i1 35 13 = x3 → (x3 ≠ NN → i1 35 14 = x4) → Fr [50, 54, 64] j j1 → F5 (0 :: l41) j j1 → RvM rv' rv1 →
    ∃ r v i2 j2 rv2, fX0_findWhomToWake_59 n (nI a) (nI s) i1 rv = some (r, i2) ∧ fX12_before_83 n a1 (nI a) x3 x4 (nI s) j1 rv1 = some (v, j2, rv2) ∧ Fr [35] i i2 ∧ Fr [50, 54, 64] j j2 ∧ F5 (0 :: l41) j j2 ∧ RvM rv' rv2 ∧ ((r = 0 ∧ v = NN) ∨ (r = 1 ∧ v = if a1 = 0 then i2 35 13 else i2 35 14)) := by
  have hm := hK.1
  have hp2 : 2 ^ K 0 3 ≤ 2 ^ 9 := Nat.pow_le_pow_right (by omega) hm
  intro n
  induction n with
  | zero => intro s i1 j1 rv1 x3 x4 h1 h2; omega
  | succ n ih =>
    intro s i1 j1 rv1 x3 x4 h1 h2 g1 g2 g3 g4 g5 g6
    rw [fX0_findWhomToWake_59, fX12_before_83, g2]
    unfold fX0_findWhomToWake_86
    unfold fX0_findWhomToWake_87
    unfold fX0_findWhomToWake_113
    unfold fX0_findWhomToWake_128
    unfold fX12_before_130
    unfold fX12_before_137 fX12_before_152
    rw [nI_1, qN1]
    by_cases h3 : s = a + 1
    · have hlt : nI a < nI s := by rw [mz_ltp (by omega) (by omega)]; omega
      rw [if_pos hlt, if_pos hlt]
      by_cases h4 : x3 = NN
      · rw [if_pos h4, if_pos h4]
        refine ⟨0, NN, i1, j1, rv1, rfl, ?_, g1, g4, g5, g6, Or.inl ⟨rfl, rfl⟩⟩
        rw [h4]
        split <;> rfl
      · rw [if_neg h4, if_neg h4]
        by_cases h5 : a1 = 0
        · rw [if_pos h5]
          exact ⟨1, x3, i1, j1, rv1, rfl, rfl, g1, g4, g5, g6, Or.inr ⟨rfl, by rw [if_pos h5, g2]⟩⟩
        · rw [if_neg h5]
          exact ⟨1, x4, i1, j1, rv1, rfl, rfl, g1, g4, g5, g6, Or.inr ⟨rfl, by rw [if_neg h5, g3 h4]⟩⟩
    · have hsl : s < 2 ^ K 0 3 := by omega
      have hge : ¬ nI a < nI s := by rw [mz_ltp (by omega) (by omega)]; omega
      rw [if_neg hge, if_neg hge]
      by_cases h4 : s &&& a = s
      · have hsub := (mz_sset (s := s) (c := a) (by omega) (by omega)).mpr h4
        rw [qN1] at hsub
        have e36 : i1 36 s = cI (csB K W σ s (K 0 4)) := by rw [g1 36 (by decide)]; exact hT s h4
        obtain ⟨j2, rv2, c1, c2, c3, c4⟩ := M_cost (s := s) (rv := rv1) hK hb hb2 (WMc_f h' g4 g5) hsl
        have f4 : Fr [50, 54, 64] j j2 := Fr_t g4 c2
        have f5 : F5 (0 :: l41) j j2 := F5_t g5 (F5_w (by decide) c3)
        have f6 : RvM rv' rv2 := RvM_t g6 c4
        rw [if_pos hsub, if_pos hsub, if_pos (mz_in (by omega) (by omega)), nI_clamp (by omega), e36, c1, mz_b3]
        cases hc : csB K W σ s (K 0 4) with
        | none =>
          rw [if_pos (show cI none = NN from rfl), if_pos (show cI none = NN from rfl), if_pos (show (0 : Int32) = 0 from rfl)]
          exact ih (s + 1) i1 j2 rv2 x3 x4 (by omega) (by omega) g1 g2 g3 f4 f5 f6
        | some x =>
          have hxl := csB_le (W := W) (σ := σ) (s := s) hK (K 0 4) (Nat.le_refl _) x hc
          have hm4 := hK.2.1
          have hne : ¬ cI (some x) = NN := by show ¬ nI x = NN; rw [mz_nm (by omega)]; exact fun e => e
          rw [if_neg hne, if_neg hne, if_neg (show ¬ (1 : Int32) = 0 by decide)]
          have set : ∃ r v i2 j3 rv3, fX0_findWhomToWake_59 n (nI a) (nI (s + 1)) (u2 (u2 i1 35 13 (nI s)) 35 14 (cI (some x))) rv = some (r, i2) ∧ fX12_before_83 n a1 (nI a) (nI s) (cI (some x)) (nI (s + 1)) j2 rv2 = some (v, j3, rv3) ∧ Fr [35] i i2 ∧ Fr [50, 54, 64] j j3 ∧ F5 (0 :: l41) j j3 ∧ RvM rv' rv3 ∧ ((r = 0 ∧ v = NN) ∨ (r = 1 ∧ v = if a1 = 0 then i2 35 13 else i2 35 14)) :=
            ih (s + 1) _ j2 rv2 (nI s) (cI (some x)) (by omega) (by omega) (Fr_t g1 (Fr_t Fr_u Fr_u)) (by rw [u2n _ _ _ _ _ (by omega), u2e]) (fun _ => u2e _ _ _ _) f4 f5 f6
          have e113 : (lt (u2 i1 35 13 (nI s)) fun i14 => if aIn (nI s) 512 = true then (lt (u2 i14 35 14 (i14 36 s)) fun i15 => fX0_findWhomToWake_59 n (nI a) (nI (s + 1)) i15 rv) else none) = fX0_findWhomToWake_59 n (nI a) (nI (s + 1)) (u2 (u2 i1 35 13 (nI s)) 35 14 (cI (some x))) rv := by
            rw [mz_lt, if_pos (mz_in (by omega) (by omega)), mz_lt, u2r _ _ _ _ _ (show (36 : Nat) ≠ 35 by omega), e36, hc]
          rw [g2]
          by_cases h5 : x3 = NN
          · rw [if_pos h5, if_pos h5, e113]
            exact set
          · rw [if_neg h5, if_neg h5, if_pos (mz_in (by omega) (by omega)), g3 h5]
            by_cases h6 : cI (some x) < x4
            · rw [if_pos h6, if_neg (Int32.not_le.mpr h6), e113]
              exact set
            · rw [if_neg h6, if_pos (Int32.not_lt.mp h6)]
              exact ih (s + 1) i1 j2 rv2 x3 x4 (by omega) (by omega) g1 g2 g3 f4 f5 f6
      · have hsub : ¬ nI s &&& (nI a ^^^ NN) = 0 := fun e => h4 ((mz_sset (s := s) (c := a) (by omega) (by omega)).mp e)
        rw [if_neg hsub, if_neg hsub, if_pos (show (0 : Int32) = 0 from rfl)]
        exact ih (s + 1) i1 j1 rv1 x3 x4 (by omega) (by omega) g1 g2 g3 g4 g5 g6
theorem m_bef_l (hK : OkK K) (hb : OkS K b σ) (h' : WM K W σ j) : ∀ n k, k ≤ K 0 3 → K 0 3 - k < n → fX12_before_28 n a1 (nI (orTo (fun p => if sv K p 5 = 0 then (if σ (27 + p) = 1 then 2 ^ p else 0) else 0) k)) (nI k) j rv = fX12_before_83 fuel a1 (nI (aslS K σ)) (-1) 0 0 j rv := by
  have hm := hK.1
  intro n
  induction n with
  | zero => intro k h1 h2; omega
  | succ n ih =>
    intro k h1 h2
    rw [fX12_before_28, h'.1.1]
    unfold fX12_before_66
    unfold fX12_before_67
    rw [nI_1]
    by_cases h3 : k = K 0 3
    · rw [if_pos (nI_le (by omega) (by omega)), h3]
      rfl
    · have ih' := ih (k + 1) (by omega) (by omega)
      rw [orTo] at ih'
      have hch := hK.2.2.2.2.2.2.2.2.2.2.1 k (by omega)
      have hle := (hb.2.2.2.2.2.2.1 k (by omega)).1
      rw [if_neg (nI_ge (by omega) (by omega)), m_isChild h'.1 hK (by omega), mz_b1, show 6 * nI k + 3 = nI (6 * k + 3) from by rw [q6, mz_mul, q3, nI_add], if_pos (mz_in (by omega) (by omega)), nI_clamp (by omega), (h'.2.1.1 k (by omega)).2.2.1, mz_1l _ (by omega), mz_or, show ∀ x : Int32, x ||| 0 = x from fun x => Int32.or_zero]
      by_cases h4 : sv K k 5 = 0
      · rw [if_pos h4] at ih'
        rw [if_pos (show nI (sv K k 5) = 0 by rw [h4]; rfl)]
        by_cases h5 : σ (27 + k) = 1
        · rw [if_pos h5] at ih'
          rw [if_pos (show nI (σ (27 + k)) = 1 by rw [h5]; rfl), ih']
        · rw [if_neg h5, Nat.or_zero] at ih'
          rw [if_neg (show ¬ nI (σ (27 + k)) = 1 by rw [q1, nI_eq (by omega) (by omega)]; exact h5), ih']
      · rw [if_neg h4, Nat.or_zero] at ih'
        rw [if_neg (show ¬ nI (sv K k 5) = 0 by rw [q0, nI_eq (by omega) (by omega)]; exact h4), ih']
/-- before -/
theorem R_before (hK : OkK K) (hb : OkS K b σ) (hb2 : b < 100000) (h : WC K W σ i rv) (h' : WM K W σ j) (a1 : Int32) : ∃ v i' j' rv2, fX11_before a1 i rv = some (v, i') ∧ fX12_before a1 j rv' = some (v, j', rv2) ∧ FrL [24, 35, 36, 37, 38, 39, 40] rv i i' ∧ Fr [50, 54, 64] j j' ∧ F5 (0 :: l41) j j' ∧ RvM rv' rv2 := by
  have hm := hK.1
  have hp2 : 2 ^ K 0 3 ≤ 2 ^ 9 := Nat.pow_le_pow_right (by omega) hm
  have fr0 : Fr [50, 54, 64] j (u2 j 50 0 0) := Fr_w (by decide) Fr_u
  have f50 : F5 (0 :: l41) j (u2 j 50 0 0) := F5_w (by decide) F5_u
  have hw0 := WMc_f h' fr0 f50
  have hi := mz_isIn a1 0 1
  have haN := aslS_N (σ := σ) hK
  obtain ⟨fu, hfu, hfu2⟩ := fuel_g
  have kb := m_bef_l (a1 := a1) (rv := rv') hK hb hw0 fu 0 (by omega) (by omega)
  have kb' : fX12_before_28 fu a1 0 0 (u2 j 50 0 0) rv' = fX12_before_83 fuel a1 (nI (aslS K σ)) (-1) 0 0 (u2 j 50 0 0) rv' := kb
  unfold fX11_before fX12_before fX11_noCar fX1_sleepers fX0_findWhomToWake
  rw [hfu] at kb' ⊢
  simp only [mz_lt]
  rw [show fX12_isIn a1.toInt64 0 1 = some (if 0 ≤ a1 ∧ a1 ≤ 1 then 1 else 0) from hi, h.1.1, mz_b1, hw0.1.1, kb']
  by_cases h0 : K 0 3 = 0
  · rw [if_pos (show nI (K 0 3) = 0 by rw [h0]; rfl), if_pos (show nI (K 0 3) = 0 by rw [h0]; rfl), mz_b1, if_neg (show ¬ (1 : Int32) = 0 by decide)]
    exact ⟨_, _, _, _, rfl, rfl, FrL_f (Fr_r _ _), fr0, f50, Or.inl rfl⟩
  · have hne : ¬ nI (K 0 3) = 0 := by rw [q0, nI_eq (by omega) (by omega)]; exact h0
    rw [if_neg hne, if_neg hne, mz_b1, mz_b1, if_pos rfl]
    by_cases h1 : a1 < 0
    · rw [if_pos h1, if_neg (show ¬ (0 ≤ a1 ∧ a1 ≤ 1) from fun e => absurd h1 (Int32.not_lt.mpr e.1)), if_pos rfl]
      exact ⟨_, _, _, _, rfl, rfl, FrL_f (Fr_r _ _), fr0, f50, Or.inl rfl⟩
    · rw [if_neg h1]
      by_cases h2 : 1 < a1
      · rw [if_pos h2, if_neg (show ¬ (0 ≤ a1 ∧ a1 ≤ 1) from fun e => absurd h2 (Int32.not_lt.mpr e.2)), if_pos rfl]
        exact ⟨_, _, _, _, rfl, rfl, FrL_f (Fr_r _ _), fr0, f50, Or.inl rfl⟩
      · obtain ⟨i2, e1, e2, e3⟩ := C_hand (a := aslS K σ) hK hb hb2 h haN
        obtain ⟨i3, d1, d2, d3⟩ := c_whom_l (a := aslS K σ) hK hb hb2 h (by omega) fu 0 i2 (by omega) (by have := hK.2.1; omega) (FrL_w (by decide) e2) e3
        obtain ⟨r, v, i4, j4, rv4, s1, s2, s3, s4, s5, s6, s7⟩ := R_sel (i := u2 i3 35 13 (-1)) (j := j) (a := aslS K σ) (rv := rv) (rv' := rv') (a1 := a1) hK hb hb2 h' haN (fun y hy => by rw [u2r _ _ _ _ _ (by omega)]; exact d3 y hy) fu 0 _ (u2 j 50 0 0) rv' (-1) 0 (by omega) (by omega) (Fr_r _ _) (u2e _ _ _ _) (fun e => absurd rfl e) fr0 f50 (Or.inl rfl)
        rw [hfu] at d1
        have d1' : fX0_findWhomToWake_12 fu (nI (aslS K σ)) 0 i2 rv = _ := d1
        have s1' : fX0_findWhomToWake_59 fu (nI (aslS K σ)) 0 (u2 i3 35 13 (-1)) rv = _ := s1
        have s2' : fX12_before_83 fu a1 (nI (aslS K σ)) (-1) 0 0 (u2 j 50 0 0) rv' = _ := s2
        have fri : FrL [24, 35, 36, 37, 38, 39, 40] rv i i4 := FrL_t (FrL_w (by decide) d2) (FrL_t (FrL_w (by decide) (FrL_f Fr_u)) (FrL_w (by decide) (FrL_f s3)))
        unfold fX0_answer fX0_worth
        rw [if_neg h2, if_pos (show 0 ≤ a1 ∧ a1 ≤ 1 from ⟨Int32.not_lt.mp h1, Int32.not_lt.mp h2⟩), if_neg (show ¬ (1 : Int32) = 0 by decide), c_asl hK hb h.1 h.2.1, mz_b1, e1, mz_b1, d1', s1', mz_b2, s2']
        rcases s7 with ⟨t1, t2⟩ | ⟨t1, t2⟩
        · rw [if_pos t1, t2]
          exact ⟨_, _, _, _, rfl, rfl, fri, s4, s5, s6⟩
        · rw [if_neg (by rw [t1]; decide), mz_b1, mz_b1, t2]
          by_cases h3 : a1 = 0
          · rw [if_pos h3, if_pos h3]
            exact ⟨_, _, _, _, rfl, rfl, fri, s4, s5, s6⟩
          · rw [if_neg h3, if_neg h3]
            exact ⟨_, _, _, _, rfl, rfl, fri, s4, s5, s6⟩
end BJ
