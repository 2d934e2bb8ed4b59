/-! between, favour, rests, which, sleeper -/
section KU
variable {i i' i1 i2 i3 j j' j1 j2 : Tb} {rv rv' rv1 rv2 : Nat → Nat → Option Nat} {W : Option ((Nat → Nat) → Int)} {K g : Nat → Nat → Nat} {σ τ σ' ρ : Nat → Nat} {q p o k b b' t w v n r z c s x a m y : Nat}
theorem WMx_f (h : WM K W σ j) (hf : Fr [50, 54] j j') (h5 : F5 (0 :: l17) j j') : WM K W σ j' := WM_f h hf h5 (by decide) (by decide)
theorem R_between_l (hK : OkK K) (hb : OkS K b σ) (hb2 : b < 100000) (h : WC K W σ i rv) (h' : WM K W σ j) : ∀ n k x i1 j1 rv1, k ≤ K 0 3 → K 0 3 - k < n → FrL [24] rv i i1 → Fr [50, 54] j j1 → F5 (0 :: l17) j j1 → RvM rv' rv1 →
    ∃ v i2 j2 rv2, fX11_between_13 n x (nI k) i1 rv = some (v, i2) ∧ fX12_between_18 n x (nI k) j1 rv1 = some (v, j2, rv2) ∧ FrL [24] rv i i2 ∧ Fr [50, 54] j j2 ∧ F5 (0 :: l17) j j2 ∧ RvM rv' rv2 := by
  have hm := hK.1
  intro n
  induction n with
  | zero => intro k x i1 j1 rv1 h1 h2; omega
  | succ n ih =>
    intro k x i1 j1 rv1 h1 h2 f1 f2 f3 f4
    have hw := WC_f h f1 (by decide)
    have hw' := WMx_f h' f2 f3
    rw [fX11_between_13, fX12_between_18, hw'.1.1]
    unfold fX1_sleepers
    rw [hw.1.1, mz_b1]
    by_cases h3 : k = K 0 3
    · subst h3
      rw [if_pos (nI_le (by omega) (by omega)), if_pos (nI_le (by omega) (by omega))]
      exact ⟨_, _, _, _, rfl, rfl, f1, f2, f3, f4⟩
    · have ha := (hb.2.2.2.2.2.2.1 k (by omega)).1
      have hr9 := hK.2.2.2.2.2.2.1
      simp only [fX11_between_64, fX12_between_68, fX12_between_69]
      rw [if_neg (nI_ge (by omega) (by omega)), if_neg (nI_ge (by omega) (by omega)), s_isAsleep (q := 19) hw.2.1 hb (by omega), mz_b1, show 6 * nI k + 3 = nI (6 * k + 3) from by rw [q6, mz_mul, q3, nI_add], if_pos (mz_in (by omega) (by omega)), nI_clamp (by omega), (hw'.2.1.1 k (by omega)).2.2.1, nI_1]
      by_cases h4 : σ (27 + k) = 0
      · obtain ⟨i2, p1, p2⟩ := c_lossByHand (q := 19) hw.1 hK hb (by omega) hw.2.1 (Or.inl rfl) hw.2.2 (p := k) (by omega)
        obtain ⟨j2, rv2, s1, s2, s3, s4⟩ := M_loss (rv := rv1) (w := 63) (t := 0) (o := 9) (p := k) hw'.1 hK hb (by omega) hw'.2.1 (Or.inl rfl) hw'.2.2.1 (by omega) (by omega) (by omega)
        have hl := lossN_le (K := K) (W := W) (σ := σ) (p := k) (t := 0) (o := 9)
        have g1 : FrL [24] rv i i2 := FrL_t f1 p2
        have g2 : Fr [50, 54] j j2 := Fr_t f2 s2
        have g3 : F5 (0 :: l17) j j2 := F5_t f3 (F5_w (by decide) s3)
        have g4 : RvM rv' rv2 := RvM_t f4 s4
        have er : j2 55 1 = nI (K 1 1) := by rw [g2 55 (by decide)]; exact h'.1.2.2.2.1 1 (by omega)
        have e0 : nI (σ (27 + k)) = 0 := by rw [h4]; rfl
        rw [if_pos e0, if_pos e0, p1, mz_b2, q1, c_ruleOf (WC_f h g1 (by decide)).1 (by omega), mz_b1, q0, q9, s1, mz_b3, if_pos (mz_in (by omega) (by omega)), nI_clamp (by omega), er]
        by_cases h5 : lossN K W σ k 0 9 ≤ K 1 1
        · rw [if_pos (nI_le h5 (by omega)), if_pos (nI_le h5 (by omega)), show x ||| nI 0 = x from Int32.or_zero]
          exact ih (k + 1) x i2 j2 rv2 (by omega) (by omega) g1 g2 g3 g4
        · rw [if_neg (nI_ge (by omega) (by omega)), if_neg (nI_ge (by omega) (by omega)), mz_lt]
          exact ih (k + 1) _ i2 j2 rv2 (by omega) (by omega) g1 g2 g3 g4
      · have e0 : ¬ nI (σ (27 + k)) = 0 := by rw [q0, nI_eq (by omega) (by omega)]; exact h4
        rw [if_neg e0, if_neg e0, show x ||| 0 = x from Int32.or_zero]
        exact ih (k + 1) x i1 j1 rv1 (by omega) (by omega) f1 f2 f3 f4
/-- 33: between -/
theorem R_between (hK : OkK K) (hb : OkS K b σ) (hb2 : b < 100000) (h : WC K W σ i rv) (h' : WM K W σ j) : ∃ v i' j' rv2, fX11_between i rv = some (v, i') ∧ fX12_between j rv' = some (v, j', rv2) ∧ FrL [24] rv i i' ∧ Fr [50, 54] j j' ∧ F5 (0 :: l17) j j' ∧ RvM rv' rv2 := by
  have hm := hK.1
  have fr0 : Fr [50, 54] j (u2 j 50 0 0) := Fr_w (by decide) Fr_u
  have f50 : F5 (0 :: l17) j (u2 j 50 0 0) := F5_w (by decide) F5_u
  unfold fX11_between fX12_between fX11_noCar fX1_sleepers
  obtain ⟨fu, hfu, hfu2⟩ := fuel_g
  rw [hfu]
  simp only [mz_lt]
  rw [h.1.1, mz_b1, u2n _ _ _ _ _ (show 26 ≠ 0 by omega), h'.1.1]
  by_cases h0 : K 0 3 = 0
  · rw [if_pos (show nI (K 0 3) = 0 by rw [h0]; rfl), if_pos (show nI (K 0 3) = 0 by rw [h0]; rfl), mz_b1, if_neg (by decide)]
    exact ⟨_, _, _, _, rfl, rfl, FrL_f (Fr_r _ _), fr0, f50, Or.inl rfl⟩
  · have hne : ¬ nI (K 0 3) = 0 := by rw [q0, nI_eq (by omega) (by omega)]; exact h0
    rw [if_neg hne, if_neg hne, mz_b1, if_pos rfl]
    exact R_between_l hK hb hb2 h h' fu 0 _ i (u2 j 50 0 0) rv' (by omega) (by omega) (FrL_f (Fr_r _ _)) fr0 f50 (Or.inl rfl)
/-- sleep that all with papers would lose by hand now -/
def lsA (K : Nat → Nat → Nat) (W : Option ((Nat → Nat) → Int)) (σ : Nat → Nat) (x : Nat) : Nat := sumTo (fun p => if sv K p 5 = 0 then lossN K W σ p 0 9 else 0) x
theorem lsA_le (hx : x ≤ 9) : lsA K W σ x ≤ 891 := by
  have := sumTo_le (f := fun p => if sv K p 5 = 0 then lossN K W σ p 0 9 else 0) (m := 99) (n := x) (fun z _ => by
    show (if _ then _ else _) ≤ 99
    split
    · exact lossN_le
    · omega)
  unfold lsA
  omega
theorem c_lossAll_l (hK : OkK K) (hb : OkS K b σ) (hb2 : b < 100000) (h : WC K W σ i rv) : ∀ n x i1, x ≤ K 0 5 → K 0 5 - x < n → FrL [24] rv i i1 → ∃ i2, fX3_lossOfAllByHand_4 19 n (nI (sumTo (fun q => lossN K W σ (σ (9 + q)) 0 9) x)) (nI x) i1 rv = some (nI (sumTo (fun q => lossN K W σ (σ (9 + q)) 0 9) (K 0 5)), i2) ∧ FrL [24] rv i i2 := by
  have hm := hK.1
  have h5 := hK.2.2.1
  intro n
  induction n with
  | zero => intro x i1 h1 h2; omega
  | succ n ih =>
    intro x i1 h1 h2 f1
    have hw := WC_f h f1 (by decide)
    rw [fX3_lossOfAllByHand_4]
    unfold fX1_papers
    rw [hw.1.2.2.1, mz_b1]
    by_cases h3 : x = K 0 5
    · subst h3
      rw [if_pos (nI_le (by omega) (by omega))]
      exact ⟨i1, rfl, f1⟩
    · have hp := OkS_dr hb x (by omega)
      obtain ⟨i2, p1, p2⟩ := c_lossByHand (q := 19) hw.1 hK hb (by omega) hw.2.1 (Or.inl rfl) hw.2.2 hp
      rw [if_neg (nI_ge (by omega) (by omega)), s_inDrawer (q := 19) hw.2.1 (by omega), mz_b1, p1, mz_b2, nI_add, nI_1]
      exact ih (x + 1) i2 (by omega) (by omega) (FrL_t f1 p2)
theorem c_lossAll (hK : OkK K) (hb : OkS K b σ) (hb2 : b < 100000) (h : WC K W σ i rv) : ∃ i2, fX3_lossOfAllByHand 19 i rv = some (nI (lsA K W σ (K 0 3)), i2) ∧ FrL [24] rv i i2 := by
  have hm := hK.1
  have h5 := hK.2.2.1
  unfold fX3_lossOfAllByHand
  obtain ⟨fu, hfu, hfu2⟩ := fuel_g
  rw [hfu]
  obtain ⟨i2, p1, p2⟩ := c_lossAll_l hK hb hb2 h fu 0 i (by omega) (by omega) (FrL_f (Fr_r _ _))
  rw [sum_pap hb (fun p => lossN K W σ p 0 9)] at p1
  exact ⟨i2, p1, p2⟩
/-- what the house has -/
def hHas (K : Nat → Nat → Nat) (W : Option ((Nat → Nat) → Int)) (σ : Nat → Nat) (o n x y : Nat) : Int := (if x = 1 then (if y = 0 then (ov K o 3 : Int) * ((n : Int) - 1) else 0) - 2 * n else 0) - (if y = 1 then (n : Int) * ((lsA K W σ (K 0 3) / 10 : Nat) : Int) else 0)
theorem C_house (hK : OkK K) (hb : OkS K b σ) (hb2 : b < 100000) (h : WC K W σ i rv) (ho : o < K 0 4) (hx : x ≤ 1) (hy : y ≤ 1) (hn : n ≤ 9) : ∃ i', fX11_houseHas (nI o) (nI n) (nI x) (nI y) i rv = some (zI (hHas K W σ o n x y), i') ∧ FrL [24] rv i i' := by
  have hm := hK.1
  have hm4 := hK.2.1
  obtain ⟨i2, p1, p2⟩ := c_lossAll hK hb hb2 h
  have hl := lsA_le (K := K) (W := W) (σ := σ) (x := K 0 3) hm
  have tail : ∀ z : Int, ∃ i', fX11_houseHas_39 (nI n) (nI y) (zI z) i rv = some (zI (z - (if y = 1 then (n : Int) * ((lsA K W σ (K 0 3) / 10 : Nat) : Int) else 0)), i') ∧ FrL [24] rv i i' := by
    intro z
    unfold fX11_houseHas_39
    by_cases h1 : y = 1
    · rw [if_pos (by rw [h1]; rfl), p1, mz_b2, mz_lt, if_pos h1]
      refine ⟨i2, ?_, p2⟩
      rw [q10, mz_div (by omega) (by omega), mz_mul, zI_n, zI_sub]
      congr 3
      rw [Nat.mul_comm]
      push_cast
      rfl
    · rw [if_neg (by rw [q1, nI_eq (by omega) (by omega)]; exact h1), if_neg h1]
      exact ⟨i, by rw [Int.sub_zero], FrL_f (Fr_r _ _)⟩
  unfold fX11_houseHas hHas
  by_cases h1 : x = 1
  · rw [if_pos (by rw [h1]; rfl), mz_lt, if_pos h1]
    by_cases h2 : y = 0
    · rw [if_pos (by rw [h2]; rfl), q3, c_ofOfficer h.1 (by omega) (by omega), mz_b1, mz_lt, if_pos h2]
      have e : (0 : Int32) - 2 * nI n + nI (ov K o 3) * (nI n - 1) = zI ((ov K o 3 : Int) * ((n : Int) - 1) - 2 * n) := by
        rw [show (0 : Int32) = zI 0 from rfl, show (2 : Int32) = zI 2 from rfl, show (1 : Int32) = zI 1 from rfl, zI_n n, zI_n (ov K o 3), zI_mul, zI_sub, zI_sub, zI_mul, zI_add]
        congr 1
        omega
      rw [e]
      exact tail _
    · rw [if_neg (by rw [q0, nI_eq (by omega) (by omega)]; exact h2), if_neg h2]
      have e : (0 : Int32) - 2 * nI n = zI (0 - 2 * (n : Int)) := by
        rw [show (0 : Int32) = zI 0 from rfl, show (2 : Int32) = zI 2 from rfl, zI_n n, zI_mul, zI_sub]
      rw [e]
      exact tail _
  · rw [if_neg (by rw [q1, nI_eq (by omega) (by omega)]; exact h1), if_neg h1, show (0 : Int32) = zI 0 from rfl]
    exact tail _
theorem m_fav_l (hK : OkK K) (hb : OkS K b σ) (hb2 : b < 100000) (h' : WM K W σ j) (ho : o < K 0 4) (hx : x ≤ 1) (hy : y ≤ 1) (hn : m ≤ 9) : ∀ n z j1 rv1, z ≤ K 0 3 → K 0 3 - z < n → Fr [50, 54] j j1 → F5 (0 :: l17) j j1 → RvM rv' rv1 → ∃ j2 rv2, fX12_favourOf_32 n (nI o) (nI m) (nI x) (nI y) (nI (lsA K W σ z)) (nI z) j1 rv1 = some (zI (hHas K W σ o m x y), j2, rv2) ∧ Fr [50, 54] j j2 ∧ F5 (0 :: l17) j j2 ∧ RvM rv' rv2 := by
  have hm := hK.1
  have hm4 := hK.2.1
  intro n
  induction n with
  | zero => intro z j1 rv1 h1 h2; omega
  | succ n ih =>
    intro z j1 rv1 h1 h2 f2 f3 f4
    have hw' := WMx_f h' f2 f3
    rw [fX12_favourOf_32, hw'.1.1]
    by_cases h3 : z = K 0 3
    · subst h3
      have hl := lsA_le (K := K) (W := W) (σ := σ) (x := K 0 3) hm
      have fin : ∀ s0 : Int, s0 = (if x = 1 ∧ y = 0 then (ov K o 3 : Int) * ((m : Int) - 1) else 0) → fX12_favourOf_106 (nI m) (nI x) (nI y) (nI (lsA K W σ (K 0 3))) (zI s0) j1 rv1 = some (zI (hHas K W σ o m x y), j1, rv1) := by
        intro s0 hs0
        unfold fX12_favourOf_106 hHas
        rw [q10, mz_div (by omega) (by omega), show (2 : Int32) = zI 2 from rfl, zI_n m, zI_n x, zI_n y, zI_n (lsA K W σ (K 0 3) / 10), zI_mul, zI_mul, zI_mul, zI_mul, zI_sub, zI_sub, hs0]
        congr 2
        have hx2 : x = 0 ∨ x = 1 := by omega
        have hy2 : y = 0 ∨ y = 1 := by omega
        rcases hx2 with rfl | rfl <;> rcases hy2 with rfl | rfl <;> simp <;> omega
      have e3 : j1 59 (4 * o + 3) = nI (ov K o 3) := hw'.1.2.2.2.2.2 _ (by omega)
      unfold fX12_favourOf_105
      rw [if_pos (nI_le (by omega) (by omega)), show 4 * nI o + 3 = nI (4 * o + 3) from by rw [q4, mz_mul, q3, nI_add], if_pos (mz_in (by omega) (by omega)), nI_clamp (by omega), e3]
      by_cases h4 : x = 1
      · rw [if_pos (by rw [h4]; rfl)]
        by_cases h5 : y = 0
        · rw [if_pos (by rw [h5]; rfl), show nI (ov K o 3) * (nI m - 1) = zI ((ov K o 3 : Int) * ((m : Int) - 1)) from by rw [show (1 : Int32) = zI 1 from rfl, zI_n m, zI_n (ov K o 3), zI_sub, zI_mul], fin _ (by rw [if_pos ⟨h4, h5⟩])]
          exact ⟨_, _, rfl, f2, f3, f4⟩
        · rw [if_neg (by rw [q0, nI_eq (by omega) (by omega)]; exact h5), show (0 : Int32) = zI 0 from rfl, fin 0 (by rw [if_neg (fun e => h5 e.2)])]
          exact ⟨_, _, rfl, f2, f3, f4⟩
      · rw [if_neg (by rw [q1, nI_eq (by omega) (by omega)]; exact h4), show (0 : Int32) = zI 0 from rfl, fin 0 (by rw [if_neg (fun e => h4 e.1)])]
        exact ⟨_, _, rfl, f2, f3, f4⟩
    · have hch := hK.2.2.2.2.2.2.2.2.2.2.1 z (by omega)
      have es : lsA K W σ (z + 1) = lsA K W σ z + (if sv K z 5 = 0 then lossN K W σ z 0 9 else 0) := rfl
      unfold fX12_favourOf_69
      rw [if_neg (nI_ge (by omega) (by omega)), m_isChild hw'.1 hK (by omega), mz_b1, nI_1]
      by_cases h4 : sv K z 5 = 0
      · rw [if_pos h4] at es
        obtain ⟨j2, rv2, s1, s2, s3, s4⟩ := M_loss (rv := rv1) (w := 63) (t := 0) (o := 9) (p := z) hw'.1 hK hb (by omega) hw'.2.1 (Or.inl rfl) hw'.2.2.1 (by omega) (by omega) (by omega)
        rw [if_pos (by rw [h4]; rfl), q0, q9, s1, mz_b3, nI_add, ← es]
        exact ih (z + 1) j2 rv2 (by omega) (by omega) (Fr_t f2 s2) (F5_t f3 (F5_w (by decide) s3)) (RvM_t f4 s4)
      · rw [if_neg h4] at es
        rw [if_neg (by rw [q0, nI_eq (by omega) (by omega)]; exact h4), q0, nI_add, ← es]
        exact ih (z + 1) j1 rv1 (by omega) (by omega) f2 f3 f4
theorem M_house (hK : OkK K) (hb : OkS K b σ) (hb2 : b < 100000) (h' : WM K W σ j) (ho : o < K 0 4) (hx : x ≤ 1) (hy : y ≤ 1) (hn : m ≤ 9) : ∃ j2 rv2, fX12_favourOf (nI o) (nI m) (nI x) (nI y) 0 j rv' = some (zI (hHas K W σ o m x y), j2, rv2) ∧ Fr [50, 54] j j2 ∧ F5 (0 :: l17) j j2 ∧ RvM rv' rv2 := by
  have hm := hK.1
  unfold fX12_favourOf
  obtain ⟨fu, hfu, hfu2⟩ := fuel_g
  rw [hfu, if_neg (by decide)]
  have k := m_fav_l (rv' := rv') hK hb hb2 h' ho hx hy hn fu 0 j rv' (by omega) (by omega) (Fr_r _ _) (F5_r _ _) (Or.inl rfl)
  rw [show lsA K W σ 0 = 0 from rfl] at k
  exact k
end KU
