/-! before: all sets -/
section BI
variable {i i' i1 i2 i3 j j' j1 j2 : Tb} {rv rv' rv1 rv2 : Nat → Nat → Option Nat} {W : Option ((Nat → Nat) → Int)} {K g : Nat → Nat → Nat} {σ τ σ' ρ T : Nat → Nat} {q p o k b b' t w v n r z c s x a m y l d : Nat} {a1 a2 x1 x2 x3 x4 : Int32}
theorem c_hand_in {kh : Int32 → Int32 → Int32 → (Nat → Nat → Int32) → (Nat → Nat → Option Nat) → Option ((Nat → Nat → Int32))} {f : Nat → Nat} (hk : k < 9) : ∀ n s i1, s ≤ 2 ^ k → 2 ^ k - s < n → Fr [36] i i1 → (∀ y, y < 2 ^ k + s → i1 36 y = nI (sS f y)) →
    ∃ i2, fX0_sumByHand_59 kh n a1 a2 (nI k) (nI (f k)) (nI s) i1 rv = kh a1 a2 (nI (k + 1)) i2 rv ∧ Fr [36] i i2 ∧ ∀ y, y < 2 ^ (k + 1) → i2 36 y = nI (sS f y) := by
  have hp : 2 ^ (k + 1) ≤ 2 ^ 9 := Nat.pow_le_pow_right (by omega) (by omega)
  have hp1 : 2 ^ (k + 1) = 2 ^ k + 2 ^ k := by rw [Nat.pow_succ]; omega
  intro n
  induction n with
  | zero => intro s i1 h1 h2; omega
  | succ n ih =>
    intro s i1 h1 h2 g1 g2
    rw [fX0_sumByHand_59, mz_1l k (by omega)]
    by_cases h3 : s = 2 ^ k
    · rw [if_pos (nI_le (by omega) (by omega)), nI_1]
      exact ⟨i1, rfl, g1, fun y hy => g2 y (by omega)⟩
    · have hsk : s < 2 ^ k := by omega
      rw [if_neg (nI_ge (by omega) (by omega)), mz_or, or_eq_add hsk, if_pos (mz_in (by omega) (by omega)), if_pos (mz_in (by omega) (by omega)), mz_lt, nI_clamp (by omega), nI_clamp (by omega), g2 s (by omega), nI_add, nI_1]
      refine ih (s + 1) _ (by omega) (by omega) (Fr_t g1 Fr_u) ?_
      intro y hy
      by_cases e : y = 2 ^ k + s
      · rw [e, u2e, ← or_eq_add hsk, sS_add (by omega) (Nat.testBit_lt_two_pow hsk)]
      · rw [u2n _ _ _ _ _ e, g2 y (by omega)]
def haF (K : Nat → Nat → Nat) (W : Option ((Nat → Nat) → Int)) (σ : Nat → Nat) (a k : Nat) : Nat := if a.testBit k = true then wts K (K 0 4) * lossN K W σ k 0 9 else 0
theorem c_hand_l (hK : OkK K) (hb : OkS K b σ) (hb2 : b < 100000) (h : WC K W σ i rv) (ha : a < 2 ^ 9) : ∀ n k i1, k ≤ K 0 3 → K 0 3 - k < n → FrL [24, 36] rv i i1 → (∀ y, y < 2 ^ k → i1 36 y = nI (sS (haF K W σ a) y)) →
    ∃ i2, fX0_sumByHand_17 n (nI a) (nI (wts K (K 0 4))) (nI k) i1 rv = some i2 ∧ FrL [24, 36] rv i i2 ∧ (∀ y, y < 2 ^ K 0 3 → i2 36 y = nI (sS (haF K W σ a) y)) := by
  have hm := hK.1
  intro n
  induction n with
  | zero => intro k i1 h1 h2; omega
  | succ n ih =>
    intro k i1 h1 h2 g1 g2
    have hw1 := WC_f h g1 (by decide)
    rw [fX0_sumByHand_17]
    unfold fX1_sleepers fX0_sumByHand_54
    rw [hw1.1.1, mz_b1]
    by_cases h3 : k = K 0 3
    · rw [h3] at g2
      rw [if_pos (nI_le (by omega) (by omega))]
      exact ⟨i1, rfl, g1, g2⟩
    · have hpk : 2 ^ k ≤ 2 ^ 9 := Nat.pow_le_pow_right (by omega) (by omega)
      obtain ⟨fu, hfu, hfu2⟩ := fuel_g
      rw [if_neg (nI_ge (by omega) (by omega)), mz_bit1 (by omega) (by omega), hfu]
      by_cases h4 : a.testBit k = true
      · obtain ⟨i2, p1, p2⟩ := c_lossByHand (q := 19) hw1.1 hK hb (by omega) hw1.2.1 (Or.inl rfl) hw1.2.2 (p := k) (by omega)
        have e36 : i2 36 = i1 36 := FrL_row hw1.2.2 p2 (by decide) (by omega) (by omega) (by omega)
        obtain ⟨i3, q1', q2', q3'⟩ := c_hand_in (kh := fX0_sumByHand_17 n) (a1 := nI a) (a2 := nI (wts K (K 0 4))) (rv := rv) (i := i2) (f := haF K W σ a) (k := k) (by omega) fu 0 i2 (Nat.zero_le _) (by omega) (Fr_r _ _) (by
          intro y hy
          rw [e36]
          exact g2 y (by omega))
        rw [if_pos h4, if_neg (show ¬ nI 1 = 0 by decide), p1, mz_b2, mz_mul]
        have eh : haF K W σ a k = wts K (K 0 4) * lossN K W σ k 0 9 := if_pos h4
        rw [eh, ← q0] at q1'
        rw [q1']
        exact ih (k + 1) i3 (by omega) (by omega) (FrL_t g1 (FrL_t (FrL_w (by decide) p2) (FrL_w (by decide) (FrL_f q2')))) q3'
      · obtain ⟨i3, q1', q2', q3'⟩ := c_hand_in (kh := fX0_sumByHand_17 n) (a1 := nI a) (a2 := nI (wts K (K 0 4))) (rv := rv) (i := i1) (f := haF K W σ a) (k := k) (by omega) fu 0 i1 (Nat.zero_le _) (by omega) (Fr_r _ _) (by
          intro y hy
          exact g2 y (by omega))
        have eh : haF K W σ a k = 0 := if_neg h4
        rw [eh, ← q0] at q1'
        rw [if_neg h4, if_pos (show nI 0 = 0 from rfl), q1']
        exact ih (k + 1) i3 (by omega) (by omega) (FrL_t g1 (FrL_w (by decide) (FrL_f q2'))) q3'
theorem C_hand (hK : OkK K) (hb : OkS K b σ) (hb2 : b < 100000) (h : WC K W σ i rv) (ha : a < 2 ^ K 0 3) : ∃ i2, fX0_sumByHand (nI a) i rv = some i2 ∧ FrL [24, 36] rv i i2 ∧ (∀ y, y &&& a = y → i2 36 y = cI (csB K W σ y 0)) := by
  have hm := hK.1
  have hp2 : 2 ^ K 0 3 ≤ 2 ^ 9 := Nat.pow_le_pow_right (by omega) hm
  unfold fX0_sumByHand
  obtain ⟨fu, hfu, hfu2⟩ := fuel_g
  rw [hfu, c_weights h.1 hK, mz_b1, q0, if_pos (mz_in (by omega) (by omega)), mz_lt, nI_clamp (by omega)]
  obtain ⟨i2, e1, e2, e3⟩ := c_hand_l (a := a) hK hb hb2 h (by omega) fu 0 (u2 i 36 0 (nI 0)) (by omega) (by omega) (FrL_w (by decide) (FrL_f Fr_u)) (by
    intro y hy
    rw [show y = 0 by omega, u2e, sS_0])
  refine ⟨i2, e1, e2, fun y hy => ?_⟩
  have hya : y ≤ a := by rw [← hy]; exact Nat.and_le_right
  rw [e3 y (by omega), csB]
  show nI _ = nI _
  congr 1
  unfold sS
  apply sumTo_congr
  intro z _
  by_cases hz : y.testBit z = true
  · have hza : a.testBit z = true := by
      rw [← hy, Nat.testBit_and, Bool.and_eq_true] at hz
      exact hz.2
    rw [if_pos hz, if_pos hz]
    exact if_pos hza
  · rw [if_neg hz, if_neg hz]
theorem c_asl_l (hK : OkK K) (hb : OkS K b σ) (h : CarC 15 K i) (hs : ScC σ (i 20)) : ∀ n z, z ≤ K 0 5 → K 0 5 - z < n → fX0_asleepWithPapers_4 n (nI (orTo (fun q => if σ (27 + σ (9 + q)) = 1 then 2 ^ σ (9 + q) else 0) z)) (nI z) i = some (nI (aslS K σ)) := by
  have hm := hK.1
  have hp := hK.2.2.1
  intro n
  induction n with
  | zero => intro z h1 h2; omega
  | succ n ih =>
    intro z h1 h2
    rw [fX0_asleepWithPapers_4]
    unfold fX1_papers fX0_asleepWithPapers_43
    rw [h.2.2.1, mz_b1]
    by_cases h3 : z = K 0 5
    · rw [if_pos (nI_le (by omega) (by omega)), h3, asl_pap hb]
    · have hpl := OkS_dr hb z (by omega)
      have hle := (hb.2.2.2.2.2.2.1 (σ (9 + z)) (by omega)).1
      have ih' := ih (z + 1) (by omega) (by omega)
      rw [orTo] at ih'
      rw [if_neg (nI_ge (by omega) (by omega)), s_inDrawer (q := 19) hs (by omega), mz_b1, s_isAsleep (q := 19) hs hb (by omega), mz_b1, mz_1l _ (by omega), mz_or, nI_1, show ∀ x : Int32, x ||| 0 = x from fun x => Int32.or_zero]
      by_cases h4 : σ (27 + σ (9 + z)) = 1
      · rw [if_pos h4] at ih'
        rw [if_neg (show ¬ nI (σ (27 + σ (9 + z))) = 0 by rw [h4]; decide)]
        exact ih'
      · rw [if_neg h4, Nat.or_zero] at ih'
        rw [if_pos (show nI (σ (27 + σ (9 + z))) = 0 by rw [show σ (27 + σ (9 + z)) = 0 by omega]; rfl)]
        exact ih'
theorem c_asl (hK : OkK K) (hb : OkS K b σ) (h : CarC 15 K i) (hs : ScC σ (i 20)) : fX0_asleepWithPapers i = some (nI (aslS K σ)) := by
  have hm := hK.1
  have hp := hK.2.2.1
  unfold fX0_asleepWithPapers
  obtain ⟨fu, hfu, hfu2⟩ := fuel_g
  rw [hfu]
  exact c_asl_l hK hb h hs fu 0 (by omega) (by omega)
theorem c_whom_l (hK : OkK K) (hb : OkS K b σ) (hb2 : b < 100000) (h : WC K W σ i rv) (ha : a < 2 ^ 9) : ∀ n o i1, o ≤ K 0 4 → K 0 4 - o < n → FrL [24, 36, 37, 38, 39, 40] rv i i1 → (∀ y, y &&& a = y → i1 36 y = cI (csB K W σ y o)) →
    ∃ i2, fX0_findWhomToWake_12 n (nI a) (nI o) i1 rv = fX0_findWhomToWake_59 fuel (nI a) 0 (u2 i2 35 13 (-1)) rv ∧ FrL [24, 36, 37, 38, 39, 40] rv i i2 ∧ (∀ y, y &&& a = y → i2 36 y = cI (csB K W σ y (K 0 4))) := by
  have hm4 := hK.2.1
  intro n
  induction n with
  | zero => intro o i1 h1 h2; omega
  | succ n ih =>
    intro o i1 h1 h2 g1 g2
    have hw1 := WC_f h g1 (by decide)
    rw [fX0_findWhomToWake_12]
    unfold fX1_officers fX0_findWhomToWake_46
    rw [hw1.1.2.1, mz_b1]
    by_cases h3 : o = K 0 4
    · rw [h3] at g2
      rw [if_pos (nI_le (by omega) (by omega)), mz_lt]
      exact ⟨i1, rfl, g1, g2⟩
    · have h9 := hK.2.2.2.2.2.2.2.2.2.2.2.1 o 0 (by omega) (by omega)
      rw [if_neg (nI_ge (by omega) (by omega)), q0, c_ofOfficer hw1.1 (by omega) (by omega), mz_b1, nI_1]
      by_cases h4 : ov K o 0 = 0
      · rw [if_pos (nI_le (by omega) (by omega))]
        refine ih (o + 1) i1 (by omega) (by omega) g1 (fun y hy => ?_)
        rw [csB, if_pos h4]
        exact g2 y hy
      · obtain ⟨i2, e1, e2, e3⟩ := C_layD (o := o) hK hb hb2 hw1 (by omega)
        have f2 : FrL [24, 36, 37, 38, 39, 40] rv i i2 := FrL_t g1 (FrL_w (by decide) e2)
        have hw2 := WC_f h f2 (by decide)
        have e36 : i2 36 = i1 36 := FrL_row hw1.2.2 e2 (by decide) (by omega) (by omega) (by omega)
        have t2 : ∀ y, y &&& a = y → i2 36 y = cI (csB K W σ y o) := fun y hy => by rw [e36]; exact g2 y hy
        obtain ⟨fu, hfu, hfu2⟩ := fuel_g
        obtain ⟨i3, d1, d2, d3⟩ := c_addB_l (o := o) (a := a) hK hb hw2.1 (by omega) h4 e3 ha t2 fu 0 i2 (by omega) (by omega) (Fr_r _ _) (fun y hy => by rw [if_neg (by omega)]; exact t2 y hy)
        unfold fX0_addBorders
        rw [if_neg (nI_ge (by omega) (by omega)), e1, mz_b1, ← q0, hfu, q0, c_ofOfficer hw2.1 (by omega) (by omega), mz_b1, d1, mz_b1]
        rw [hfu] at ih
        exact ih (o + 1) i3 (by omega) (by omega) (FrL_t f2 (FrL_w (by decide) (FrL_f d2))) d3
end BI
