/-! order: the class's table is filled and read -/
section OG
variable {i i' i1 i2 i3 j j' j1 j2 : Tb} {rv rv' rv1 rv2 : Nat → Nat → Option Nat} {W : Option ((Nat → Nat) → Int)} {K g : Nat → Nat → Nat} {σ τ σ' ρ T : Nat → Nat} {q p o k b b' t w v n r z c s x a m y cf X : Nat} {a1 a2 x1 x2 : Int32}
theorem LyO_f (h : LyO K o σ m i) (hf : Fr [34] i i') : LyO K o σ m i' := by
  obtain ⟨e7, ⟨cf, f1, f2, f3⟩, e31, e32, e33⟩ := h
  refine ⟨?_, ⟨cf, f1, ?_, f3⟩, ?_, ?_, ?_⟩
  · rw [hf 30 (by decide)]; exact e7
  · rw [hf 30 (by decide)]; exact f2
  · rw [hf 31 (by decide)]; exact e31
  · rw [hf 32 (by decide)]; exact e32
  · rw [hf 33 (by decide)]; exact e33
theorem LyO_f9 (h : LyO K o σ m i) (hf : Fr [30] i i') (h7 : i' 30 7 = i 30 7) (h8 : i' 30 8 = i 30 8) : LyO K o σ m i' := by
  obtain ⟨e7, ⟨cf, f1, f2, f3⟩, e31, e32, e33⟩ := h
  refine ⟨?_, ⟨cf, f1, ?_, f3⟩, ?_, ?_, ?_⟩
  · rw [h7]; exact e7
  · rw [h8]; exact f2
  · rw [hf 31 (by decide)]; exact e31
  · rw [hf 32 (by decide)]; exact e32
  · rw [hf 33 (by decide)]; exact e33
theorem ow_le (hK : OkK K) (hb : OkS K b σ) (ho : o < K 0 4) (hsl : s < 2 ^ K 0 5) (hk : k < K 0 5) (hT : T (s ||| 2 ^ k) ≤ 1000000000) : owO K o σ T s k ≤ 1000000000 := by
  have := enO_lt (o := o) (s := s) hK hb ho hsl hk
  unfold owO
  omega
/-- one set's row of the table -/
theorem c_soon_in {kh : Int32 → Int32 → (Nat → Nat → Int32) → Option ((Nat → Nat → Int32))} (h : CarC 15 K i) (hK : OkK K) (hb : OkS K b σ) (hs : ScC σ (i 20)) (ho : o < K 0 4) (h7 : K 0 5 ≤ 7) (hL : LyO K o σ (K 0 5) i) (hsl : s < 2 ^ K 0 5) (hT : ∀ y, s < y → y < 2 ^ K 0 5 → i 34 y = nI (T y) ∧ T y ≤ 1000000000) : ∀ n k i1, k ≤ K 0 5 → K 0 5 - k < n → Fr [34] i i1 → (∀ y, y ≠ s → i1 34 y = i 34 y) → i1 34 s = nI (mnTo (fun k => !(s.testBit k)) (owO K o σ T s) k) →
    ∃ i2, fX7_findSoonest_45 kh n (nI o) (nI s) (nI k) i1 = kh (nI o) (nI s + (-1)) i2 ∧ Fr [34] i i2 ∧ (∀ y, y ≠ s → i2 34 y = i 34 y) ∧ i2 34 s = nI (mnTo (fun k => !(s.testBit k)) (owO K o σ T s) (K 0 5)) := by
  have hp2 : 2 ^ K 0 5 ≤ 2 ^ 7 := Nat.pow_le_pow_right (by omega) h7
  intro n
  induction n with
  | zero => intro k i1 h1 h2; omega
  | succ n ih =>
    intro k i1 h1 h2 g1 g2 g3
    have hL1 := LyO_f hL g1
    rw [fX7_findSoonest_45, hL1.1]
    unfold fX7_findSoonest_86
    rw [nI_1]
    by_cases h3 : k = K 0 5
    · subst h3
      rw [if_pos (nI_le (by omega) (by omega))]
      exact ⟨_, rfl, g1, g2, g3⟩
    · rw [if_neg (nI_ge (by omega) (by omega)), mz_bit1 (by omega) (by omega)]
      by_cases h4 : s.testBit k = true
      · rw [if_pos h4, if_neg (show ¬ nI 1 = 0 by decide)]
        refine ih (k + 1) i1 (by omega) (by omega) g1 g2 ?_
        rw [mnTo, if_neg (by simp [h4])]
        exact g3
      · have h4' : s.testBit k = false := by simpa using h4
        have hgt := or_gt h4'
        have hor := or_lt (k := k) hsl (by omega)
        obtain ⟨t1, t2⟩ := hT _ hgt hor
        have how := ow_le (K := K) (σ := σ) (o := o) (T := T) (s := s) (k := k) hK hb ho hsl (by omega) t2
        have hmn := mn_hi (P := fun k => !(s.testBit k)) (f := owO K o σ T s) k
        rw [if_neg h4, if_pos (show nI 0 = 0 from rfl), if_pos (mz_in (by omega) (by omega)), c_over (T := T) (CarC_f h (fun q q1 q2 => g1 q (by simp; omega))) hK hb (by rw [g1 20 (by decide)]; exact hs) ho h7 hL1 hsl (by omega) (by rw [g2 _ (by omega)]; exact t1) t2, mz_b1, if_pos (mz_in (by omega) (by omega)), mz_lt, nI_clamp (by omega), g3, mz_min (by omega) (by omega)]
        refine ih (k + 1) _ (by omega) (by omega) (Fr_t g1 Fr_u) ?_ ?_
        · intro y hy
          rw [u2n _ _ _ _ _ hy]
          exact g2 y hy
        · rw [u2e, mnTo, if_pos (by simp [h4'])]
/-- the way that the table shows -/
theorem c_pick {kh : Int32 → Int32 → Int32 → (Nat → Nat → Int32) → Option ((Nat → Nat → Int32))} (h : CarC 15 K i) (hK : OkK K) (hb : OkS K b σ) (hs : ScC σ (i 20)) (ho : o < K 0 4) (h7 : K 0 5 ≤ 7) (hL : LyO K o σ (K 0 5) i) (hsl : s < 2 ^ K 0 5) (hT : ∀ y, y < 2 ^ K 0 5 → i 34 y = nI (T y) ∧ T y ≤ 1000000000) (hX : i 30 10 = nI X) (hXl : X < 2 ^ 31) : ∀ n k, k + 1 ≤ K 0 5 → K 0 5 - k < n + 1 →
    fX7_findSoonest_130 kh n (nI o) (nI s) a1 (nI k) i = fX7_findSoonest_172 kh (nI o) (nI s) a1 (nI (fs (fun k => !(s.testBit k) && decide (owO K o σ T s k ≤ X)) (K 0 5 - 1 - k) k)) i := by
  have hp2 : 2 ^ K 0 5 ≤ 2 ^ 7 := Nat.pow_le_pow_right (by omega) h7
  intro n
  induction n with
  | zero => intro k h1 h2; omega
  | succ n ih =>
    intro k h1 h2
    rw [fX7_findSoonest_130, hL.1, hX]
    unfold fX7_findSoonest_166
    rw [nI_1, q1, mz_sub (by omega)]
    by_cases h3 : k = K 0 5 - 1
    · rw [if_pos (nI_le (by omega) (by omega)), show K 0 5 - 1 - k = 0 by omega]
      rfl
    · obtain ⟨d, hd⟩ : ∃ d, K 0 5 - 1 - k = d + 1 := ⟨K 0 5 - 1 - k - 1, by omega⟩
      rw [if_neg (nI_ge (by omega) (by omega)), hd, fs, ih (k + 1) (by omega) (by omega), show K 0 5 - 1 - (k + 1) = d by omega, ← q1, mz_bit1 (by omega) (by omega)]
      by_cases h4 : s.testBit k = true
      · rw [if_pos h4, if_pos (show nI 1 = 1 from rfl), if_neg (by simp [h4])]
      · have h4' : s.testBit k = false := by simpa using h4
        obtain ⟨t1, t2⟩ := hT _ (or_lt (k := k) hsl (by omega))
        have how := ow_le (K := K) (σ := σ) (o := o) (T := T) (s := s) (k := k) hK hb ho hsl (by omega) t2
        rw [if_neg h4, if_neg (show ¬ nI 0 = 1 by decide), c_over (T := T) h hK hb hs ho h7 hL hsl (by omega) t1 t2, mz_b1]
        by_cases h5 : owO K o σ T s k ≤ X
        · rw [if_pos (nI_le h5 (by omega)), if_pos (by rw [h4', decide_eq_true h5]; rfl)]
        · rw [if_neg (nI_ge (by omega) (by omega)), if_neg (by rw [decide_eq_false h5, Bool.and_false]; decide)]
theorem fs_le {P : Nat → Bool} : ∀ d k, fs P d k ≤ k + d := by
  intro d
  induction d with
  | zero => intro k; exact Nat.le_refl _
  | succ d ih =>
    intro k
    rw [fs]
    have := ih (k + 1)
    split <;> omega
theorem c_read (h : CarC 15 K i) (hK : OkK K) (hb : OkS K b σ) (hs : ScC σ (i 20)) (ho : o < K 0 4) (h7 : K 0 5 ≤ 7) (hL : LyO K o σ (K 0 5) i) (hT : ∀ y, y < 2 ^ K 0 5 → i 34 y = nI (T y) ∧ T y ≤ 1000000000) (hX : i 30 10 = nI X) (hXl : X < 2 ^ 31) : ∀ d n s r x i1, r + d = K 0 5 → d < n → s < 2 ^ K 0 5 → Fr [30] i i1 → (∀ y, y ≠ 9 → i1 30 y = i 30 y) → i1 30 9 = nI x →
    ∃ i2, fX7_findSoonest_118 n (nI o) (nI s) (nI r) i1 = some i2 ∧ Fr [30] i i2 ∧ (∀ y, y ≠ 9 → i2 30 y = i 30 y) ∧ i2 30 9 = nI (dgO K o σ T X d s x) := by
  have hm := hK.1
  have hp2 : 2 ^ K 0 5 ≤ 2 ^ 7 := Nat.pow_le_pow_right (by omega) h7
  intro d
  induction d with
  | zero =>
    intro n s r x i1 h1 h2 h3 g1 g2 g3
    obtain ⟨n, rfl⟩ : ∃ n', n = n' + 1 := ⟨n - 1, by omega⟩
    rw [fX7_findSoonest_118, g2 7 (by omega), hL.1, if_pos (nI_le (by omega) (by omega))]
    exact ⟨_, rfl, g1, g2, g3⟩
  | succ d ih =>
    intro n s r x i1 h1 h2 h3 g1 g2 g3
    obtain ⟨n, rfl⟩ : ∃ n', n = n' + 1 := ⟨n - 1, by omega⟩
    have hL1 := LyO_f9 hL g1 (g2 7 (by omega)) (g2 8 (by omega))
    obtain ⟨fu, hfu, hfu2⟩ := fuel_g
    have k1 := c_pick (T := T) (X := X) (kh := fX7_findSoonest_118 n) (a1 := nI r) (s := s) (CarC_f h (fun q q1 q2 => g1 q (by simp; omega))) hK hb (by rw [g1 20 (by decide)]; exact hs) ho h7 hL1 h3 (by rw [g1 34 (by decide)]; exact hT) (by rw [g2 10 (by omega)]; exact hX) hXl fu 0 (by omega) (by omega)
    rw [← q0, Nat.sub_zero] at k1
    rw [fX7_findSoonest_118, g2 7 (by omega), hL.1, if_neg (nI_ge (by omega) (by omega)), hfu, k1, dgO]
    generalize hF : fs (fun k => !(s.testBit k) && decide (owO K o σ T s k ≤ X)) (K 0 5 - 1) 0 = F
    have hFl : F ≤ 0 + (K 0 5 - 1) := by rw [← hF]; exact fs_le _ _
    unfold fX7_findSoonest_172
    rw [if_pos (mz_in (by omega) (by omega)), mz_lt, mz_lt, nI_clamp (by omega), g3, hL1.2.2.1 F (by omega), q10, mz_mul, nI_add, mz_1l F (by omega), mz_or, nI_1]
    refine ih n _ (r + 1) _ _ (by omega) (by omega) (or_lt h3 (by omega)) (Fr_t g1 Fr_u) ?_ (u2e _ _ _ _)
    intro y hy
    rw [u2n _ _ _ _ _ hy]
    exact g2 y hy
theorem c_soon_l (h : CarC 15 K i) (hK : OkK K) (hb : OkS K b σ) (hs : ScC σ (i 20)) (ho : o < K 0 4) (h7 : K 0 5 ≤ 7) (h0 : 0 < K 0 5) (hL : LyO K o σ (K 0 5) i) : ∀ s n T i1, s ≤ 2 ^ K 0 5 - 1 → s < n → Fr [34] i i1 → T (2 ^ K 0 5 - 1) = sS (tnO K o σ) (2 ^ K 0 5 - 1) → (∀ y, s ≤ y → y < 2 ^ K 0 5 - 1 → T y = mnTo (fun k => !(y.testBit k)) (owO K o σ T y) (K 0 5)) → (∀ y, s ≤ y → y < 2 ^ K 0 5 → i1 34 y = nI (T y) ∧ T y ≤ 1000000000) →
    ∃ T' i2, TbO K o σ T' ∧ fX7_findSoonest_30 n (nI o) (nI s + (-1)) i1 = some i2 ∧ Fr [30, 34] i i2 ∧ i2 30 10 = nI (T' 0) ∧ i2 30 9 = nI (dgO K o σ T' (T' 0) (K 0 5) 0 0) := by
  have hm := hK.1
  have hp2 : 2 ^ K 0 5 ≤ 2 ^ 7 := Nat.pow_le_pow_right (by omega) h7
  have hpp := Nat.two_pow_pos (K 0 5)
  intro s
  induction s with
  | zero =>
    intro n T i1 h1 h2 g1 g2 g3 g4
    obtain ⟨n, rfl⟩ : ∃ n', n = n' + 1 := ⟨n - 1, by omega⟩
    obtain ⟨fu, hfu, hfu2⟩ := fuel_g
    have hL1 := LyO_f hL g1
    have hTb : TbO K o σ T := ⟨g2, fun y hy => g3 y (by omega) hy⟩
    rw [fX7_findSoonest_30, if_pos (show nI 0 + (-1) < 0 by decide), q0, if_pos (mz_in (by omega) (by omega)), mz_lt, mz_lt, nI_clamp (by omega), (g4 0 (by omega) hpp).1, hfu]
    have fr1 : Fr [30] i1 (u2 (u2 i1 30 10 (nI (T 0))) 30 9 (nI 0)) := Fr_t Fr_u Fr_u
    obtain ⟨i2, r1, r2, r3, r4⟩ := c_read (T := T) (X := T 0) (i := u2 (u2 i1 30 10 (nI (T 0))) 30 9 (nI 0)) (CarC_f h (fun q q1 q2 => by rw [fr1 q (by simp; omega)]; exact g1 q (by simp; omega))) hK hb (by rw [fr1 20 (by decide), g1 20 (by decide)]; exact hs) ho h7 (LyO_f9 hL1 fr1 (by rw [u2n _ _ _ _ _ (by omega), u2n _ _ _ _ _ (by omega)]) (by rw [u2n _ _ _ _ _ (by omega), u2n _ _ _ _ _ (by omega)])) (by
      intro y hy
      rw [fr1 34 (by decide)]
      exact g4 y (by omega) hy) (by rw [u2n _ _ _ _ _ (by omega), u2e]) (by have := (g4 0 (by omega) hpp).2; omega) (K 0 5) fu 0 0 0 _ (by omega) (by omega) hpp (Fr_r _ _) (fun _ _ => rfl) (u2e _ _ _ _)
    refine ⟨T, i2, hTb, r1, ?_, ?_, r4⟩
    · exact Fr_t (Fr_w (by decide) g1) (Fr_t (Fr_w (by decide) fr1) (Fr_w (by decide) r2))
    · rw [r3 10 (by omega), u2n _ _ _ _ _ (by omega), u2e]
  | succ s ih =>
    intro n T i1 h1 h2 g1 g2 g3 g4
    obtain ⟨n, rfl⟩ : ∃ n', n = n' + 1 := ⟨n - 1, by omega⟩
    obtain ⟨fu, hfu, hfu2⟩ := fuel_g
    have hL1 := LyO_f hL g1
    have fr1 : Fr [34] i1 (u2 i1 34 s (nI 1000000000)) := Fr_u
    obtain ⟨i2, r1, r2, r3, r4⟩ := c_soon_in (T := T) (kh := fX7_findSoonest_30 n) (i := u2 i1 34 s (nI 1000000000)) (s := s) (CarC_f h (fun q q1 q2 => by rw [fr1 q (by simp; omega)]; exact g1 q (by simp; omega))) hK hb (by rw [fr1 20 (by decide), g1 20 (by decide)]; exact hs) ho h7 (LyO_f hL1 fr1) (by omega) (by
      intro y y1 y2
      rw [u2n _ _ _ _ _ (by omega)]
      exact g4 y (by omega) y2) fu 0 _ (by omega) (by omega) (Fr_r _ _) (fun _ _ => rfl) (by rw [u2e]; rfl)
    rw [mz_prd, fX7_findSoonest_30, if_neg (show ¬ nI s < 0 by rw [q0, mz_ltp (by omega) (by omega)]; omega), if_pos (mz_in (by omega) (by omega)), mz_lt, nI_clamp (by omega), hfu, show (1000000000 : Int32) = nI 1000000000 from rfl]
    rw [← q0] at r1
    rw [r1]
    have hne : ∀ y k, s ≤ y → y.testBit k = false → y ||| 2 ^ k ≠ s := fun y k h1 h2 => by have := or_gt h2; omega
    have hmc : ∀ y, s ≤ y → mnTo (fun k => !(y.testBit k)) (owO K o σ (fun z => if z = s then mnTo (fun k => !(s.testBit k)) (owO K o σ T s) (K 0 5) else T z) y) (K 0 5) = mnTo (fun k => !(y.testBit k)) (owO K o σ T y) (K 0 5) := by
      intro y hy
      apply mn_congr
      intro k hk hP
      have hP' : y.testBit k = false := by simpa using hP
      unfold owO
      show max _ (if y ||| 2 ^ k = s then _ else T (y ||| 2 ^ k)) = _
      rw [if_neg (hne y k hy hP')]
    refine ih n (fun z => if z = s then mnTo (fun k => !(s.testBit k)) (owO K o σ T s) (K 0 5) else T z) i2 (by omega) (by omega) (Fr_t g1 (Fr_t fr1 r2)) ?_ ?_ ?_
    · rw [if_neg (by omega)]
      exact g2
    · intro y y1 y2
      rw [hmc y y1]
      by_cases e : y = s
      · rw [if_pos e, e]
      · rw [if_neg e]
        exact g3 y (by omega) y2
    · intro y y1 y2
      by_cases e : y = s
      · rw [if_pos e, e]
        exact ⟨r4, mn_hi _⟩
      · rw [if_neg e, r3 y e, u2n _ _ _ _ _ e]
        exact g4 y (by omega) y2
theorem C_soon (h : CarC 15 K i) (hK : OkK K) (hb : OkS K b σ) (hs : ScC σ (i 20)) (ho : o < K 0 4) (h7 : K 0 5 ≤ 7) : ∃ T i2, TbO K o σ T ∧ fX7_findSoonest (nI o) i = some i2 ∧ Fr [30, 31, 32, 33, 34] i i2 ∧ i2 30 10 = nI (T 0) ∧ i2 30 9 = nI (dgO K o σ T (T 0) (K 0 5) 0 0) := by
  have hm := hK.1
  have h0 : 0 < K 0 5 := by
    rcases Nat.eq_zero_or_pos (K 0 3) with e | e
    · have := hK.2.2.2.2.1 e
      omega
    · exact (hK.2.2.2.1 e).2
  have hp2 : 2 ^ K 0 5 ≤ 2 ^ 7 := Nat.pow_le_pow_right (by omega) h7
  have hpp := Nat.two_pow_pos (K 0 5)
  obtain ⟨i1, l1, l2, l3⟩ := c_lay h hK hb hs ho h7
  have h33 := l3.2.2.2.2 (2 ^ K 0 5 - 1) (by omega)
  have hSl := sS_le (f := tnO K o σ) (s := 2 ^ K 0 5 - 1) (m := 27) (fun z hz => turnS_le hK (pp_ok (n := K 0 3) hm (by rw [nb_N hb]; exact bit_lt (by omega) hz)).1 ho)
  unfold fX7_findSoonest
  obtain ⟨fu, hfu, hfu2⟩ := fuel_g
  rw [hfu, l1, mz_b1, l3.1, mz_1l _ (by omega), q1, mz_sub (by omega), mz_lt, if_pos (mz_in (by omega) (by omega)), if_pos (mz_in (by omega) (by omega)), mz_lt, nI_clamp (by omega), h33]
  have fr1 : Fr [34] i1 (u2 i1 34 (2 ^ K 0 5 - 1) (nI (sS (tnO K o σ) (2 ^ K 0 5 - 1)))) := Fr_u
  obtain ⟨T, i2, e1, e2, e3, e4, e5⟩ := c_soon_l (o := o) (i := i1) (CarC_f h (fun q q1 q2 => l2 q (by simp; omega))) hK hb (by rw [l2 20 (by decide)]; exact hs) ho h7 h0 l3 (2 ^ K 0 5 - 1) fu (fun _ => sS (tnO K o σ) (2 ^ K 0 5 - 1)) _ (Nat.le_refl _) (by omega) fr1 rfl (fun y y1 y2 => by omega) (by
    intro y y1 y2
    rw [show y = 2 ^ K 0 5 - 1 by omega, u2e]
    exact ⟨rfl, by omega⟩)
  refine ⟨T, i2, e1, ?_, Fr_t (Fr_w (by decide) l2) (Fr_w (by decide) e3), e4, e5⟩
  have eS : nI (2 ^ K 0 5 - 1) - nI 1 = nI (2 ^ K 0 5 - 1) + (-1) := by
    have : 2 ^ 1 ≤ 2 ^ K 0 5 := Nat.pow_le_pow_right (by omega) h0
    obtain ⟨F, hF⟩ : ∃ F, 2 ^ K 0 5 - 1 = F + 1 := ⟨2 ^ K 0 5 - 2, by omega⟩
    rw [hF, mz_prd, mz_sub (by omega)]
    rfl
  rw [eS]
  exact e2
/-- 37: order -/
theorem R_order (hK : OkK K) (hb : OkS K b σ) (h : CarC 15 K i) (hs : ScC σ (i 20)) (h' : CarM K j) (hw : ScM K σ (j 63)) (a1 a2 : Int32) : ∃ v i' j', fX11_order a1 a2 i = some (v, i') ∧ fX12_order a1 a2 j = some (v, j') ∧ Fr [30, 31, 32, 33, 34] i i' ∧ Fr [50, 66] j j' ∧ F5 [0, 44, 45] j j' := by
  have hm := hK.1
  have hw0 : CarM K (u2 j 50 0 0) := m_car0 h' (by omega)
  have fr0 : Fr [50, 66] j (u2 j 50 0 0) := Fr_w (by decide) Fr_u
  have f50 : F5 [0, 44, 45] j (u2 j 50 0 0) := F5_w (by decide) F5_u
  have hi := mz_isIn a2 0 1
  unfold fX11_order fX12_order
  simp only [mz_lt]
  rw [show fX12_isIn a2.toInt64 0 1 = some (if 0 ≤ a2 ∧ a2 ≤ 1 then 1 else 0) from hi]
  rcases mz_cases a1 with ha | ⟨o, ho1, rfl⟩
  · rw [c_hasOfficer0 ha, m_isOfficer0 ha, mz_b1, mz_b1, if_pos rfl, if_pos rfl]
    exact ⟨_, _, _, rfl, rfl, Fr_r _ _, fr0, f50⟩
  · rw [c_hasOfficer h hK ho1, m_isOfficer hw0 hK ho1, mz_b1, mz_b1]
    by_cases ho : o < K 0 4
    · rw [if_pos ho, if_neg (show ¬ (1 : Int32) = 0 by decide), if_neg (show ¬ (1 : Int32) = 0 by decide), mz_b1]
      by_cases h1 : a2 < 0
      · rw [if_pos h1, if_neg (show ¬ (0 ≤ a2 ∧ a2 ≤ 1) from fun e => absurd h1 (Int32.not_lt.mpr e.1)), if_pos rfl]
        exact ⟨_, _, _, rfl, rfl, Fr_r _ _, fr0, f50⟩
      · rw [if_neg h1]
        by_cases h2 : a2 ≤ 1
        · rw [if_pos h2, if_pos (show 0 ≤ a2 ∧ a2 ≤ 1 from ⟨Int32.not_lt.mp h1, h2⟩), if_neg (show ¬ (1 : Int32) = 0 by decide)]
          unfold fX1_papers
          have hp := hK.2.2.1
          rw [h.2.2.1, mz_b1, hw0.2.2.1]
          by_cases h7 : K 0 5 ≤ 7
          · obtain ⟨T, i2, e1, e2, e3, e4, e5⟩ := C_soon h hK hb hs ho h7
            have hT0 := TbO_lt hK hb ho e1 _ 0 (Nat.two_pow_pos _) (Nat.le_refl _)
            obtain ⟨j2, m1, m2, m3, m4, m5, m6⟩ := M_goO (o := o) hK hb ho e1 h7 (K 0 5) 12 0 0 (fun _ => 0) 0 (2 ^ 31) 0 (u2 (u2 j 50 0 0) 50 44 (-1)) (by omega) (by omega) (CarM_f hw0 (Fr_u) (F5_u) (by decide) (by decide) (by decide) (by decide) (by decide) (by decide)) (by rw [u2r _ _ _ _ _ (by omega), u2r _ _ _ _ _ (by omega)]; exact hw) rfl sS_0 (fun z hz => by omega) (by omega) (fun k hk => by rw [Nat.zero_testBit, Nat.zero_testBit]) (Nat.le_refl _) (by rw [u2e]; rfl)
            rw [show mxO K o σ (fun _ => 0) 0 = 0 from rfl, show max 0 (T 0) = T 0 by omega] at m5 m6
            rw [show min (2 ^ 31) (T 0) = T 0 by omega, bsI_of (by omega)] at m5
            rw [if_pos (by omega)] at m6
            rw [q7, if_pos (nI_le h7 (by omega)), if_pos (nI_le h7 (by omega)), e2, mz_b1]
            unfold fX7_digits fX7_worth
            have m1' : fX12_goOrder 12 (nI o) 0 0 0 (u2 (u2 j 50 0 0) 50 44 (-1)) = some j2 := m1
            rw [m1', e4, e5, mz_b1, mz_b1, mz_b1, m5, m6]
            have frj : Fr [50, 66] j j2 := Fr_t fr0 (Fr_t (Fr_w (by decide) Fr_u) m2)
            have f5j : F5 [0, 44, 45] j j2 := F5_t f50 (F5_t (F5_w (by decide) F5_u) (F5_w (by decide) m3))
            by_cases h3 : a2 = 0
            · rw [if_pos h3, if_pos h3]
              exact ⟨_, _, _, rfl, rfl, e3, frj, f5j⟩
            · rw [if_neg h3, if_neg h3]
              exact ⟨_, _, _, rfl, rfl, e3, frj, f5j⟩
          · rw [q7, if_neg (nI_ge (by omega) (by omega)), if_neg (nI_ge (by omega) (by omega))]
            exact ⟨_, _, _, rfl, rfl, Fr_r _ _, fr0, f50⟩
        · rw [if_neg h2, if_neg (show ¬ (0 ≤ a2 ∧ a2 ≤ 1) from fun e => h2 e.2), if_pos rfl]
          exact ⟨_, _, _, rfl, rfl, Fr_r _ _, fr0, f50⟩
    · rw [if_neg ho, if_pos rfl, if_pos rfl]
      exact ⟨_, _, _, rfl, rfl, Fr_r _ _, fr0, f50⟩
end OG
