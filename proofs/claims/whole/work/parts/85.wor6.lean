/-! words: the class lays its tables out; words -/
section WT
variable {i i' i1 i2 i3 j j' j1 j2 : Tb} {rv rv' : Nat → Nat → Option Nat} {W : Option ((Nat → Nat) → Int)} {K g : Nat → Nat → Nat} {σ τ σ' ρ w w' w'' : Nat → Nat} {q p o k b b' t v n r z c s x a m y l d u C T : Nat} {a1 a2 x1 x2 x3 x4 x5 x6 x7 x9 : Int32}
theorem c_lr41 {kh : Int32 → Int32 → (Nat → Nat → Int32) → Option ((Nat → Nat → Int32))} (hK : OkK K) (hb : OkS K b σ) (ho : o < K 0 4) (hk : k < nl K (K 0 3)) (h42 : ∀ v, v < 3 → i 42 ((k * 3 + v) * 4 + o) = nI (ftW K σ o k v)) (h44 : i 44 ((k + 1) * 4 + o) = nI (reW K σ o (nl K (K 0 3)) (nl K (K 0 3) - (k + 1)))) : ∀ n, 3 ≤ n →
    fX0_layOutRest_41 kh n (nI o) (nI k) (nI (ftW K σ o k 0)) 1 i = kh (nI o) (nI k + (-1)) (u2 i 44 (k * 4 + o) (nI (reW K σ o (nl K (K 0 3)) (nl K (K 0 3) - k)))) := by
  have hm4 := hK.2.1
  have hm := hK.1
  have hN := nl_le (K := K) (p := K 0 3)
  intro n hn
  obtain ⟨n', rfl⟩ : ∃ n', n = n' + 3 := ⟨n - 3, by omega⟩
  have f0 := ft_le (v := 0) hK hb hk ho
  have f1 := ft_le (v := 1) hK hb hk ho
  have f2 := ft_le (v := 2) hK hb hk ho
  have hr := re_le (o := o) hK hb ho (nl K (K 0 3) - (k + 1)) (by omega)
  rw [fX0_layOutRest_41, if_neg (show ¬ (3 : Int32) ≤ 1 by decide)]
  unfold fX0_cellOf
  rw [mz_b1, q3, q4, q1, mz_mul, nI_add, mz_mul, nI_add, if_pos (mz_in (by omega) (by omega)), nI_clamp (by omega), h42 1 (by omega), mz_min (by omega) (by omega), mz_lt, nI_add, fX0_layOutRest_41, if_neg (show ¬ (3 : Int32) ≤ nI (1 + 1) by decide)]
  unfold fX0_cellOf
  rw [mz_b1, show (1 + 1 : Nat) = 2 from rfl, q3, q4, q1, mz_mul, nI_add, mz_mul, nI_add, if_pos (mz_in (by omega) (by omega)), nI_clamp (by omega), h42 2 (by omega), mz_min (by omega) (by omega), mz_lt, nI_add, fX0_layOutRest_41, if_pos (show (3 : Int32) ≤ nI (2 + 1) by decide), q1, nI_add, q4, mz_mul, nI_add, if_pos (mz_in (by omega) (by omega)), nI_clamp (by omega), h44, mz_lt, mz_mul, nI_add, if_pos (mz_in (by omega) (by omega)), nI_clamp (by omega), mz_max (by omega) (by omega), mz_lt]
  obtain ⟨d, hd⟩ : ∃ d, nl K (K 0 3) - k = d + 1 := ⟨nl K (K 0 3) - k - 1, by omega⟩
  rw [hd, reW, show nl K (K 0 3) - (d + 1) = k by omega, show nl K (K 0 3) - (k + 1) = d by omega]
  rfl
theorem c_lr21 (hK : OkK K) (hb : OkS K b σ) (ho : o < K 0 4) (h42 : ∀ k v, k < nl K (K 0 3) → v < 3 → i 42 ((k * 3 + v) * 4 + o) = nI (ftW K σ o k v)) : ∀ n d i1, d ≤ nl K (K 0 3) → d < n → Fr [44] i i1 → (∀ y, y % 4 ≠ o → i1 44 y = i 44 y) → (∀ k, d ≤ k → k ≤ nl K (K 0 3) → i1 44 (k * 4 + o) = nI (reW K σ o (nl K (K 0 3)) (nl K (K 0 3) - k))) →
    ∃ i2, fX0_layOutRest_21 n (nI o) (nI d - 1) i1 = some i2 ∧ Fr [44] i i2 ∧ (∀ y, y % 4 ≠ o → i2 44 y = i 44 y) ∧ (∀ k, k ≤ nl K (K 0 3) → i2 44 (k * 4 + o) = nI (reW K σ o (nl K (K 0 3)) (nl K (K 0 3) - k))) := by
  have hm4 := hK.2.1
  have hm := hK.1
  have hN := nl_le (K := K) (p := K 0 3)
  intro n
  induction n with
  | zero => intro d i1 h1 h2; omega
  | succ n ih =>
    intro d i1 h1 h2 g1 g2 g3
    rw [fX0_layOutRest_21]
    by_cases h3 : d = 0
    · rw [h3] at g3
      rw [h3, if_pos (show nI 0 - 1 < 0 by decide)]
      exact ⟨i1, rfl, g1, g2, fun k hk => g3 k (Nat.zero_le _) hk⟩
    · obtain ⟨k, rfl⟩ : ∃ k, d = k + 1 := ⟨d - 1, by omega⟩
      have hk : k < nl K (K 0 3) := by omega
      have f0 := ft_le (v := 0) hK hb hk ho
      have hn' := c_lr41 (kh := fX0_layOutRest_21 n) (i := i1) hK hb ho hk (fun v hv => by rw [g1 42 (by decide)]; exact h42 k v hk hv) (g3 (k + 1) (Nat.le_refl _) (by omega))
      obtain ⟨fu, hfu, hfu2⟩ : ∃ m, fuel = m ∧ 3 ≤ m := ⟨30000, rfl, by omega⟩
      unfold fX0_cellOf
      have e0 : i1 42 ((k * 3 + 0) * 4 + o) = nI (ftW K σ o k 0) := by rw [g1 42 (by decide)]; exact h42 k 0 hk (by omega)
      rw [q1, mz_sub (by omega), show k + 1 - 1 = k by omega, if_neg (show ¬ nI k < 0 by rw [q0, mz_ltp (by omega) (by omega)]; omega), mz_b1, q3, q4, q0, mz_mul, nI_add, mz_mul, nI_add, if_pos (mz_in (by omega) (by omega)), nI_clamp (by omega), e0, mz_lt]
      have key : ∀ fu, 3 ≤ fu → fX0_layOutRest_41 (fX0_layOutRest_21 n) fu (nI o) (nI k) (nI (ftW K σ o k 0)) 1 i1 = fX0_layOutRest_21 n (nI o) (nI k + (-1)) (u2 i1 44 (k * 4 + o) (nI (reW K σ o (nl K (K 0 3)) (nl K (K 0 3) - k)))) := by
        intro fu2 h2
        exact hn' fu2 (by omega)
      rw [hfu]
      rw [← q1, key fu hfu2, show nI k + (-1) = nI k - 1 from (Int32.sub_eq_add_neg _ _).symm]
      refine ih k _ (by omega) (by omega) (Fr_t g1 Fr_u) ?_ ?_
      · intro y hy
        rw [u2n _ _ _ _ _ (by omega)]
        exact g2 y hy
      · intro k' a1 a2
        by_cases e : k' = k
        · rw [e, u2e]
        · rw [u2n _ _ _ _ _ (by omega)]
          exact g3 k' (by omega) a2
theorem c_lr (hK : OkK K) (hb : OkS K b σ) (ho : o < K 0 4) (h12 : i 35 12 = nI (nl K (K 0 3))) (h42 : ∀ k v, k < nl K (K 0 3) → v < 3 → i 42 ((k * 3 + v) * 4 + o) = nI (ftW K σ o k v)) : ∃ i2, fX0_layOutRest (nI o) (nI (tB K o σ (K 0 5))) i = some i2 ∧ Fr [44] i i2 ∧ (∀ y, y % 4 ≠ o → i2 44 y = i 44 y) ∧ (∀ k, k ≤ nl K (K 0 3) → i2 44 (k * 4 + o) = nI (reW K σ o (nl K (K 0 3)) (nl K (K 0 3) - k))) := by
  have hm4 := hK.2.1
  have hm := hK.1
  have hN := nl_le (K := K) (p := K 0 3)
  obtain ⟨fu, hfu, hfu2⟩ := fuel_g
  unfold fX0_layOutRest
  rw [h12, q4, mz_mul, nI_add, if_pos (mz_in (by omega) (by omega)), nI_clamp (by omega), mz_lt, mz_lt, u2r _ _ _ _ _ (show (35 : Nat) ≠ 44 by omega), h12, hfu]
  refine c_lr21 (i := i) hK hb ho h42 fu (nl K (K 0 3)) _ (Nat.le_refl _) (by omega) Fr_u ?_ ?_
  · intro y hy
    rw [u2n _ _ _ _ _ (by omega)]
  · intro k a1 a2
    rw [show k = nl K (K 0 3) by omega, u2e, Nat.sub_self]
    rfl
/-- one of the lacking at its place in the drawer -/
theorem c_lw69 {kh4 : Int32 → Int32 → Int32 → (Nat → Nat → Int32) → Option ((Nat → Nat → Int32))} {kh45 : Int32 → Int32 → Int32 → Int32 → Int32 → (Nat → Nat → Int32) → Option ((Nat → Nat → Int32))} (hK : OkK K) (hb : OkS K b σ) (hc : CarC 15 K i) (ho : o < K 0 4) (hz : z < K 0 5) (hk : k < nl K (K 0 3)) (hkz : lk K k = σ (9 + z)) : ∀ n v i1, v ≤ 3 → 3 - v < n → Fr [42] i i1 → (∀ y, (y % 4 ≠ o ∨ y / 12 ≠ k) → i1 42 y = i 42 y) → (∀ y, y < v → i1 42 ((k * 3 + y) * 4 + o) = nI (ftW K σ o k y)) →
    ∃ i2, fX0_layOutWaits_69 kh4 kh45 n (nI o) (nI (tB K o σ (z + 1))) x3 (nI (σ (9 + z))) (nI k) (nI v) i1 = kh45 (nI o) (nI (tB K o σ (z + 1))) x3 (nI (σ (9 + z))) (nI (k + 1)) i2 ∧ Fr [42] i i2 ∧ (∀ y, (y % 4 ≠ o ∨ y / 12 ≠ k) → i2 42 y = i 42 y) ∧ (∀ y, y < 3 → i2 42 ((k * 3 + y) * 4 + o) = nI (ftW K σ o k y)) := by
  have hm4 := hK.2.1
  have hm := hK.1
  have hN := nl_le (K := K) (p := K 0 3)
  have hpl := OkS_dr hb z hz
  intro n
  induction n with
  | zero => intro v i1 h1 h2; omega
  | succ n ih =>
    intro v i1 h1 h2 g1 g2 g3
    have hc1 : CarC 15 K i1 := CarC_f hc (fun q a b => g1 q (by simp; omega))
    rw [fX0_layOutWaits_69]
    by_cases h3 : v = 3
    · rw [h3] at g3
      unfold fX0_layOutWaits_113
      rw [if_pos (show (3 : Int32) ≤ nI v by rw [h3]; decide), nI_1]
      exact ⟨i1, rfl, g1, g2, g3⟩
    · have hw := c_waitOf (c := 1) (s := v) hc1 hK hpl ho (by omega)
      rw [if_pos (show 0 < 1 by omega)] at hw
      have eft : tB K o σ (z + 1) + waitS K (σ (9 + z)) o v 1 = ftW K σ o k v := by
        unfold ftW
        rw [hkz, pl_dr hK hb hz]
      unfold fX0_cellOf
      rw [if_neg (show ¬ (3 : Int32) ≤ nI v by rw [q3, mz_le (by omega) (by omega)]; omega), hw, mz_b1, mz_b1, q3, q4, mz_mul, nI_add, mz_mul, nI_add, if_pos (mz_in (by omega) (by omega)), nI_clamp (by omega), nI_add, eft, mz_lt, nI_1]
      refine ih (v + 1) _ (by omega) (by omega) (Fr_t g1 Fr_u) ?_ ?_
      · intro y hy
        rw [u2n _ _ _ _ _ (by omega)]
        exact g2 y hy
      · intro y hy
        by_cases e : y = v
        · rw [e, u2e]
        · rw [u2n _ _ _ _ _ (by omega)]
          exact g3 y (by omega)
theorem c_lw45 {kh4 : Int32 → Int32 → Int32 → (Nat → Nat → Int32) → Option ((Nat → Nat → Int32))} (hK : OkK K) (hb : OkS K b σ) (hc : CarC 15 K i) (h12 : i 35 12 = nI (nl K (K 0 3))) (h41 : ∀ k, k < nl K (K 0 3) → i 41 k = nI (lk K k)) (ho : o < K 0 4) (hz : z < K 0 5) (h42 : ∀ k v, k < nl K (K 0 3) → v < 3 → plQ σ (lk K k) < z → i 42 ((k * 3 + v) * 4 + o) = nI (ftW K σ o k v)) : ∀ n k i1, k ≤ nl K (K 0 3) → nl K (K 0 3) - k < n → Fr [42] i i1 → (∀ y, y % 4 ≠ o → i1 42 y = i 42 y) → (∀ k' v, k' < nl K (K 0 3) → v < 3 → (plQ σ (lk K k') < z ∨ (plQ σ (lk K k') = z ∧ k' < k)) → i1 42 ((k' * 3 + v) * 4 + o) = nI (ftW K σ o k' v)) →
    ∃ i2, fX0_layOutWaits_45 kh4 n (nI o) (nI (tB K o σ (z + 1))) (nI z) (nI (σ (9 + z))) (nI k) i1 = kh4 (nI o) (nI (tB K o σ (z + 1))) (nI (z + 1)) i2 ∧ Fr [42] i i2 ∧ (∀ y, y % 4 ≠ o → i2 42 y = i 42 y) ∧ (∀ k' v, k' < nl K (K 0 3) → v < 3 → plQ σ (lk K k') < z + 1 → i2 42 ((k' * 3 + v) * 4 + o) = nI (ftW K σ o k' v)) := by
  have hm4 := hK.2.1
  have hm := hK.1
  have hN := nl_le (K := K) (p := K 0 3)
  have hpl := OkS_dr hb z hz
  intro n
  induction n with
  | zero => intro k i1 h1 h2; omega
  | succ n ih =>
    intro k i1 h1 h2 g1 g2 g3
    have hc1 : CarC 15 K i1 := CarC_f hc (fun q a b => g1 q (by simp; omega))
    rw [fX0_layOutWaits_45, g1 35 (by decide), h12, g1 41 (by decide)]
    unfold fX0_layOutWaits_113
    rw [nI_1, nI_1]
    by_cases h3 : k = nl K (K 0 3)
    · rw [if_pos (nI_le (by omega) (by omega))]
      exact ⟨i1, rfl, g1, g2, fun k' v a1 a2 a3 => g3 k' v a1 a2 (by omega)⟩
    · have hk : k < nl K (K 0 3) := by omega
      obtain ⟨e1, e2, e3, e4, e5⟩ := pl_lk hK hb hk
      rw [if_neg (nI_ge (by omega) (by omega)), if_pos (mz_in (by omega) (by omega)), nI_clamp (by omega), h41 k hk]
      by_cases h4 : lk K k = σ (9 + z)
      · obtain ⟨fu, hfu, hfu2⟩ := fuel_g
        obtain ⟨i2, s1, s2, s3, s4⟩ := c_lw69 (kh4 := kh4) (kh45 := fX0_layOutWaits_45 kh4 n) (x3 := nI z) hK hb hc1 ho hz hk h4 fu 0 i1 (by omega) (by omega) (Fr_r _ _) (fun _ _ => rfl) (fun y hy => by omega)
        rw [if_pos (show nI (lk K k) = nI (σ (9 + z)) by rw [h4]), hfu, show (0 : Int32) = nI 0 from rfl, s1]
        refine ih (k + 1) i2 (by omega) (by omega) (Fr_t g1 s2) ?_ ?_
        · intro y hy
          rw [s3 y (Or.inl hy)]
          exact g2 y hy
        · intro k' v a1 a2 a3
          by_cases e : k' = k
          · rw [e]; exact s4 v a2
          · rw [s3 _ (by omega)]
            exact g3 k' v a1 a2 (by omega)
      · rw [if_neg (show ¬ nI (lk K k) = nI (σ (9 + z)) by rw [nI_eq (by omega) (by omega)]; exact h4)]
        refine ih (k + 1) i1 (by omega) (by omega) g1 g2 ?_
        intro k' v a1 a2 a3
        refine g3 k' v a1 a2 ?_
        by_cases e : k' = k
        · rw [e] at a3 ⊢
          rcases a3 with a3 | a3
          · exact Or.inl a3
          · rw [a3.1] at e2
            exact absurd e2.symm h4
        · omega
def ColW (K : Nat → Nat → Nat) (σ : Nat → Nat) (o : Nat) (i : Tb) : Prop := (∀ k v, k < nl K (K 0 3) → v < 3 → i 42 ((k * 3 + v) * 4 + o) = nI (ftW K σ o k v)) ∧ (∀ k, k ≤ nl K (K 0 3) → i 44 (k * 4 + o) = nI (reW K σ o (nl K (K 0 3)) (nl K (K 0 3) - k))) ∧ i 43 o = nI (tB K o σ (K 0 5))
def FrO (o : Nat) (i i' : Tb) : Prop := Fr [42, 43, 44] i i' ∧ (∀ y, y % 4 ≠ o → i' 42 y = i 42 y ∧ i' 44 y = i 44 y) ∧ (∀ y, y ≠ o → i' 43 y = i 43 y)
theorem c_lw4 (hK : OkK K) (hb : OkS K b σ) (hc : CarC 15 K i) (hs : ScC σ (i 20)) (h12 : i 35 12 = nI (nl K (K 0 3))) (h41 : ∀ k, k < nl K (K 0 3) → i 41 k = nI (lk K k)) (ho : o < K 0 4) : ∀ n z i1, z ≤ K 0 5 → K 0 5 - z < n → Fr [42] i i1 → (∀ y, y % 4 ≠ o → i1 42 y = i 42 y) → (∀ k v, k < nl K (K 0 3) → v < 3 → plQ σ (lk K k) < z → i1 42 ((k * 3 + v) * 4 + o) = nI (ftW K σ o k v)) →
    ∃ i2, fX0_layOutWaits_4 n (nI o) (nI (tB K o σ z)) (nI z) i1 = some i2 ∧ FrO o i i2 ∧ ColW K σ o i2 := by
  have hm4 := hK.2.1
  have hm := hK.1
  have hp := hK.2.2.1
  have hN := nl_le (K := K) (p := K 0 3)
  intro n
  induction n with
  | zero => intro z i1 h1 h2; omega
  | succ n ih =>
    intro z i1 h1 h2 g1 g2 g3
    have hc1 : CarC 15 K i1 := CarC_f hc (fun q a b => g1 q (by simp; omega))
    have hs1 : ScC σ (i1 20) := by rw [g1 20 (by decide)]; exact hs
    have h12' : i1 35 12 = nI (nl K (K 0 3)) := by rw [g1 35 (by decide)]; exact h12
    rw [fX0_layOutWaits_4]
    unfold fX1_papers
    rw [hc1.2.2.1, mz_b1]
    by_cases h3 : z = K 0 5
    · rw [h3] at g3
      obtain ⟨i2, s1, s2, s3, s4⟩ := c_lr (o := o) (i := u2 i1 43 o (nI (tB K o σ (K 0 5)))) hK hb ho (by rw [u2r _ _ _ _ _ (by omega)]; exact h12') (fun k v a1 a2 => by rw [u2r _ _ _ _ _ (by omega)]; exact g3 k v a1 a2 (pl_lk hK hb a1).1)
      rw [h3, if_pos (nI_le (by omega) (by omega)), if_pos (mz_in (by omega) (by omega)), nI_clamp (by omega), mz_lt, s1, mz_b1]
      refine ⟨i2, rfl, ⟨Fr_t (Fr_w (by decide) g1) (Fr_t (Fr_w (by decide) Fr_u) (Fr_w (by decide) s2)), fun y hy => ⟨?_, ?_⟩, fun y hy => ?_⟩, fun k v a1 a2 => ?_, s4, ?_⟩
      · rw [s2 42 (by decide), u2r _ _ _ _ _ (by omega)]; exact g2 y hy
      · rw [s3 y hy, u2r _ _ _ _ _ (by omega), g1 44 (by decide)]
      · rw [s2 43 (by decide), u2n _ _ _ _ _ hy, g1 43 (by decide)]
      · rw [s2 42 (by decide), u2r _ _ _ _ _ (by omega)]; exact g3 k v a1 a2 (pl_lk hK hb a1).1
      · rw [s2 43 (by decide), u2e]
    · have hz : z < K 0 5 := by omega
      have hpl := OkS_dr hb z hz
      obtain ⟨fu, hfu, hfu2⟩ := fuel_g
      obtain ⟨i2, s1, s2, s3, s4⟩ := c_lw45 (kh4 := fX0_layOutWaits_4 n) hK hb hc1 h12' (fun k hk => by rw [g1 41 (by decide)]; exact h41 k hk) ho hz g3 fu 0 i1 (by omega) (by omega) (Fr_r _ _) (fun _ _ => rfl) (fun k' v a1 a2 a3 => g3 k' v a1 a2 (by omega))
      rw [if_neg (nI_ge (by omega) (by omega)), s_inDrawer (q := 19) hs1 (by omega), mz_b1, c_turnOf (q := 19) hc1 hK hb hs1 hpl ho, mz_b1, nI_add, ← tB_s, hfu, show (0 : Int32) = nI 0 from rfl, s1]
      exact ih (z + 1) i2 (by omega) (by omega) (Fr_t g1 s2) (fun y hy => by rw [s3 y hy]; exact g2 y hy) s4
theorem C_layW (hK : OkK K) (hb : OkS K b σ) (hc : CarC 15 K i) (hs : ScC σ (i 20)) (h12 : i 35 12 = nI (nl K (K 0 3))) (h41 : ∀ k, k < nl K (K 0 3) → i 41 k = nI (lk K k)) (ho : o < K 0 4) : ∃ i2, fX0_layOutWaits (nI o) i = some i2 ∧ FrO o i i2 ∧ ColW K σ o i2 := by
  have hm := hK.1
  have hp := hK.2.2.1
  obtain ⟨fu, hfu, hfu2⟩ := fuel_g
  unfold fX0_layOutWaits
  rw [hfu]
  exact c_lw4 hK hb hc hs h12 h41 ho fu 0 i (by omega) (by omega) (Fr_r _ _) (fun _ _ => rfl) (fun k v _ _ h => by omega)
theorem ColW_f (h : ColW K σ a i) (hK : OkK K) (ha : a < K 0 4) (hne : a ≠ o) (hf : FrO o i i') : ColW K σ a i' := by
  have hm4 := hK.2.1
  obtain ⟨h1, h2, h3⟩ := h
  refine ⟨fun k v a1 a2 => ?_, fun k a1 => ?_, ?_⟩
  · rw [(hf.2.1 _ (by omega)).1]; exact h1 k v a1 a2
  · rw [(hf.2.1 _ (by omega)).2]; exact h2 k a1
  · rw [hf.2.2 a hne]; exact h3
/-- what the class has found -/
def FwR (K : Nat → Nat → Nat) (σ : Nat → Nat) (i : Tb) : Prop := ∃ x w w0, i 35 14 = nI x ∧ i 35 13 = nI (dgW w (nl K (K 0 3))) ∧ (∀ w', ExW (nl K (K 0 3)) (σ 54) w0 0 w' → x ≤ bW K σ w' (nl K (K 0 3)) (nl K (K 0 3))) ∧ ExW (nl K (K 0 3)) (σ 54) w0 0 w ∧ bW K σ w (nl K (K 0 3)) (nl K (K 0 3)) ≤ x ∧ (∀ w', ExW (nl K (K 0 3)) (σ 54) w0 0 w' → bW K σ w' (nl K (K 0 3)) (nl K (K 0 3)) ≤ x → cdW w (nl K (K 0 3)) ≤ cdW w' (nl K (K 0 3)))
theorem c_fw66 (hK : OkK K) (hb : OkS K b σ) (hc : CarC 15 K i) (hs : ScC σ (i 20)) (h12 : i 35 12 = nI (nl K (K 0 3))) (h41 : ∀ k, k < nl K (K 0 3) → i 41 k = nI (lk K k)) : ∀ n o i1, o ≤ K 0 4 → K 0 4 - o < n → Fr [42, 43, 44] i i1 → (∀ a, a < o → ColW K σ a i1) →
    ∃ i2, fX0_findWords_66 n (nI o) i1 = some (1, i2) ∧ Fr [35, 42, 43, 44] i i2 ∧ FwR K σ i2 := by
  have hm4 := hK.2.1
  have hm := hK.1
  have hN := nl_le (K := K) (p := K 0 3)
  have hC := hb.2.2.2.2.2.2.2.2.1
  have n1 : narrow .boolean (.int 1) = .int 1 := by decide +kernel
  intro n
  induction n with
  | zero => intro o i1 h1 h2; omega
  | succ n ih =>
    intro o i1 h1 h2 g1 g2
    have hc1 : CarC 15 K i1 := CarC_f hc (fun q a b => g1 q (by simp; omega))
    have hs1 : ScC σ (i1 20) := by rw [g1 20 (by decide)]; exact hs
    have h12' : i1 35 12 = nI (nl K (K 0 3)) := by rw [g1 35 (by decide)]; exact h12
    rw [fX0_findWords_66]
    unfold fX1_officers
    rw [hc1.2.1, mz_b1]
    by_cases h3 : o = K 0 4
    · rw [h3] at g2
      have hA : AdT K σ (nl K (K 0 3)) (u2 i1 35 14 1000000000) := by
        refine ⟨CarC_f hc1 (fun q a b => u2r _ _ _ _ _ (by omega)), by rw [u2n _ _ _ _ _ (by omega)]; exact h12', fun k v a a1 a2 a3 => ?_, fun k a a1 a2 => ?_⟩
        · rw [u2r _ _ _ _ _ (by omega)]; exact (g2 a a3).1 k v a1 a2
        · rw [u2r _ _ _ _ _ (by omega)]; exact (g2 a a2).2.1 k a1
      have hP : PkT K σ (fun _ => 0) 0 (u2 i1 35 14 1000000000) := by
        intro z a hz ha
        rw [show z = 0 by omega, u2r _ _ _ _ _ (by omega), Nat.zero_mul, Nat.zero_add]
        exact (g2 a ha).2.2
      have hs2 : ScC σ (u2 i1 35 14 1000000000 20) := by rw [u2r _ _ _ _ _ (by omega)]; exact hs1
      have t0 : tw (fun _ => 0) 0 = 0 := rfl
      obtain ⟨i2, x2, r1, r2, r3, r4, r5, r6⟩ := C_least (C := σ 54) hK hb hC 12 0 (fun _ => 0) 1000000000 (u2 i1 35 14 1000000000) (by omega) (by omega) (fun _ => by omega) (by omega) hA hP (by rw [u2e]; rfl) (Nat.le_refl _)
      rw [t0, Nat.sub_zero] at r1
      have r1' : fX0_chooseLeast 12 0 (nI (σ 54)) (u2 i1 35 14 1000000000) = some i2 := r1
      have f3 : FrW 0 13 i2 (u2 i2 35 13 0) := ⟨Fr_w (by decide) Fr_u, fun z _ => by rw [u2r _ _ _ _ _ (by omega)], fun z hz => u2n _ _ _ _ _ hz⟩
      have hA2 := AdT_f hA (by omega) r2
      have hP2 := PkT_f hK hP r2
      have hA3 := AdT_f hA2 (by omega) f3
      have hP3 := PkT_f hK hP2 f3
      have hs3 : ScC σ (u2 i2 35 13 0 20) := by rw [u2r _ _ _ _ _ (by omega), r2.1 20 (by decide)]; exact hs2
      obtain ⟨r, i4, d1, d2, d3⟩ := C_digits (C := σ 54) (x := x2) hK hb hC (by omega) 12 0 (fun _ => 0) (u2 i2 35 13 0) (by omega) (by omega) (fun _ => by omega) (by omega) hA3 hP3 (by rw [u2n _ _ _ _ _ (by omega)]; exact r3)
      rw [t0, Nat.sub_zero] at d1
      have d1' : fX0_chooseDigits 12 0 (nI (σ 54)) 0 (u2 i2 35 13 0) = some (r, i4) := d1
      rw [if_pos (nI_le (by omega) (by omega)), mz_lt, s_coffees (q := 19) hs2, mz_b1, r1', mz_b1, mz_lt, s_coffees (q := 19) hs3, mz_b1, d1', mz_b2]
      have hex : ∃ w', ExW (nl K (K 0 3)) (σ 54) (fun _ => 0) 0 w' ∧ bW K σ w' (nl K (K 0 3)) (nl K (K 0 3)) ≤ x2 := by
        rcases r6 with r6 | ⟨w', r7, r8⟩
        · refine ⟨fun _ => 0, ⟨fun _ _ => rfl, fun _ => Nat.zero_le _, ?_⟩, ?_⟩
          · have : tw (fun _ => 0) (nl K (K 0 3)) = 0 := sumTo_zero (fun z _ => if_neg (show ¬ (0 : Nat) = 2 by omega))
            omega
          · have := bW_hi (w := fun _ => 0) (k := nl K (K 0 3)) hK hb (Nat.le_refl _)
            omega
        · exact ⟨w', r7, by omega⟩
      rcases d3 with ⟨t1, t2⟩ | ⟨t1, w', t2, t3, t4, t5⟩
      · obtain ⟨w', e1, e2⟩ := hex
        have := t2 w' e1
        omega
      · rw [t1, if_pos n1]
        refine ⟨i4, rfl, Fr_t (Fr_w (by decide) g1) (Fr_t (Fr_w (by decide) Fr_u) (Fr_t (Fr_w (by decide) r2.1) (Fr_t (Fr_w (by decide) f3.1) (Fr_w (by decide) d2.1)))), x2, w', fun _ => 0, ?_, t4, r5, t2, t3, t5⟩
        rw [d2.2.2 14 (by omega), u2n _ _ _ _ _ (by omega)]
        exact r3
    · have ho : o < K 0 4 := by omega
      obtain ⟨i2, s1, s2, s3⟩ := C_layW (o := o) hK hb hc1 hs1 h12' (fun k hk => by rw [g1 41 (by decide)]; exact h41 k hk) ho
      rw [if_neg (nI_ge (by omega) (by omega)), s1, mz_b1, nI_1]
      refine ih (o + 1) i2 (by omega) (by omega) (Fr_t g1 s2.1) ?_
      intro a ha
      by_cases e : a = o
      · rw [e]; exact s3
      · exact ColW_f (g2 a (by omega)) hK (by omega) e s2
theorem c_fw7 (hK : OkK K) (hb : OkS K b σ) (hc : CarC 15 K i) (hs : ScC σ (i 20)) : ∀ n p i1, p ≤ K 0 3 → K 0 3 - p < n → Fr [35, 41] i i1 → i1 35 12 = nI (nl K p) → (∀ k, k < nl K p → i1 41 k = nI (lk K k)) →
    ∃ r i2, fX0_findWords_7 n (nI p) i1 = some (r, i2) ∧ Fr [35, 41, 42, 43, 44] i i2 ∧ ((r = 0 ∧ nl K (K 0 3) = 0) ∨ (r = 1 ∧ nl K (K 0 3) ≠ 0 ∧ FwR K σ i2)) := by
  have hm := hK.1
  have hm4 := hK.2.1
  have hN := nl_le (K := K) (p := K 0 3)
  intro n
  induction n with
  | zero => intro p i1 h1 h2; omega
  | succ n ih =>
    intro p i1 h1 h2 g1 g2 g3
    have hc1 : CarC 15 K i1 := CarC_f hc (fun q a b => g1 q (by simp; omega))
    have hs1 : ScC σ (i1 20) := by rw [g1 20 (by decide)]; exact hs
    rw [fX0_findWords_7]
    unfold fX1_sleepers fX0_findWords_49
    rw [hc1.1, mz_b1, g2]
    by_cases h3 : p = K 0 3
    · rw [h3] at g2 g3
      rw [if_pos (nI_le (by omega) (by omega)), h3]
      by_cases h4 : nl K (K 0 3) = 0
      · rw [if_pos (show nI (nl K (K 0 3)) = 0 by rw [h4]; rfl)]
        exact ⟨0, i1, rfl, Fr_w (by decide) g1, Or.inl ⟨rfl, h4⟩⟩
      · obtain ⟨fu, hfu, hfu2⟩ := fuel_g
        obtain ⟨i2, s1, s2, s3⟩ := c_fw66 hK hb hc1 hs1 g2 g3 fu 0 i1 (by omega) (by omega) (Fr_r _ _) (fun a ha => by omega)
        rw [if_neg (show ¬ nI (nl K (K 0 3)) = 0 by rw [q0, nI_eq (by omega) (by omega)]; exact h4), hfu, show (0 : Int32) = nI 0 from rfl, s1]
        exact ⟨1, i2, rfl, Fr_t (Fr_w (by decide) g1) (Fr_w (by decide) s2), Or.inr ⟨rfl, h4, s3⟩⟩
    · have hpl : p < K 0 3 := by omega
      have hnp : nl K p ≤ p * 1 := nl_le
      have ih' := ih (p + 1)
      rw [nl_s] at ih'
      rw [if_neg (nI_ge (by omega) (by omega)), c_isLacking hc1 hK hpl, mz_b1, nI_1]
      by_cases h4 : sv K p 5 = 0 ∧ 0 < sv K p 1
      · have hL : isL K p = true := decide_eq_true h4
        rw [if_pos hL] at ih'
        rw [if_pos h4, if_neg (show ¬ (1 : Int32) = 0 by decide), if_pos (mz_in (by omega) (by omega)), nI_clamp (by omega), mz_lt, mz_lt, u2r _ _ _ _ _ (show (35 : Nat) ≠ 41 by omega), g2, q1, nI_add]
        refine ih' _ (by omega) (by omega) (Fr_t g1 (Fr_t (Fr_w (by decide) Fr_u) (Fr_w (by decide) Fr_u))) (u2e _ _ _ _) ?_
        intro k hk
        rw [u2r _ _ _ _ _ (by omega)]
        by_cases e : k = nl K p
        · rw [e, u2e, lk_nl (by omega) hL]
        · rw [u2n _ _ _ _ _ e]
          exact g3 k (by omega)
      · have hL : ¬ isL K p = true := fun e => h4 (of_decide_eq_true e)
        rw [if_neg hL] at ih'
        rw [if_neg h4, if_pos (show (0 : Int32) = 0 from rfl)]
        exact ih' i1 (by omega) (by omega) g1 g2 g3
theorem C_words (hK : OkK K) (hb : OkS K b σ) (hc : CarC 15 K i) (hs : ScC σ (i 20)) : ∃ r i2, fX0_findWords i = some (r, i2) ∧ Fr [35, 41, 42, 43, 44] i i2 ∧ ((r = 0 ∧ nl K (K 0 3) = 0) ∨ (r = 1 ∧ nl K (K 0 3) ≠ 0 ∧ FwR K σ i2)) := by
  have hm := hK.1
  obtain ⟨fu, hfu, hfu2⟩ := fuel_g
  unfold fX0_findWords
  rw [mz_lt, hfu]
  exact c_fw7 hK hb hc hs fu 0 _ (by omega) (by omega) (Fr_w (by decide) Fr_u) (u2e _ _ _ _) (fun k hk => absurd hk (by unfold nl sumTo; omega))
/-- words -/
theorem R_words (hK : OkK K) (hb : OkS K b σ) (h : WC K W σ i rv) (h' : WM K W σ j) (a1 : Int32) : ∃ v i' j', fX11_words a1 i = some (v, i') ∧ fX12_words a1 j = some (v, j') ∧ Fr [35, 41, 42, 43, 44] i i' ∧ Fr [50, 63, 64, 66] j j' ∧ F5 [0] j j' ∧ ScM K σ (j' 63) ∧ (∀ k, 54 ≤ k → j' 63 k = j 63 k) := by
  have hm := hK.1
  have fr0 : Fr [50, 63, 64, 66] j (u2 j 50 0 0) := Fr_w (by decide) Fr_u
  have f50 : F5 [0] j (u2 j 50 0 0) := F5_u
  have hw0 : WM K W σ (u2 j 50 0 0) := WM_0 h'
  have hi := mz_isIn a1 0 1
  have e63 : u2 j 50 0 0 63 = j 63 := u2r _ _ _ _ _ (by omega)
  have hM := M_words (x1 := a1) hw0.1 hK hb hw0.2.1 hw0.2.2.2
  obtain ⟨r, i2, c1, c2, c3⟩ := C_words hK hb h.1 h.2.1
  unfold fX11_words fX12_words fX11_noCar fX1_sleepers
  generalize hY : fX12_words_31 fuel a1 0 1 0 (u2 j 50 0 0) = Y at hM
  rw [mz_lt, show fX12_isIn a1.toInt64 0 1 = some (if 0 ≤ a1 ∧ a1 ≤ 1 then 1 else 0) from hi, h.1.1, mz_b1, hw0.1.1, hY]
  by_cases h0 : K 0 3 = 0
  · rw [if_pos (show nI (K 0 3) = 0 by rw [h0]; rfl), if_pos (show nI (K 0 3) = 0 by rw [h0]; rfl), mz_b1, if_neg (show ¬ (1 : Int32) = 0 by decide)]
    exact ⟨_, _, _, rfl, rfl, Fr_r _ _, fr0, f50, by rw [e63]; exact h'.2.1, fun k _ => by rw [e63]⟩
  · have hne : ¬ nI (K 0 3) = 0 := by rw [q0, nI_eq (by omega) (by omega)]; exact h0
    rw [if_neg hne, if_neg hne, mz_b1, mz_b1, if_pos rfl]
    by_cases h1 : a1 < 0
    · rw [if_pos h1, if_neg (show ¬ (0 ≤ a1 ∧ a1 ≤ 1) from fun e => absurd h1 (Int32.not_lt.mpr e.1)), if_pos rfl]
      exact ⟨_, _, _, rfl, rfl, Fr_r _ _, fr0, f50, by rw [e63]; exact h'.2.1, fun k _ => by rw [e63]⟩
    · rw [if_neg h1]
      by_cases h2 : 1 < a1
      · rw [if_pos h2, if_neg (show ¬ (0 ≤ a1 ∧ a1 ≤ 1) from fun e => absurd h2 (Int32.not_lt.mpr e.2)), if_pos rfl]
        exact ⟨_, _, _, rfl, rfl, Fr_r _ _, fr0, f50, by rw [e63]; exact h'.2.1, fun k _ => by rw [e63]⟩
      · unfold fX0_answer fX0_worth
        rw [if_neg h2, if_pos (show 0 ≤ a1 ∧ a1 ≤ 1 from ⟨Int32.not_lt.mp h1, Int32.not_lt.mp h2⟩), if_neg (show ¬ (1 : Int32) = 0 by decide), c1, mz_b2]
        rcases c3 with ⟨t1, t2⟩ | ⟨t1, t2, x, w, w0, t3, t4, t5, t6, t7, t8⟩
        · rcases hM with ⟨u1, u2⟩ | ⟨u1, _⟩
          · rw [if_pos t1, u2]
            exact ⟨_, _, _, rfl, rfl, c2, fr0, f50, by rw [e63]; exact h'.2.1, fun k _ => by rw [e63]⟩
          · exact absurd t2 u1
        · rcases hM with ⟨u1, u2⟩ | ⟨u1, s, j2, u2, u3, u4, u5, u6, u7, u8⟩
          · exact absurd u1 t2
          · obtain ⟨v1, v2⟩ := W_same hK hb u6 u7 u8 w0 t5 t6 t7 t8
            rw [if_neg (show ¬ r = 0 by rw [t1]; decide), mz_b1, mz_b1, u2, t3, t4, v1, v2]
            have fj : Fr [50, 63, 64, 66] j j2 := Fr_t fr0 (Fr_w (by decide) u3)
            have f5j : F5 [0] j j2 := F5_t f50 (fun k _ => by rw [u3 50 (by decide)])
            by_cases h3 : a1 = 0
            · rw [if_pos h3, if_pos h3]
              exact ⟨_, _, _, rfl, rfl, c2, fj, f5j, u4, fun k hk => by rw [u5 k hk, e63]⟩
            · rw [if_neg h3, if_neg h3]
              exact ⟨_, _, _, rfl, rfl, c2, fj, f5j, u4, fun k hk => by rw [u5 k hk, e63]⟩
end WT
