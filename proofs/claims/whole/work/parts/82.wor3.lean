/-! words: the model's value of a code, and the first least code -/
def vW (K : Nat → Nat → Nat) (σ w : Nat → Nat) : Nat := sumTo (fun o => ov K o 0 * oB K o (saQ K σ w (K 0 3)) (K 0 5)) (K 0 4)
section WQ
variable {i i' i1 i2 i3 j j' j1 j2 : Tb} {rv rv' rv1 rv2 : Nat → Nat → Option Nat} {W : Option ((Nat → Nat) → Int)} {K g : Nat → Nat → Nat} {σ τ σ' ρ T w : Nat → Nat} {q p o k b b' t v n r z c s x a m y l d u : Nat} {a1 a2 x1 x2 x3 x4 x5 x6 x7 x9 : Int32}
theorem m_w214 {kh : Int32 → Int32 → Int32 → Int32 → Int32 → (Nat → Nat → Int32) → Option ((Int32) × (Nat → Nat → Int32))} (h' : CarM K j) (hK : OkK K) (hb : OkS K b τ) (hw : ScM K τ (j 63)) : ∀ n z j1, z ≤ K 0 5 → K 0 5 - z < n → Fr [66] j j1 → (∀ y, y < z → j1 66 y = nI (τ (9 + y))) →
    ∃ j2, fX12_words_214 kh n x1 x3 x4 x5 x6 x7 x9 (nI z) j1 = fX12_words_249 kh fuel x1 x3 x4 x5 x6 x7 x9 0 j2 ∧ Fr [66] j j2 ∧ (∀ y, y < K 0 5 → j2 66 y = nI (τ (9 + y))) := by
  have hm := hK.1
  have hp := hK.2.2.1
  intro n
  induction n with
  | zero => intro z j1 h1 h2; omega
  | succ n ih =>
    intro z j1 h1 h2 g1 g2
    have hc1 : CarM K j1 := CarM_f (l5 := []) h' g1 (fun k _ => by rw [g1 50 (by decide)]) (by decide) (by decide) (by decide) (by decide) (by decide) (by decide)
    have hw1 : ScM K τ (j1 63) := by rw [g1 63 (by decide)]; exact hw
    rw [fX12_words_214, hc1.2.2.1]
    by_cases h3 : z = K 0 5
    · rw [h3] at g2
      rw [if_pos (nI_le (by omega) (by omega))]
      exact ⟨j1, rfl, g1, g2⟩
    · rw [if_neg (nI_ge (by omega) (by omega)), m_paperAt hc1 hK hb hw1 (by omega), mz_b1, if_pos (mz_in (by omega) (by omega)), mz_lt, nI_clamp (by omega), nI_1]
      refine ih (z + 1) _ (by omega) (by omega) (Fr_t g1 Fr_u) ?_
      intro y hy
      by_cases e : y = z
      · rw [e, u2e]
      · rw [u2n _ _ _ _ _ e]
        exact g2 y (by omega)
theorem m_w249 {kh : Int32 → Int32 → Int32 → Int32 → Int32 → (Nat → Nat → Int32) → Option ((Int32) × (Nat → Nat → Int32))} (h' : CarM K j) (hK : OkK K) (hb : OkS K b τ) (hw : ScM K τ (j 63)) (hq : ∀ z, z < K 0 5 → j 66 z = nI (τ (9 + z))) : ∀ n o, o ≤ K 0 4 → K 0 4 - o < n →
    fX12_words_249 kh n x1 x3 x4 x5 x6 x7 (nI (sumTo (fun o => ov K o 0 * oB K o τ (K 0 5)) o)) (nI o) j = fX12_words_308 kh fuel x1 x3 x4 x5 x6 x7 (nI (sumTo (fun o => ov K o 0 * oB K o τ (K 0 5)) (K 0 4))) 0 j := by
  have hm4 := hK.2.1
  intro n
  induction n with
  | zero => intro o h1 h2; omega
  | succ n ih =>
    intro o h1 h2
    rw [fX12_words_249, h'.2.1]
    unfold fX12_words_296
    by_cases h3 : o = K 0 4
    · rw [if_pos (nI_le (by omega) (by omega)), h3]
    · have e59 : j 59 (4 * o) = nI (ov K o 0) := h'.2.2.2.2.2 _ (by omega)
      have h9 := hK.2.2.2.2.2.2.2.2.2.2.2.1 o 0 (by omega) (by omega)
      have ih' := ih (o + 1) (by omega) (by omega)
      rw [sumTo] at ih'
      rw [if_neg (nI_ge (by omega) (by omega)), q4, mz_mul, if_pos (mz_in (by omega) (by omega)), if_pos (mz_in (by omega) (by omega)), nI_clamp (by omega), e59, nI_1]
      by_cases h4 : ov K o 0 = 0
      · rw [h4, Nat.zero_mul] at ih'
        rw [if_pos (show nI (ov K o 0) = 0 by rw [h4]; rfl), q0, nI_add]
        exact ih'
      · rw [if_neg (show ¬ nI (ov K o 0) = 0 by rw [q0, nI_eq (by omega) (by omega)]; exact h4), h'.2.2.1, m_tensD h' hK hb hw (by omega) hq, mz_b1, mz_mul, nI_add]
        exact ih'
theorem m_w308 {kh : Int32 → Int32 → Int32 → Int32 → Int32 → (Nat → Nat → Int32) → Option ((Int32) × (Nat → Nat → Int32))} (h' : CarM K j) (hK : OkK K) : ∀ n p j1, p ≤ K 0 3 → K 0 3 - p < n → Fr [63] j j1 → (∀ k, (k % 6 ≠ 2 ∨ 54 ≤ k) → j1 63 k = j 63 k) → (∀ y, y < p → j1 63 (6 * y + 2) = j 64 (6 * y + 2)) →
    ∃ j2, fX12_words_308 kh n x1 x3 x4 x5 x6 x7 x9 (nI p) j1 = (if x4 = NN ∨ x9 < x5 then kh x1 x3 x7 x9 (x6 + 1) j2 else kh x1 x3 x4 x5 (x6 + 1) j2) ∧ Fr [63] j j2 ∧ (∀ k, (k % 6 ≠ 2 ∨ 54 ≤ k) → j2 63 k = j 63 k) ∧ (∀ y, y < K 0 3 → j2 63 (6 * y + 2) = j 64 (6 * y + 2)) := by
  have hm := hK.1
  intro n
  induction n with
  | zero => intro p j1 h1 h2; omega
  | succ n ih =>
    intro p j1 h1 h2 g1 g2 g3
    have hc1 : CarM K j1 := CarM_f (l5 := []) h' g1 (fun k _ => by rw [g1 50 (by decide)]) (by decide) (by decide) (by decide) (by decide) (by decide) (by decide)
    rw [fX12_words_308, hc1.1]
    unfold fX12_words_363
    unfold fX12_words_371
    rw [qN1]
    by_cases h3 : p = K 0 3
    · rw [h3] at g3
      rw [if_pos (nI_le (by omega) (by omega))]
      refine ⟨j1, ?_, g1, g2, g3⟩
      by_cases h4 : x4 = NN
      · rw [if_pos h4, if_pos (Or.inl h4)]
      · rw [if_neg h4]
        by_cases h5 : x9 < x5
        · rw [if_pos h5, if_pos (Or.inr h5)]
        · rw [if_neg h5, if_neg (fun e => e.elim h4 h5)]
    · rw [if_neg (nI_ge (by omega) (by omega)), show 6 * nI p + 2 = nI (6 * p + 2) from by rw [q6, mz_mul, q2, nI_add], if_pos (mz_in (by omega) (by omega)), if_pos (mz_in (by omega) (by omega)), mz_lt, nI_clamp (by omega), nI_1, g1 64 (by decide)]
      refine ih (p + 1) _ (by omega) (by omega) (Fr_t g1 Fr_u) ?_ ?_
      · intro k hk
        rw [u2n _ _ _ _ _ (by omega)]
        exact g2 k hk
      · intro y hy
        by_cases e : y = p
        · rw [e, u2e]
        · rw [u2n _ _ _ _ _ (by omega)]
          exact g3 y (by omega)
/-- what a word's turn leaves -/
theorem ScM_63 (hK : OkK K) (hb : OkS K b σ) (h : ScM K σ (j 63)) (e1 : ∀ k, (k % 6 ≠ 2 ∨ 54 ≤ k) → j' 63 k = j 63 k) (e2 : ∀ y, y < K 0 3 → j' 63 (6 * y + 2) = j 63 (6 * y + 2)) : ScM K σ (j' 63) := by
  obtain ⟨s1, s2, s3, s4⟩ := h
  refine ⟨fun p hp => ?_, fun p hp h5 => ?_, fun q hq => ?_, ?_⟩
  · obtain ⟨t1, t2, t3, t4, t5⟩ := s1 p hp
    rw [e1 (6 * p) (by omega), e2 p hp, e1 (6 * p + 3) (by omega), e1 (6 * p + 4) (by omega), e1 (6 * p + 5) (by omega)]
    exact ⟨t1, t2, t3, t4, t5⟩
  · rw [e1 _ (by omega)]
    exact s2 p hp h5
  · rw [e1 _ (by omega)]
    exact s3 q hq
  · rw [e1 _ (by omega)]
    exact s4
/-- the model tries one code -/
theorem m_one (h' : CarM K j) (hK : OkK K) (hb : OkS K b σ) (hw : ScM K σ (j 63)) (h55 : ∃ x, x ≤ 60 ∧ j 63 55 = nI x) (hu : u < 3 ^ nl K (K 0 3)) (n : Nat) (h1 : Fr [63, 64, 66] j j1) (h2 : ScM K σ (j1 63)) (h3 : ∀ k, 54 ≤ k → j1 63 k = j 63 k) :
    ∃ j2, fX12_words_95 (n + 1) x1 (nI (3 ^ nl K (K 0 3))) x4 x5 (nI u) j1 = (if x4 = NN ∨ nI (vW K σ (wdU (nl K (K 0 3)) u)) < x5 then fX12_words_95 n x1 (nI (3 ^ nl K (K 0 3))) (nI (dgW (wdU (nl K (K 0 3)) u) (nl K (K 0 3)))) (nI (vW K σ (wdU (nl K (K 0 3)) u))) (nI (u + 1)) j2 else fX12_words_95 n x1 (nI (3 ^ nl K (K 0 3))) x4 x5 (nI (u + 1)) j2) ∧ Fr [63, 64, 66] j j2 ∧ ScM K σ (j2 63) ∧ (∀ k, 54 ≤ k → j2 63 k = j 63 k) := by
  have hm := hK.1
  have hm4 := hK.2.1
  have hp := hK.2.2.1
  have hN := nl_le (K := K) (p := K 0 3)
  have hp9 : 3 ^ nl K (K 0 3) ≤ 3 ^ 9 := Nat.pow_le_pow_right (by omega) (by omega)
  have hc1 : CarM K j1 := CarM_f (l5 := []) h' h1 (fun k _ => by rw [h1 50 (by decide)]) (by decide) (by decide) (by decide) (by decide) (by decide) (by decide)
  obtain ⟨x, hx, hx2⟩ := h55
  obtain ⟨j2, c1, c2, c3⟩ := m_copy (j := j1) (w0 := 63) (w := 64) (by omega) hx (by rw [h3 55 (by omega)]; exact hx2)
  have hc2 : CarM K j2 := CarM_f (l5 := []) hc1 c2 (fun k _ => by rw [c2 50 (by decide)]) (by decide) (by decide) (by decide) (by decide) (by decide) (by decide)
  have hw2 : ScM K σ (j2 63) := by rw [c2 63 (by decide)]; exact h2
  obtain ⟨fu, hfu, hfu2⟩ := fuel_g
  obtain ⟨j3, d1, d2, d3, d4⟩ := m_dec (kh := fX12_words_95 n) (x1 := x1) (x3 := nI (3 ^ nl K (K 0 3))) (x4 := x4) (x5 := x5) hc2 hK hb (show u < 3 ^ 9 by omega) fu 0 j2 (by omega) (by omega) (Fr_r _ _) (by rw [saQ_0]; exact hw2) (fun _ _ => rfl)
  have hw0 : ∀ k, wdU (nl K (K 0 3)) u k ≤ 2 := fun _ => wdU_le
  have hb3 : OkS K b (saQ K σ (wdU (nl K (K 0 3)) u) (K 0 3)) := OkS_sa hK hb hw0 _ (Nat.le_refl _)
  have hc3 : CarM K j3 := CarM_f (l5 := []) hc2 d2 (fun k _ => by rw [d2 50 (by decide)]) (by decide) (by decide) (by decide) (by decide) (by decide) (by decide)
  obtain ⟨j4, f1, f2, f3⟩ := m_w214 (kh := fX12_words_95 n) (x1 := x1) (x3 := nI (3 ^ nl K (K 0 3))) (x4 := x4) (x5 := x5) (x6 := nI u) (x7 := nI (dgW (wdU (nl K (K 0 3)) u) (nl K (K 0 3)))) (x9 := 0) hc3 hK hb3 d3 fu 0 j3 (by omega) (by omega) (Fr_r _ _) (fun y hy => by omega)
  have hc4 : CarM K j4 := CarM_f (l5 := []) hc3 f2 (fun k _ => by rw [f2 50 (by decide)]) (by decide) (by decide) (by decide) (by decide) (by decide) (by decide)
  have k1 := m_w249 (kh := fX12_words_95 n) (x1 := x1) (x3 := nI (3 ^ nl K (K 0 3))) (x4 := x4) (x5 := x5) (x6 := nI u) (x7 := nI (dgW (wdU (nl K (K 0 3)) u) (nl K (K 0 3)))) hc4 hK hb3 (by rw [f2 63 (by decide)]; exact d3) f3 fu 0 (by omega) (by omega)
  obtain ⟨j5, l1, l2, l3, l4⟩ := m_w308 (kh := fX12_words_95 n) (x1 := x1) (x3 := nI (3 ^ nl K (K 0 3))) (x4 := x4) (x5 := x5) (x6 := nI u) (x7 := nI (dgW (wdU (nl K (K 0 3)) u) (nl K (K 0 3)))) (x9 := nI (vW K σ (wdU (nl K (K 0 3)) u))) hc4 hK fu 0 j4 (by omega) (by omega) (Fr_r _ _) (fun _ _ => rfl) (fun y hy => by omega)
  rw [hfu] at d1 f1 k1
  have k1' : fX12_words_249 (fX12_words_95 n) fu x1 (nI (3 ^ nl K (K 0 3))) x4 x5 (nI u) (nI (dgW (wdU (nl K (K 0 3)) u) (nl K (K 0 3)))) 0 0 j4 = fX12_words_308 (fX12_words_95 n) fu x1 (nI (3 ^ nl K (K 0 3))) x4 x5 (nI u) (nI (dgW (wdU (nl K (K 0 3)) u) (nl K (K 0 3)))) (nI (vW K σ (wdU (nl K (K 0 3)) u))) 0 j4 := k1
  have f1' : fX12_words_214 (fX12_words_95 n) fu x1 (nI (3 ^ nl K (K 0 3))) x4 x5 (nI u) (nI (dgW (wdU (nl K (K 0 3)) u) (nl K (K 0 3)))) 0 0 j3 = _ := f1
  have d1' : fX12_words_121 (fX12_words_95 n) fu x1 (nI (3 ^ nl K (K 0 3))) x4 x5 (nI u) 0 (nI (3 ^ nl K (K 0 3))) 0 j2 = _ := d1
  have e64 : ∀ y, y < 54 → j4 64 y = j1 63 y := fun y hy => by rw [f2 64 (by decide), d2 64 (by decide)]; exact c3 y (by omega)
  have e63 : ∀ k, (k % 6 ≠ 2 ∨ 54 ≤ k) → j5 63 k = j1 63 k := fun k hk => by rw [l3 k hk, f2 63 (by decide), d4 k hk, c2 63 (by decide)]
  have frr : Fr [63, 64, 66] j j5 := Fr_t h1 (Fr_t (Fr_w (by decide) c2) (Fr_t (Fr_w (by decide) d2) (Fr_t (Fr_w (by decide) f2) (Fr_w (by decide) l2))))
  refine ⟨j5, ?_, frr, ScM_63 hK hb h2 e63 (fun y hy => by rw [l4 y hy]; exact e64 _ (by omega)), fun k hk => by rw [e63 k (by omega)]; exact h3 k hk⟩
  rw [fX12_words_95, if_neg (nI_ge (by omega) (by omega)), c1, mz_b1, hfu, d1', f1', k1', show (0 : Int32) = nI 0 from rfl, l1, nI_1]
theorem vW_le (hK : OkK K) (hb : OkS K b σ) (hw : ∀ k, w k ≤ 2) : vW K σ w ≤ 14400 := by
  have hm4 := hK.2.1
  have hb3 := OkS_sa (w := w) hK hb hw _ (Nat.le_refl _)
  have h := sumTo_le (f := fun o => ov K o 0 * oB K o (saQ K σ w (K 0 3)) (K 0 5)) (m := 9 * 400) (n := K 0 4) (fun o ho => Nat.mul_le_mul (hK.2.2.2.2.2.2.2.2.2.2.2.1 o 0 ho (by omega)) (oB_le hK hb3 ho _ (Nat.le_refl _)))
  have h2 : vW K σ w ≤ K 0 4 * (9 * 400) := h
  omega
/-- the first least code of the model -/
theorem m_codes (h' : CarM K j) (hK : OkK K) (hb : OkS K b σ) (hw : ScM K σ (j 63)) (h55 : ∃ x, x ≤ 60 ∧ j 63 55 = nI x) : ∀ n u s j1, u ≤ 3 ^ nl K (K 0 3) → 3 ^ nl K (K 0 3) - u < n → s < u → Fr [63, 64, 66] j j1 → ScM K σ (j1 63) → (∀ k, 54 ≤ k → j1 63 k = j 63 k) → (∀ z, z < u → vW K σ (wdU (nl K (K 0 3)) s) ≤ vW K σ (wdU (nl K (K 0 3)) z)) → (∀ z, z < s → vW K σ (wdU (nl K (K 0 3)) s) < vW K σ (wdU (nl K (K 0 3)) z)) →
    ∃ s' j2, fX12_words_95 n x1 (nI (3 ^ nl K (K 0 3))) (nI (dgW (wdU (nl K (K 0 3)) s) (nl K (K 0 3)))) (nI (vW K σ (wdU (nl K (K 0 3)) s))) (nI u) j1 = some (if x1 = 0 then nI (dgW (wdU (nl K (K 0 3)) s') (nl K (K 0 3))) else nI (vW K σ (wdU (nl K (K 0 3)) s')), j2) ∧ Fr [63, 64, 66] j j2 ∧ ScM K σ (j2 63) ∧ (∀ k, 54 ≤ k → j2 63 k = j 63 k) ∧ s' < 3 ^ nl K (K 0 3) ∧ (∀ z, z < 3 ^ nl K (K 0 3) → vW K σ (wdU (nl K (K 0 3)) s') ≤ vW K σ (wdU (nl K (K 0 3)) z)) ∧ (∀ z, z < s' → vW K σ (wdU (nl K (K 0 3)) s') < vW K σ (wdU (nl K (K 0 3)) z)) := by
  have hm := hK.1
  have hN := nl_le (K := K) (p := K 0 3)
  have hp9 : 3 ^ nl K (K 0 3) ≤ 3 ^ 9 := Nat.pow_le_pow_right (by omega) (by omega)
  have hdg : ∀ w : Nat → Nat, (∀ k, w k ≤ 2) → ∀ k, dgW w k < 10 ^ k := by
    intro w hw k
    induction k with
    | zero => exact Nat.one_pos
    | succ k ih =>
      show 10 * dgW w k + w k < 10 ^ (k + 1)
      have := hw k
      rw [Nat.pow_succ]
      omega
  intro n
  induction n with
  | zero => intro u s j1 h1 h2; omega
  | succ n ih =>
    intro u s j1 h1 h2 h0 g1 g2 g3 g4 g5
    by_cases h3 : u = 3 ^ nl K (K 0 3)
    · rw [h3] at h0 g4
      refine ⟨s, j1, ?_, g1, g2, g3, h0, g4, g5⟩
      rw [fX12_words_95, if_pos (nI_le (by omega) (by omega))]
      split <;> rfl
    · obtain ⟨j2, e1, e2, e3, e4⟩ := m_one (x1 := x1) (x4 := nI (dgW (wdU (nl K (K 0 3)) s) (nl K (K 0 3)))) (x5 := nI (vW K σ (wdU (nl K (K 0 3)) s))) h' hK hb hw h55 (show u < 3 ^ nl K (K 0 3) by omega) n g1 g2 g3
      have hv1 := vW_le (w := wdU (nl K (K 0 3)) u) hK hb (fun _ => wdU_le)
      have hv2 := vW_le (w := wdU (nl K (K 0 3)) s) hK hb (fun _ => wdU_le)
      have hd := hdg (wdU (nl K (K 0 3)) s) (fun _ => wdU_le) (nl K (K 0 3))
      have h10 : 10 ^ nl K (K 0 3) ≤ 10 ^ 9 := Nat.pow_le_pow_right (by omega) (by omega)
      have hnm : ¬ nI (dgW (wdU (nl K (K 0 3)) s) (nl K (K 0 3))) = NN := by rw [mz_nm (by omega)]; exact fun e => e
      have hlt : (nI (vW K σ (wdU (nl K (K 0 3)) u)) < nI (vW K σ (wdU (nl K (K 0 3)) s))) = (vW K σ (wdU (nl K (K 0 3)) u) < vW K σ (wdU (nl K (K 0 3)) s)) := mz_ltp (by omega) (by omega)
      rw [e1]
      by_cases h4 : vW K σ (wdU (nl K (K 0 3)) u) < vW K σ (wdU (nl K (K 0 3)) s)
      · rw [if_pos (Or.inr (hlt.mpr h4))]
        refine ih (u + 1) u j2 (by omega) (by omega) (by omega) e2 e3 e4 ?_ ?_
        · intro z hz
          by_cases e : z = u
          · rw [e]; exact Nat.le_refl _
          · have := g4 z (by omega)
            omega
        · intro z hz
          have := g4 z hz
          omega
      · rw [if_neg (fun e => e.elim hnm (fun f => h4 (hlt.mp f)))]
        refine ih (u + 1) s j2 (by omega) (by omega) (by omega) e2 e3 e4 ?_ g5
        intro z hz
        by_cases e : z = u
        · rw [e]; omega
        · exact g4 z (by omega)
theorem m_w31 (h' : CarM K j) (hK : OkK K) : ∀ n p, p ≤ K 0 3 → K 0 3 - p < n → fX12_words_31 n x1 (nI (nl K p)) (nI (3 ^ nl K p)) (nI p) j = (if nl K (K 0 3) = 0 then some (NN, j) else fX12_words_95 fuel x1 (nI (3 ^ nl K (K 0 3))) NN 0 0 j) := by
  have hm := hK.1
  have hN := nl_le (K := K) (p := K 0 3)
  intro n
  induction n with
  | zero => intro p h1 h2; omega
  | succ n ih =>
    intro p h1 h2
    rw [fX12_words_31, h'.1]
    unfold fX12_words_74
    rw [nI_1, qN1]
    by_cases h3 : p = K 0 3
    · rw [if_pos (nI_le (by omega) (by omega)), h3]
      by_cases h4 : nl K (K 0 3) = 0
      · rw [if_pos h4, if_pos (show nI (nl K (K 0 3)) = 0 by rw [h4]; rfl)]
      · rw [if_neg h4, if_neg (show ¬ nI (nl K (K 0 3)) = 0 by rw [q0, nI_eq (by omega) (by omega)]; exact h4)]
    · have hpl : p < K 0 3 := by omega
      have hch := hK.2.2.2.2.2.2.2.2.2.2.1 p hpl
      have h9 := hK.2.2.2.2.2.2.2.2.2.1 p 1 hpl (by omega)
      have e57 : j 57 (6 * p + 1) = nI (sv K p 1) := h'.2.2.2.2.1 _ (by omega)
      have ih' := ih (p + 1) (by omega) (by omega)
      rw [nl_s] at ih'
      rw [if_neg (nI_ge (by omega) (by omega)), m_isChild h' hK hpl, mz_b1, show 6 * nI p + 1 = nI (6 * p + 1) from by rw [q6, mz_mul, q1, nI_add], if_pos (mz_in (by omega) (by omega)), nI_clamp (by omega), e57]
      by_cases h4 : sv K p 5 = 0
      · rw [if_pos (show nI (sv K p 5) = 0 by rw [h4]; rfl)]
        by_cases h5 : sv K p 1 = 0
        · have hL : isL K p = false := decide_eq_false (fun e => by omega)
          rw [hL] at ih'
          rw [if_pos (show nI (sv K p 1) = 0 by rw [h5]; rfl)]
          exact ih'
        · have hL : isL K p = true := decide_eq_true ⟨h4, by omega⟩
          rw [hL, if_pos rfl, Nat.pow_succ] at ih'
          rw [if_neg (show ¬ nI (sv K p 1) = 0 by rw [q0, nI_eq (by omega) (by omega)]; exact h5), nI_1, q3, mz_mul]
          exact ih'
      · have hL : isL K p = false := decide_eq_false (fun e => h4 e.1)
        rw [hL] at ih'
        rw [if_neg (show ¬ nI (sv K p 5) = 0 by rw [q0, nI_eq (by omega) (by omega)]; exact h4)]
        exact ih'
/-- the model's words -/
theorem M_words (h' : CarM K j) (hK : OkK K) (hb : OkS K b σ) (hw : ScM K σ (j 63)) (h55 : ∃ x, x ≤ 60 ∧ j 63 55 = nI x) : (nl K (K 0 3) = 0 ∧ fX12_words_31 fuel x1 0 1 0 j = some (NN, j)) ∨ (nl K (K 0 3) ≠ 0 ∧ ∃ s' j2, fX12_words_31 fuel x1 0 1 0 j = some (if x1 = 0 then nI (dgW (wdU (nl K (K 0 3)) s') (nl K (K 0 3))) else nI (vW K σ (wdU (nl K (K 0 3)) s')), j2) ∧ Fr [63, 64, 66] j j2 ∧ ScM K σ (j2 63) ∧ (∀ k, 54 ≤ k → j2 63 k = j 63 k) ∧ s' < 3 ^ nl K (K 0 3) ∧ (∀ z, z < 3 ^ nl K (K 0 3) → vW K σ (wdU (nl K (K 0 3)) s') ≤ vW K σ (wdU (nl K (K 0 3)) z)) ∧ (∀ z, z < s' → vW K σ (wdU (nl K (K 0 3)) s') < vW K σ (wdU (nl K (K 0 3)) z))) := by
  have hm := hK.1
  have hN := nl_le (K := K) (p := K 0 3)
  have hp9 : 3 ^ nl K (K 0 3) ≤ 3 ^ 9 := Nat.pow_le_pow_right (by omega) (by omega)
  have hp0 : 0 < 3 ^ nl K (K 0 3) := Nat.pow_pos (by omega)
  obtain ⟨fu, hfu, hfu2⟩ := fuel_g
  obtain ⟨f', hf'⟩ : ∃ f', fu = f' + 1 := ⟨fu - 1, by omega⟩
  have k := m_w31 (x1 := x1) h' hK fu 0 (by omega) (by omega)
  have k' : fX12_words_31 fu x1 0 1 0 j = (if nl K (K 0 3) = 0 then some (NN, j) else fX12_words_95 fuel x1 (nI (3 ^ nl K (K 0 3))) NN 0 0 j) := k
  rw [hfu] at k' ⊢
  rw [k']
  by_cases h4 : nl K (K 0 3) = 0
  · exact Or.inl ⟨h4, by rw [if_pos h4]⟩
  · refine Or.inr ⟨h4, ?_⟩
    obtain ⟨j2, e1, e2, e3, e4⟩ := m_one (u := 0) (x1 := x1) (x4 := NN) (x5 := 0) (j1 := j) h' hK hb hw h55 hp0 f' (Fr_r _ _) hw (fun _ _ => rfl)
    rw [if_pos (Or.inl rfl), show nI 0 = (0 : Int32) from rfl] at e1
    obtain ⟨s', j3, d1, d2⟩ := m_codes (x1 := x1) h' hK hb hw h55 f' 1 0 j2 (by omega) (by omega) (by omega) e2 e3 e4 (fun z hz => by rw [show z = 0 by omega]; exact Nat.le_refl _) (fun z hz => by omega)
    refine ⟨s', j3, ?_, d2⟩
    rw [if_neg h4, hf', e1]
    exact d1
end WQ
