/-! before: the class's cost of a set -/
section BH
variable {i i' i1 i2 i3 j j' j1 j2 : Tb} {rv rv' rv1 rv2 : Nat → Nat → Option Nat} {W : Option ((Nat → Nat) → Int)} {K g : Nat → Nat → Nat} {σ τ σ' ρ T : Nat → Nat} {q p o k b b' t w v n r z c s x a m y l d : Nat} {a1 a2 x1 x2 : Int32}
theorem snr_aw (hK : OkK K) (hp : p < K 0 3) : snr K (awQ σ s 9) p = snr K σ p := by
  have hm := hK.1
  unfold snr
  apply sumTo_congr
  intro z hz
  rw [awQ_o (k := z) (by omega) (by omega), awQ_o (k := p) (by omega) (by omega)]
theorem lossN_aw (hK : OkK K) (hp : p < K 0 3) : lossN K W (awQ σ s 9) p t o = lossN K W σ p t o := by
  have hm := hK.1
  have e : ltr K (awQ σ s 9) p t o = ltr K σ p t o := by
    funext z
    unfold ltr
    rw [snr_aw hK hp, awQ_o (k := 36 + p) (by omega) (by omega)]
  unfold lossN
  rw [e, awQ_o (k := 36 + p) (by omega) (by omega)]
theorem pw_sub : (2 ^ p &&& s = 2 ^ p) ↔ s.testBit p = true := by
  constructor
  · intro h
    have h1 : (2 ^ p &&& s).testBit p = (2 ^ p).testBit p := by rw [h]
    rw [Nat.testBit_and, Nat.testBit_two_pow_self, Bool.true_and] at h1
    exact h1
  · intro h
    apply Nat.eq_of_testBit_eq
    intro k
    rw [Nat.testBit_and, Nat.testBit_two_pow]
    by_cases e : p = k
    · subst e
      rw [h, Bool.and_true]
    · rw [decide_eq_false e, Bool.false_and]
theorem turnS_aw (hK : OkK K) (hp : p < K 0 3) : turnS K (awQ σ s 9) p o = taS K o p + (if ov K o 1 = 1 ∧ σ (27 + p) = 1 ∧ s.testBit p = false then K 1 3 else 0) := by
  have hm := hK.1
  unfold turnS taS
  rw [awQ_a (by omega)]
  by_cases h1 : ov K o 1 = 1
  · rw [if_pos h1, if_pos h1]
    by_cases h2 : s.testBit p = true
    · rw [if_pos h2, if_neg (by decide), if_neg (fun e => by rw [h2] at e; exact absurd e.2.2 (by decide))]
      omega
    · have h2' : s.testBit p = false := by simpa using h2
      rw [if_neg h2]
      by_cases h3 : σ (27 + p) = 1
      · rw [if_pos h3, if_pos ⟨h1, h3, h2'⟩]
        omega
      · rw [if_neg h3, if_neg (fun e => h3 e.2.1)]
        omega
  · rw [if_neg h1, if_neg h1, if_neg (fun e => h1 e.1)]
theorem tB_aw (hK : OkK K) (hb : OkS K b σ) : ∀ z, z ≤ K 0 5 → tB K o (awQ σ s 9) z = taB K o σ z + xB K o σ s z * K 1 3 := by
  have hm := hK.1
  have hp := hK.2.2.1
  intro z
  induction z with
  | zero => intro _; unfold tB taB xB sumTo; omega
  | succ z ih =>
    intro hz
    have e := ih (by omega)
    have hpl := OkS_dr hb z (by omega)
    have e1 : tB K o (awQ σ s 9) (z + 1) = tB K o (awQ σ s 9) z + turnS K (awQ σ s 9) (awQ σ s 9 (9 + z)) o := rfl
    have e2 : taB K o σ (z + 1) = taB K o σ z + taS K o (σ (9 + z)) := rfl
    have e3 : xB K o σ s (z + 1) = xB K o σ s z + (if wkP K o σ z = true ∧ s.testBit (σ (9 + z)) = false then 1 else 0) := rfl
    rw [e1, e2, e3, e, awQ_o (by omega) (by omega), turnS_aw hK hpl, Nat.add_mul]
    unfold wkP
    by_cases h1 : ov K o 1 = 1 ∧ σ (27 + σ (9 + z)) = 1
    · by_cases h2 : s.testBit (σ (9 + z)) = false
      · rw [if_pos ⟨h1.1, h1.2, h2⟩, if_pos ⟨decide_eq_true h1, h2⟩]
        omega
      · rw [if_neg (fun e => h2 e.2.2), if_neg (fun e => h2 e.2)]
        omega
    · rw [if_neg (fun e => h1 ⟨e.1, e.2.1⟩), if_neg (fun e => h1 (of_decide_eq_true e.1))]
      omega
theorem cB_aw (hK : OkK K) (hb : OkS K b σ) (hz : z ≤ K 0 5) : cB (awQ σ s 9) z = cB σ z := by
  have hm := hK.1
  have hp := hK.2.2.1
  unfold cB
  rw [awQ_o (k := 54) (by omega) (by omega)]
  congr 1
  apply sumTo_congr
  intro y hy
  have hpl := OkS_dr hb y (by omega)
  rw [awQ_o (k := 9 + y) (by omega) (by omega), awQ_o (k := 18 + σ (9 + y)) (by omega) (by omega)]
theorem c_without_l (hK : OkK K) (hb : OkS K b σ) (h : CarC 15 K i) (ho : o < K 0 4) (hL : LdB K W o σ (K 0 5) i) (hs : s < 2 ^ 9) : ∀ n z, z ≤ K 0 5 → K 0 5 - z < n →
    fX0_lossWithout_32 n (nI s) (nI (K 1 3)) (nI (K 0 5)) (nI (tB K o (awQ σ s 9) z)) (nI (oB K o (awQ σ s 9) z)) (nI (xB K o σ s z)) (nI (lB K W o (awQ σ s 9) z)) (nI z) i = some (if oB K o (awQ σ s 9) (K 0 5) ≤ 6 * K 1 0 then nI (lB K W o (awQ σ s 9) (K 0 5)) else NN) := by
  have hm := hK.1
  have hp := hK.2.2.1
  have hm4 := hK.2.1
  have hb9 := OkS_aw (s := s) (n := 9) hK hb (by omega)
  have hr60 := hK.2.2.2.2.2.1
  have hr9 := hK.2.2.2.2.2.2.2.2.1
  intro n
  induction n with
  | zero => intro z h1 h2; omega
  | succ n ih =>
    intro z h1 h2
    have hoB := oB_le (o := o) hK hb9 ho z h1
    rw [fX0_lossWithout_32]
    by_cases h3 : z = K 0 5
    · unfold fX1_allowedTens
      rw [if_pos (nI_le (by omega) (by omega)), h3, q0, if_pos (mz_in (by omega) (by omega)), nI_clamp (by omega), h.2.2.2.1 0 (by omega), q6, mz_mul, mz_b1]
      rw [h3] at hoB
      by_cases h4 : oB K o (awQ σ s 9) (K 0 5) ≤ 6 * K 1 0
      · rw [if_pos (nI_le h4 (by omega)), if_pos h4]
      · rw [if_neg (nI_ge (by omega) (by omega)), if_neg h4]
        rfl
    · have hz : z < K 0 5 := by omega
      have hpl := OkS_dr hb z hz
      obtain ⟨l1, l2, l3, l4⟩ := hL z hz
      have hpw : 2 ^ σ (9 + z) ≤ 2 ^ 8 := Nat.pow_le_pow_right (by omega) (by omega)
      have hx1 := xB_le (K := K) (o := o) (σ := σ) (s := s) (z := z)
      have hx2 := wkB_le (K := K) (o := o) (σ := σ) (z := z)
      have htl := tB_le (o := o) (z := z) hK hb9 ho (by omega)
      have htl1 := tB_le (o := o) (z := z + 1) hK hb9 ho (by omega)
      have hwl := waitS_le (o := o) (s := σ (18 + σ (9 + z))) (c := cB σ z) hK hpl
      have et1 : tB K o (awQ σ s 9) (z + 1) = tB K o (awQ σ s 9) z + turnS K (awQ σ s 9) (awQ σ s 9 (9 + z)) o := rfl
      rw [awQ_o (by omega) (by omega), turnS_aw hK hpl] at et1
      have ed : dB K o (awQ σ s 9) z = tB K o (awQ σ s 9) (z + 1) + waitS K (σ (9 + z)) o (σ (18 + σ (9 + z))) (cB σ z) := by
        unfold dB
        rw [awQ_o (k := 9 + z) (by omega) (by omega), awQ_o (k := 18 + σ (9 + z)) (by omega) (by omega), cB_aw hK hb (by omega)]
      have eo : oB K o (awQ σ s 9) (z + 1) = max (oB K o (awQ σ s 9) z) (dB K o (awQ σ s 9) z) := rfl
      have el : lB K W o (awQ σ s 9) (z + 1) = lB K W o (awQ σ s 9) z + lsB K W o (awQ σ s 9) z := rfl
      have els : lsB K W o (awQ σ s 9) z = if wkP K o σ z = true ∧ s.testBit (σ (9 + z)) = false then lossN K W σ (σ (9 + z)) (tB K o (awQ σ s 9) z) o else 0 := by
        unfold lsB wkP
        rw [awQ_o (k := 9 + z) (by omega) (by omega), awQ_a (by omega), lossN_aw hK hpl]
        by_cases h2 : s.testBit (σ (9 + z)) = true
        · rw [if_pos h2, if_neg (fun e => absurd e.2 (by decide)), if_neg (fun e => by rw [h2] at e; exact absurd e.2 (by decide))]
        · have h2' : s.testBit (σ (9 + z)) = false := by simpa using h2
          rw [if_neg h2]
          by_cases h3 : ov K o 1 = 1 ∧ σ (27 + σ (9 + z)) = 1
          · rw [if_pos h3, if_pos ⟨decide_eq_true h3, h2'⟩]
          · rw [if_neg h3, if_neg (fun e => h3 (of_decide_eq_true e.1))]
      have ex : xB K o σ s (z + 1) = xB K o σ s z + (if wkP K o σ z = true ∧ s.testBit (σ (9 + z)) = false then 1 else 0) := rfl
      have ih' := ih (z + 1) (by omega) (by omega)
      have k79 : ∀ t x6 x7 : Nat, t + taS K o (σ (9 + z)) = tB K o (awQ σ s 9) (z + 1) → x6 = xB K o σ s (z + 1) → x7 = lB K W o (awQ σ s 9) (z + 1) → fX0_lossWithout_79 (fX0_lossWithout_32 n) (nI s) (nI (K 1 3)) (nI (K 0 5)) (nI t) (nI (oB K o (awQ σ s 9) z)) (nI x6) (nI x7) (nI z) i = some (if oB K o (awQ σ s 9) (K 0 5) ≤ 6 * K 1 0 then nI (lB K W o (awQ σ s 9) (K 0 5)) else NN) := by
        intro t x6 x7 e1 e2 e3
        unfold fX0_lossWithout_79 fX0_lossWithout_118
        rw [if_pos (mz_in (by omega) (by omega)), mz_lt, if_pos (mz_in (by omega) (by omega)), nI_clamp (by omega), l1, l2, nI_add, e1, nI_add, nI_1, e2, e3]
        by_cases h4 : tB K o (awQ σ s 9) (z + 1) + waitS K (σ (9 + z)) o (σ (18 + σ (9 + z))) (cB σ z) ≤ oB K o (awQ σ s 9) z
        · rw [if_pos (nI_le h4 (by omega)), show nI (oB K o (awQ σ s 9) z) = nI (oB K o (awQ σ s 9) (z + 1)) from by rw [eo, ed, show max (oB K o (awQ σ s 9) z) (tB K o (awQ σ s 9) (z + 1) + waitS K (σ (9 + z)) o (σ (18 + σ (9 + z))) (cB σ z)) = oB K o (awQ σ s 9) z by omega]]
          exact ih'
        · rw [if_neg (nI_ge (by omega) (by omega)), if_pos (mz_in (by omega) (by omega)), mz_lt, show nI (tB K o (awQ σ s 9) (z + 1) + waitS K (σ (9 + z)) o (σ (18 + σ (9 + z))) (cB σ z)) = nI (oB K o (awQ σ s 9) (z + 1)) from by rw [eo, ed, show max (oB K o (awQ σ s 9) z) (tB K o (awQ σ s 9) (z + 1) + waitS K (σ (9 + z)) o (σ (18 + σ (9 + z))) (cB σ z)) = tB K o (awQ σ s 9) (z + 1) + waitS K (σ (9 + z)) o (σ (18 + σ (9 + z))) (cB σ z) by omega]]
          exact ih'
      rw [if_neg (nI_ge (by omega) (by omega)), if_pos (mz_in (by omega) (by omega)), nI_clamp (by omega), l3]
      by_cases hwk : wkP K o σ z = true
      · rw [if_pos hwk]
        have hwd : ov K o 1 = 1 ∧ σ (27 + σ (9 + z)) = 1 := of_decide_eq_true hwk
        by_cases h2 : s.testBit (σ (9 + z)) = true
        · rw [if_pos ((mz_sset (by omega) (by omega)).mpr (pw_sub.mpr h2))]
          refine k79 _ _ _ ?_ ?_ ?_
          · rw [et1, if_neg (fun e => by rw [h2] at e; exact absurd e.2.2 (by decide))]
            rfl
          · rw [ex, if_neg (fun e => by rw [h2] at e; exact absurd e.2 (by decide))]
            rfl
          · rw [el, els, if_neg (fun e => by rw [h2] at e; exact absurd e.2 (by decide))]
            rfl
        · have h2' : s.testBit (σ (9 + z)) = false := by simpa using h2
          have e37 := l4 hwk (xB K o σ s z) hx1
          rw [← tB_aw hK hb z (by omega)] at e37
          rw [if_neg (fun e => h2 (pw_sub.mp ((mz_sset (by omega) (by omega)).mp e))), q9, mz_mul, nI_add, if_pos (mz_in (by omega) (by omega)), mz_lt, nI_clamp (by omega), e37, nI_add, nI_add, nI_1]
          refine k79 _ _ _ ?_ ?_ ?_
          · rw [et1, if_pos ⟨hwd.1, hwd.2, h2'⟩]
            omega
          · rw [ex, if_pos ⟨hwk, h2'⟩]
          · rw [el, els, if_pos ⟨hwk, h2'⟩]
      · rw [if_neg hwk, if_pos ((mz_sset (s := 0) (by omega) (by omega)).mpr (Nat.zero_and s))]
        refine k79 _ _ _ ?_ ?_ ?_
        · rw [et1, if_neg (fun e => hwk (decide_eq_true ⟨e.1, e.2.1⟩))]
          rfl
        · rw [ex, if_neg (fun e => hwk e.1)]
          rfl
        · rw [el, els, if_neg (fun e => hwk e.1)]
          rfl
theorem c_without (hK : OkK K) (hb : OkS K b σ) (h : CarC 15 K i) (ho : o < K 0 4) (hL : LdB K W o σ (K 0 5) i) (hs : s < 2 ^ 9) : fX0_lossWithout (nI s) i = some (if oB K o (awQ σ s 9) (K 0 5) ≤ 6 * K 1 0 then nI (lB K W o (awQ σ s 9) (K 0 5)) else NN) := by
  have hm := hK.1
  have hp := hK.2.2.1
  unfold fX0_lossWithout fX1_papers
  obtain ⟨fu, hfu, hfu2⟩ := fuel_g
  rw [hfu, q3, c_ruleOf h (by omega), mz_b1, h.2.2.1, mz_b1]
  exact c_without_l hK hb h ho hL hs fu 0 (by omega) (by omega)
/-- the borders of one officer, added to each set's cost -/
theorem c_addB_l (hK : OkK K) (hb : OkS K b σ) (h : CarC 15 K i) (ho : o < K 0 4) (hv : ov K o 0 ≠ 0) (hL : LdB K W o σ (K 0 5) i) (hA : a < 2 ^ 9) (hT : ∀ y, y &&& a = y → i 36 y = cI (csB K W σ y o)) : ∀ n s i1, s ≤ a + 1 → a + 1 - s < n → Fr [36] i i1 → (∀ y, y &&& a = y → i1 36 y = cI (csB K W σ y (if y < s then o + 1 else o))) →
    ∃ i2, fX0_addBorders_13 n (nI a) (nI (ov K o 0)) (nI s) i1 = some i2 ∧ Fr [36] i i2 ∧ (∀ y, y &&& a = y → i2 36 y = cI (csB K W σ y (o + 1))) := by
  have hm4 := hK.2.1
  intro n
  induction n with
  | zero => intro s i1 h1 h2; omega
  | succ n ih =>
    intro s i1 h1 h2 g1 g2
    have hc1 : CarC 15 K i1 := CarC_f h (fun q q1 q2 => g1 q (by simp; omega))
    have hL1 : LdB K W o σ (K 0 5) i1 := LdB_f hL (g1 37 (by decide)) (g1 38 (by decide)) (g1 39 (by decide)) (g1 40 (by decide))
    rw [fX0_addBorders_13]
    unfold fX0_addBorders_75 fX0_addBorders_76
    rw [nI_1]
    by_cases h3 : s = a + 1
    · rw [if_pos (show nI a < nI s by rw [mz_ltp (by omega) (by omega)]; omega)]
      refine ⟨i1, rfl, g1, fun y hy => ?_⟩
      have hya : y ≤ a := by rw [← hy]; exact Nat.and_le_right
      rw [g2 y hy, if_pos (by omega)]
    · have hsl : s < 2 ^ 9 := by omega
      rw [if_neg (show ¬ nI a < nI s by rw [mz_ltp (by omega) (by omega)]; omega)]
      have hskip : ∀ i3, Fr [36] i i3 → (∀ y, y ≠ s → i3 36 y = i1 36 y) → (s &&& a = s → i3 36 s = cI (csB K W σ s (o + 1))) → ∃ i2, fX0_addBorders_13 n (nI a) (nI (ov K o 0)) (nI (s + 1)) i3 = some i2 ∧ Fr [36] i i2 ∧ (∀ y, y &&& a = y → i2 36 y = cI (csB K W σ y (o + 1))) := by
        intro i3 k1 k2 k3
        refine ih (s + 1) i3 (by omega) (by omega) k1 (fun y hy => ?_)
        by_cases e : y = s
        · subst e
          rw [if_pos (by omega)]
          exact k3 hy
        · rw [k2 y e, g2 y hy]
          by_cases e2 : y < s
          · rw [if_pos e2, if_pos (by omega)]
          · rw [if_neg e2, if_neg (by omega)]
      by_cases h4 : s &&& a = s
      · have e36 := g2 s h4
        rw [if_neg (show ¬ s < s by omega)] at e36
        rw [if_pos ((mz_sset (by omega) (by omega)).mpr h4), if_pos (mz_in (by omega) (by omega)), nI_clamp (by omega), e36]
        cases hc : csB K W σ s o with
        | none =>
          rw [if_pos (show cI none = -1 from rfl)]
          refine hskip i1 g1 (fun _ _ => rfl) (fun _ => ?_)
          rw [e36, hc, csB, if_neg hv, hc]
        | some x =>
          have hxl := csB_le (W := W) (σ := σ) (s := s) hK o (by omega) x hc
          have hlb := lB_le (K := K) (W := W) (o := o) (σ := awQ σ s 9) (z := K 0 5) (by have := hK.1; have := hK.2.2.1; omega)
          have hn : csB K W σ s (o + 1) = if oB K o (awQ σ s 9) (K 0 5) ≤ 6 * K 1 0 then some (x + ov K o 0 * lB K W o (awQ σ s 9) (K 0 5)) else none := by
            rw [csB, if_neg hv, hc]
          rw [if_neg (show ¬ cI (some x) = -1 by rw [qN1]; show ¬ nI x = NN; rw [mz_nm (by omega)]; exact fun e => e), c_without hK hb hc1 ho hL1 hsl, mz_b1]
          by_cases h5 : oB K o (awQ σ s 9) (K 0 5) ≤ 6 * K 1 0
          · rw [if_pos h5] at hn
            rw [if_pos h5, if_neg (show ¬ nI (lB K W o (awQ σ s 9) (K 0 5)) = -1 by rw [qN1, mz_nm (by omega)]; exact fun e => e), if_pos (mz_in (by omega) (by omega)), if_pos (mz_in (by omega) (by omega)), mz_lt]
            refine hskip _ (Fr_t g1 Fr_u) (fun y hy => u2n _ _ _ _ _ hy) (fun _ => ?_)
            rw [u2e, hn, mz_mul]
            show nI x + nI (ov K o 0 * lB K W o (awQ σ s 9) (K 0 5)) = nI (x + ov K o 0 * lB K W o (awQ σ s 9) (K 0 5))
            rw [nI_add]
          · rw [if_neg h5] at hn
            rw [if_neg h5, if_pos (show NN = -1 from rfl), if_pos (mz_in (by omega) (by omega)), mz_lt]
            refine hskip _ (Fr_t g1 Fr_u) (fun y hy => u2n _ _ _ _ _ hy) (fun _ => ?_)
            rw [u2e, hn]
            rfl
      · rw [if_neg (fun e => h4 ((mz_sset (by omega) (by omega)).mp e))]
        exact hskip i1 g1 (fun _ _ => rfl) (fun e => absurd e h4)
end BH
