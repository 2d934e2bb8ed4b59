/-! before: whom to wake by hand; the model's cost of a set -/
/-- the scene with those of a set, below n, awake -/
def awQ (σ : Nat → Nat) (s n : Nat) : Nat → Nat := fun k => if 27 ≤ k ∧ k < 27 + n ∧ s.testBit (k - 27) = true then 0 else σ k
/-- what a set costs, over the first officers; none: someone is late -/
def csB (K : Nat → Nat → Nat) (W : Option ((Nat → Nat) → Int)) (σ : Nat → Nat) (s : Nat) : Nat → Option Nat
  | 0 => some (sS (fun k => wts K (K 0 4) * lossN K W σ k 0 9) s)
  | o + 1 => if ov K o 0 = 0 then csB K W σ s o else match csB K W σ s o with
    | none => none
    | some x => if oB K o (awQ σ s 9) (K 0 5) ≤ 6 * K 1 0 then some (x + ov K o 0 * lB K W o (awQ σ s 9) (K 0 5)) else none
def cI (x : Option Nat) : Int32 := match x with
  | none => NN
  | some y => nI y
section BF
variable {i i' i1 i2 i3 j j' j1 j2 : Tb} {rv rv' rv1 rv2 : Nat → Nat → Option Nat} {W : Option ((Nat → Nat) → Int)} {K g : Nat → Nat → Nat} {σ τ σ' ρ T : Nat → Nat} {q p o k b b' t w v n r z c s x a m y l d : Nat} {a1 a2 x1 x2 : Int32}
theorem awQ_0 : awQ σ s 0 = σ := by
  funext k
  unfold awQ
  rw [if_neg (by omega)]
theorem awQ_s : awQ σ s (n + 1) = if s.testBit n = true then up (awQ σ s n) (27 + n) 0 else awQ σ s n := by
  by_cases h : s.testBit n = true
  · rw [if_pos h]
    funext k
    unfold awQ up
    by_cases e : k = 27 + n
    · rw [if_pos e, if_pos ⟨by omega, by omega, by rw [show k - 27 = n by omega]; exact h⟩]
    · rw [if_neg e]
      show (if 27 ≤ k ∧ k < 27 + (n + 1) ∧ s.testBit (k - 27) = true then 0 else σ k) = (if 27 ≤ k ∧ k < 27 + n ∧ s.testBit (k - 27) = true then 0 else σ k)
      by_cases e2 : 27 ≤ k ∧ k < 27 + n ∧ s.testBit (k - 27) = true
      · rw [if_pos e2, if_pos ⟨e2.1, by omega, e2.2.2⟩]
      · rw [if_neg e2, if_neg (fun e3 => e2 ⟨e3.1, by omega, e3.2.2⟩)]
  · rw [if_neg h]
    funext k
    unfold awQ
    by_cases e2 : 27 ≤ k ∧ k < 27 + n ∧ s.testBit (k - 27) = true
    · rw [if_pos e2, if_pos ⟨e2.1, by omega, e2.2.2⟩]
    · rw [if_neg e2, if_neg (fun e3 => e2 ⟨e3.1, by
        have : k - 27 ≠ n := fun e4 => h (by rw [← e4]; exact e3.2.2)
        omega, e3.2.2⟩)]
theorem awQ_o (h : k < 27 ∨ 36 ≤ k) (hn : n ≤ 9) : awQ σ s n k = σ k := if_neg (by omega)
theorem awQ_a (hp : p < n) : awQ σ s n (27 + p) = if s.testBit p = true then 0 else σ (27 + p) := by
  unfold awQ
  rw [show 27 + p - 27 = p by omega]
  by_cases h : s.testBit p = true
  · rw [if_pos h, if_pos ⟨by omega, by omega, h⟩]
  · rw [if_neg h, if_neg (fun e => h e.2.2)]
theorem awQ_z (hp : n ≤ p) : awQ σ s n (27 + p) = σ (27 + p) := if_neg (by omega)
theorem awQ_9 (hs : s < 2 ^ n) (hn : n ≤ 9) : awQ σ s n = awQ σ s 9 := by
  funext k
  unfold awQ
  by_cases e2 : 27 ≤ k ∧ k < 27 + n ∧ s.testBit (k - 27) = true
  · rw [if_pos e2, if_pos ⟨e2.1, by omega, e2.2.2⟩]
  · rw [if_neg e2, if_neg (fun e3 => e2 ⟨e3.1, by have := bit_lt hs e3.2.2; omega, e3.2.2⟩)]
theorem OkS_aw (hK : OkK K) (hb : OkS K b σ) (hn : n ≤ 9) : OkS K b (awQ σ s n) := by
  have hm := hK.1
  have hp := hK.2.2.1
  obtain ⟨h1, h2, h3, h4, h5, h6, h7, h8, h9, h10⟩ := hb
  refine ⟨?_, ?_, ?_, ?_, ?_, ?_, ?_, ?_, ?_, ?_⟩
  · intro p hp
    rw [awQ_o (by omega) hn]
    exact h1 p hp
  · intro p q hp hq
    rw [awQ_o (by omega) hn, awQ_o (by omega) hn]
    exact h2 p q hp hq
  · intro q hq
    rw [awQ_o (by omega) hn]
    exact h3 q hq
  · intro q r hq hr
    rw [awQ_o (by omega) hn, awQ_o (by omega) hn]
    exact h4 q r hq hr
  · intro p hp1 hp2
    obtain ⟨q, e1, e2⟩ := h5 p hp1 hp2
    exact ⟨q, e1, by rw [awQ_o (by omega) hn]; exact e2⟩
  · intro p hp
    rw [awQ_o (by omega) hn]
    exact h6 p hp
  · intro p hp
    obtain ⟨e1, e2, e3⟩ := h7 p hp
    rw [awQ_o (k := 36 + p) (by omega) hn, awQ_o (k := 45 + p) (by omega) hn]
    refine ⟨?_, e2, e3⟩
    by_cases e : p < n
    · rw [awQ_a e]
      split <;> omega
    · rw [awQ_z (by omega)]
      exact e1
  · intro p hp hq
    obtain ⟨e1, e2⟩ := h8 p hp hq
    rw [awQ_o (k := 36 + p) (by omega) hn]
    refine ⟨?_, e2⟩
    by_cases e : p < n
    · rw [awQ_a e]
      split <;> omega
    · rw [awQ_z (by omega)]
      exact e1
  · rw [awQ_o (by omega) hn]
    exact h9
  · rw [awQ_o (by omega) hn]
    exact h10
theorem csB_none (h : csB K W σ s o = none) : ∀ d, csB K W σ s (o + d) = none := by
  intro d
  induction d with
  | zero => exact h
  | succ d ih =>
    show (if ov K (o + d) 0 = 0 then csB K W σ s (o + d) else match csB K W σ s (o + d) with
      | none => none
      | some x => if oB K (o + d) (awQ σ s 9) (K 0 5) ≤ 6 * K 1 0 then some (x + ov K (o + d) 0 * lB K W (o + d) (awQ σ s 9) (K 0 5)) else none) = none
    rw [ih]
    split <;> rfl
theorem csB_le (hK : OkK K) : ∀ o, o ≤ K 0 4 → ∀ x, csB K W σ s o = some x → x ≤ 40000 + 9000 * o := by
  have hm4 := hK.2.1
  have hp := hK.2.2.1
  have hm := hK.1
  intro o
  induction o with
  | zero =>
    intro _ x hx
    have hw := wts_le hK (Nat.le_refl (K 0 4))
    have h1 := sS_le (f := fun k => wts K (K 0 4) * lossN K W σ k 0 9) (s := s) (m := 36 * 99) (fun z _ => Nat.mul_le_mul (by omega) lossN_le)
    have h2 : sS (fun k => wts K (K 0 4) * lossN K W σ k 0 9) s = x := Option.some.inj hx
    omega
  | succ o ih =>
    intro ho x hx
    have h0 := hK.2.2.2.2.2.2.2.2.2.2.2.1 o 0 (by omega) (by omega)
    rw [csB] at hx
    by_cases e : ov K o 0 = 0
    · rw [if_pos e] at hx
      have := ih (by omega) x hx
      omega
    · rw [if_neg e] at hx
      cases e2 : csB K W σ s o with
      | none => rw [e2] at hx; exact absurd hx (by simp)
      | some y =>
        rw [e2] at hx
        have h1 := ih (by omega) y e2
        have h2 := lB_le (K := K) (W := W) (o := o) (σ := awQ σ s 9) (z := K 0 5) (by omega)
        have h3 : ov K o 0 * lB K W o (awQ σ s 9) (K 0 5) ≤ 9 * 891 := Nat.mul_le_mul h0 h2
        by_cases e3 : oB K o (awQ σ s 9) (K 0 5) ≤ 6 * K 1 0
        · have hx' : (if oB K o (awQ σ s 9) (K 0 5) ≤ 6 * K 1 0 then some (y + ov K o 0 * lB K W o (awQ σ s 9) (K 0 5)) else none) = some x := hx
          rw [if_pos e3] at hx'
          have := Option.some.inj hx'
          omega
        · have hx' : (if oB K o (awQ σ s 9) (K 0 5) ≤ 6 * K 1 0 then some (y + ov K o 0 * lB K W o (awQ σ s 9) (K 0 5)) else none) = some x := hx
          rw [if_neg e3] at hx'
          exact absurd hx' (by simp)
theorem WMb_f (h : WM K W σ j) (hf : Fr [50, 54, 64] j j') (h5 : F5 l41 j j') : WM K W σ j' := WM_f h hf h5 (by decide) (by decide)
theorem m_cost_aw {kh : Int32 → Int32 → Int32 → (Nat → Nat → Int32) → (Nat → Nat → Option Nat) → Option ((Int32) × (Nat → Nat → Int32) × (Nat → Nat → Option Nat))} (hK : OkK K) (hb : OkS K b σ) (hb2 : b < 100000) (h' : WM K W σ j) (hs : s < 2 ^ K 0 3) (ho : o < K 0 4) : ∀ n p j1, p ≤ K 0 3 → K 0 3 - p < n → Fr [50, 54, 64] j j1 → F5 l41 j j1 → ScM K (awQ σ s p) (j1 64) →
    ∃ j2 rv2, fX12_costOf_88 kh n (nI s) x1 (nI o) (nI p) j1 rv = (if oB K o (awQ σ s 9) (K 0 5) ≤ 6 * K 1 0 then kh (nI s) (x1 + nI (ov K o 0 * lB K W o (awQ σ s 9) (K 0 5))) (nI (o + 1)) j2 rv2 else some (-1, j2, rv2)) ∧ Fr [50, 54, 64] j j2 ∧ F5 l41 j j2 ∧ RvM rv rv2 := by
  have hm := hK.1
  have hm4 := hK.2.1
  have hp2 : 2 ^ K 0 3 ≤ 2 ^ 9 := Nat.pow_le_pow_right (by omega) hm
  have hr60 := hK.2.2.2.2.2.1
  intro n
  induction n with
  | zero => intro p j1 h1 h2; omega
  | succ n ih =>
    intro p j1 h1 h2 g1 g2 g3
    have hw1 := WMb_f h' g1 g2
    rw [fX12_costOf_88, hw1.1.1]
    unfold fX12_costOf_119 fX12_costOf_163
    rw [nI_1, nI_1]
    by_cases h3 : p = K 0 3
    · rw [h3, awQ_9 hs hm] at g3
      have hb9 := OkS_aw (s := s) (n := 9) hK hb (by omega)
      obtain ⟨j2, rv2, e1, e2, e3, e4, e5, e6, e7, e8, e9⟩ := M_gob (rv := rv) (o := o) hw1.1 hK hb9 hb2 g3 (Or.inr rfl) hw1.2.2.1 ho
      have f2 : Fr [50, 54, 64] j j2 := Fr_t g1 (Fr_w (by decide) e2)
      have f5 : F5 l41 j j2 := F5_t g2 e3
      have hw2 := WMb_f h' f2 f5
      have hoB := oB_le (o := o) hK hb9 ho (K 0 5) (Nat.le_refl _)
      have e55 : j2 55 0 = nI (K 1 0) := hw2.1.2.2.2.1 0 (by omega)
      have e59 : j2 59 (4 * o) = nI (ov K o 0) := hw2.1.2.2.2.2.2 _ (by omega)
      unfold fX12_isLate
      rw [if_pos (nI_le (by omega) (by omega)), e1, mz_b2, q0, if_pos (mz_in (by omega) (by omega)), nI_clamp (by omega), e55, q6, mz_mul, e7, e8]
      by_cases h4 : oB K o (awQ σ s 9) (K 0 5) ≤ 6 * K 1 0
      · rw [if_pos (nI_le h4 (by omega)), mz_b1, if_pos rfl, q4, mz_mul, if_pos (mz_in (by omega) (by omega)), mz_lt, nI_clamp (by omega), e59, mz_mul]
        exact ⟨j2, rv2, by rw [if_pos h4], f2, f5, e4⟩
      · rw [if_neg (nI_ge (by omega) (by omega)), mz_b1, if_neg (show ¬ (1 : Int32) = nI 0 by decide)]
        exact ⟨j2, rv2, by rw [if_neg h4], f2, f5, e4⟩
    · rw [if_neg (nI_ge (by omega) (by omega))]
      unfold fX12_has
      rw [mz_bit1 (by omega) (by omega)]
      by_cases h6 : s.testBit p = true
      · rw [if_pos h6, if_pos (show nI 1 = 1 from rfl), mz_b1, if_neg (show ¬ (1 : Int32) = 0 by decide), show 6 * nI p + 3 = nI (6 * p + 3) from by rw [q6, mz_mul, q3, nI_add], if_pos (mz_in (by omega) (by omega)), mz_lt, nI_clamp (by omega)]
        refine ih (p + 1) _ (by omega) (by omega) (Fr_t g1 (Fr_w (by decide) Fr_u)) (F5_t g2 (fun k _ => by rw [u2r _ _ _ _ _ (by omega)])) ?_
        rw [awQ_s, if_pos h6]
        exact ScM_asl (w := 64) hK (OkS_aw hK hb (by omega)) g3 (by omega)
      · rw [if_neg h6, if_neg (show ¬ nI 0 = 1 by decide), mz_b1, if_pos (show (0 : Int32) = 0 from rfl)]
        refine ih (p + 1) j1 (by omega) (by omega) g1 g2 ?_
        rw [awQ_s, if_neg h6]
        exact g3
theorem m_cost_o (hK : OkK K) (hb : OkS K b σ) (hb2 : b < 100000) (h' : WM K W σ j) (hs : s < 2 ^ K 0 3) : ∀ n o x j1 rv1, o ≤ K 0 4 → K 0 4 - o < n → Fr [50, 54, 64] j j1 → F5 l41 j j1 → RvM rv rv1 → csB K W σ s o = some x →
    ∃ j2 rv2, fX12_costOf_52 n (nI s) (nI x) (nI o) j1 rv1 = some (cI (csB K W σ s (K 0 4)), j2, rv2) ∧ Fr [50, 54, 64] j j2 ∧ F5 l41 j j2 ∧ RvM rv rv2 := by
  have hm := hK.1
  have hm4 := hK.2.1
  intro n
  induction n with
  | zero => intro o x j1 rv1 h1 h2; omega
  | succ n ih =>
    intro o x j1 rv1 h1 h2 g1 g2 g3 g4
    have hw1 := WMb_f h' g1 g2
    rw [fX12_costOf_52, hw1.1.2.1]
    unfold fX12_costOf_163
    rw [nI_1]
    by_cases h3 : o = K 0 4
    · rw [if_pos (nI_le (by omega) (by omega)), ← h3, g4]
      exact ⟨_, _, rfl, g1, g2, g3⟩
    · have e59 : j1 59 (4 * o) = nI (ov K o 0) := hw1.1.2.2.2.2.2 _ (by omega)
      have h9 := hK.2.2.2.2.2.2.2.2.2.2.2.1 o 0 (by omega) (by omega)
      rw [if_neg (nI_ge (by omega) (by omega)), q4, mz_mul, if_pos (mz_in (by omega) (by omega)), nI_clamp (by omega), e59]
      by_cases h4 : ov K o 0 = 0
      · rw [if_pos (show nI (ov K o 0) = 0 by rw [h4]; rfl)]
        exact ih (o + 1) x j1 rv1 (by omega) (by omega) g1 g2 g3 (by rw [csB, if_pos h4]; exact g4)
      · obtain ⟨y, hy, h55⟩ := hw1.2.2.2
        obtain ⟨j2, c1, c2, c3⟩ := m_copy (j := j1) (w0 := 63) (w := 64) (by omega) hy h55
        have f2 : Fr [50, 54, 64] j j2 := Fr_t g1 (Fr_w (by decide) c2)
        have f5 : F5 l41 j j2 := F5_t g2 (fun k _ => by rw [c2 50 (by decide)])
        obtain ⟨fu, hfu, hfu2⟩ := fuel_g
        obtain ⟨j3, rv3, d1, d2, d3, d4⟩ := m_cost_aw (kh := fX12_costOf_52 n) (x1 := nI x) (rv := rv1) (o := o) hK hb hb2 h' hs (by omega) fu 0 j2 (by omega) (by omega) f2 f5 (by
          rw [awQ_0]
          exact ScM_e hK hb hw1.2.1 (fun k hk => c3 k (by omega)))
        rw [← q0] at d1
        rw [if_neg (show ¬ nI (ov K o 0) = 0 by rw [q0, nI_eq (by omega) (by omega)]; exact h4), c1, mz_b1, hfu, d1]
        have hn : csB K W σ s (o + 1) = if oB K o (awQ σ s 9) (K 0 5) ≤ 6 * K 1 0 then some (x + ov K o 0 * lB K W o (awQ σ s 9) (K 0 5)) else none := by
          rw [csB, if_neg h4, g4]
        by_cases h5 : oB K o (awQ σ s 9) (K 0 5) ≤ 6 * K 1 0
        · rw [if_pos h5] at hn
          rw [if_pos h5, nI_add]
          exact ih (o + 1) _ j3 rv3 (by omega) (by omega) d2 d3 (RvM_t g3 d4) hn
        · rw [if_neg h5] at hn
          have e := csB_none hn (K 0 4 - (o + 1))
          rw [show o + 1 + (K 0 4 - (o + 1)) = K 0 4 by omega] at e
          rw [if_neg h5, e]
          exact ⟨_, _, rfl, d2, d3, RvM_t g3 d4⟩
theorem m_cost_h (hK : OkK K) (hb : OkS K b σ) (hb2 : b < 100000) (h' : WM K W σ j) (hs : s < 2 ^ K 0 3) : ∀ n k j1 rv1, k ≤ K 0 3 → K 0 3 - k < n → Fr [50, 54, 64] j j1 → F5 l41 j j1 → RvM rv rv1 →
    ∃ j2 rv2, fX12_costOf_4 n (nI s) (nI (sumTo (fun k => if s.testBit k = true then wts K (K 0 4) * lossN K W σ k 0 9 else 0) k)) (nI k) j1 rv1 = some (cI (csB K W σ s (K 0 4)), j2, rv2) ∧ Fr [50, 54, 64] j j2 ∧ F5 l41 j j2 ∧ RvM rv rv2 := by
  have hm := hK.1
  have hp2 : 2 ^ K 0 3 ≤ 2 ^ 9 := Nat.pow_le_pow_right (by omega) hm
  intro n
  induction n with
  | zero => intro k j1 rv1 h1 h2; omega
  | succ n ih =>
    intro k j1 rv1 h1 h2 g1 g2 g3
    have hw1 := WMb_f h' g1 g2
    rw [fX12_costOf_4, hw1.1.1]
    unfold fX12_costOf_42
    rw [nI_1]
    by_cases h3 : k = K 0 3
    · obtain ⟨fu, hfu, hfu2⟩ := fuel_g
      rw [if_pos (nI_le (by omega) (by omega)), hfu, h3]
      refine m_cost_o hK hb hb2 h' hs fu 0 _ j1 rv1 (by omega) (by have := hK.2.1; omega) g1 g2 g3 ?_
      rw [csB]
      unfold sS
      rw [sumTo_9 hm (fun z z1 z2 => if_neg (fun e => by have := bit_lt hs e; omega))]
    · have ih' := ih (k + 1)
      rw [sumTo] at ih'
      rw [if_neg (nI_ge (by omega) (by omega))]
      unfold fX12_has
      rw [mz_bit1 (by omega) (by omega)]
      by_cases h6 : s.testBit k = true
      · obtain ⟨j2, rv2, s1, s2, s3, s4⟩ := M_loss (rv := rv1) (w := 63) (t := 0) (o := 9) (p := k) hw1.1 hK hb (by omega) hw1.2.1 (Or.inl rfl) hw1.2.2.1 (by omega) (by omega) (by omega)
        rw [if_pos h6] at ih'
        rw [if_pos h6, if_pos (show nI 1 = 1 from rfl), mz_b1, if_neg (show ¬ (1 : Int32) = 0 by decide), m_weights hw1.1 hK, mz_b1, q0, q9, s1, mz_b3, mz_mul, nI_add]
        exact ih' j2 rv2 (by omega) (by omega) (Fr_t g1 (Fr_w (by decide) s2)) (F5_t g2 (F5_w (by decide) s3)) (RvM_t g3 s4)
      · rw [if_neg h6] at ih'
        rw [if_neg h6, if_neg (show ¬ nI 0 = 1 by decide), mz_b1, if_pos (show (0 : Int32) = 0 from rfl), show (0 : Int32) = nI 0 from rfl, nI_add]
        exact ih' j1 rv1 (by omega) (by omega) g1 g2 g3
theorem M_cost (hK : OkK K) (hb : OkS K b σ) (hb2 : b < 100000) (h' : WM K W σ j) (hs : s < 2 ^ K 0 3) : ∃ j2 rv2, fX12_costOf (nI s) j rv = some (cI (csB K W σ s (K 0 4)), j2, rv2) ∧ Fr [50, 54, 64] j j2 ∧ F5 l41 j j2 ∧ RvM rv rv2 := by
  have hm := hK.1
  unfold fX12_costOf
  obtain ⟨fu, hfu, hfu2⟩ := fuel_g
  rw [hfu]
  exact m_cost_h hK hb hb2 h' hs fu 0 j rv (by omega) (by omega) (Fr_r _ _) (F5_r _ _) (Or.inl rfl)
end BF
