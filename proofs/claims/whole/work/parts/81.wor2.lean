/-! words: the lacking, and a word for each of them -/
def isL (K : Nat → Nat → Nat) (p : Nat) : Bool := decide (sv K p 5 = 0 ∧ 0 < sv K p 1)
def nl (K : Nat → Nat → Nat) (p : Nat) : Nat := sumTo (fun z => if isL K z = true then 1 else 0) p
def lk (K : Nat → Nat → Nat) (k : Nat) : Nat := fs (fun p => isL K p && decide (nl K p = k)) 9 0
/-- the scene with the words w said, to those below n -/
def saQ (K : Nat → Nat → Nat) (σ w : Nat → Nat) (n : Nat) : Nat → Nat := fun k => if 18 ≤ k ∧ k < 18 + n ∧ isL K (k - 18) = true then w (nl K (k - 18)) else σ k
/-- the words of a code -/
def wdU (m u k : Nat) : Nat := u / 3 ^ (m - 1 - k) % 3
def dgW (w : Nat → Nat) : Nat → Nat
  | 0 => 0
  | k + 1 => 10 * dgW w k + w k
section WP
variable {i i' i1 i2 i3 j j' j1 j2 : Tb} {rv rv' rv1 rv2 : Nat → Nat → Option Nat} {W : Option ((Nat → Nat) → Int)} {K g : Nat → Nat → Nat} {σ τ σ' ρ T w : Nat → Nat} {q p o k b b' t v n r z c s x a m y l d u : Nat} {a1 a2 x1 x2 x3 x4 x5 : Int32}
theorem nl_s : nl K (p + 1) = nl K p + (if isL K p = true then 1 else 0) := rfl
theorem nl_mono (h : p ≤ q) : nl K p ≤ nl K q := by
  induction q with
  | zero => rw [show p = 0 by omega]; exact Nat.le_refl _
  | succ q ih =>
    by_cases e : p = q + 1
    · rw [e]; exact Nat.le_refl _
    · have := ih (by omega)
      rw [nl_s]
      omega
theorem nl_lt (h : isL K p = true) (hq : p < q) : nl K p < nl K q := by
  have h1 : nl K (p + 1) ≤ nl K q := nl_mono hq
  rw [nl_s, if_pos h] at h1
  omega
theorem nl_le : nl K p ≤ p * 1 := sumTo_le (fun z _ => by split <;> omega)
theorem lk_nl (h9 : p < 9) (h : isL K p = true) : lk K (nl K p) = p := by
  unfold lk
  apply fs_eq 9 0 p (by omega) (by omega)
  · intro z _ hz
    by_cases e : isL K z = true
    · have := nl_lt e hz
      rw [decide_eq_false (by omega), Bool.and_false]
    · have e' : isL K z = false := by simpa using e
      rw [e', Bool.false_and]
  · intro _
    rw [h, decide_eq_true rfl]
    rfl
theorem nl_ex : ∀ n, k < nl K n → ∃ p, p < n ∧ isL K p = true ∧ nl K p = k := by
  intro n
  induction n with
  | zero => intro h; exact absurd h (by unfold nl sumTo; omega)
  | succ n ih =>
    intro h
    by_cases h1 : k < nl K n
    · obtain ⟨p, e1, e2⟩ := ih h1
      exact ⟨p, by omega, e2⟩
    · rw [nl_s] at h
      by_cases h2 : isL K n = true
      · rw [if_pos h2] at h
        exact ⟨n, by omega, h2, by omega⟩
      · rw [if_neg h2] at h
        omega
theorem lk_ok (hn : n ≤ 9) (h : k < nl K n) : lk K k < n ∧ isL K (lk K k) = true ∧ nl K (lk K k) = k := by
  obtain ⟨p, e1, e2, e3⟩ := nl_ex n h
  have := lk_nl (K := K) (by omega) e2
  rw [e3] at this
  rw [this]
  exact ⟨e1, e2, e3⟩
theorem saQ_0 : saQ K σ w 0 = σ := by
  funext k
  unfold saQ
  rw [if_neg (by omega)]
theorem saQ_s : saQ K σ w (n + 1) = if isL K n = true then up (saQ K σ w n) (18 + n) (w (nl K n)) else saQ K σ w n := by
  by_cases h : isL K n = true
  · rw [if_pos h]
    funext k
    unfold up
    show (if 18 ≤ k ∧ k < 18 + (n + 1) ∧ isL K (k - 18) = true then w (nl K (k - 18)) else σ k) = (if k = 18 + n then w (nl K n) else if 18 ≤ k ∧ k < 18 + n ∧ isL K (k - 18) = true then w (nl K (k - 18)) else σ k)
    by_cases e : k = 18 + n
    · rw [if_pos e, if_pos ⟨by omega, by omega, by rw [show k - 18 = n by omega]; exact h⟩, show k - 18 = n by omega]
    · rw [if_neg e]
      by_cases e2 : 18 ≤ k ∧ k < 18 + n ∧ isL K (k - 18) = true
      · rw [if_pos e2, if_pos ⟨e2.1, by omega, e2.2.2⟩]
      · rw [if_neg e2, if_neg (fun e3 => e2 ⟨e3.1, by omega, e3.2.2⟩)]
  · rw [if_neg h]
    funext k
    unfold saQ
    by_cases e2 : 18 ≤ k ∧ k < 18 + n ∧ isL K (k - 18) = true
    · rw [if_pos e2, if_pos ⟨e2.1, by omega, e2.2.2⟩]
    · rw [if_neg e2, if_neg (fun e3 => e2 ⟨e3.1, by
        have : k - 18 ≠ n := fun e4 => h (by rw [← e4]; exact e3.2.2)
        omega, e3.2.2⟩)]
theorem saQ_o (h : k < 18 ∨ 27 ≤ k) (hn : n ≤ 9) : saQ K σ w n k = σ k := if_neg (by omega)
theorem saQ_a (hp : p < n) : saQ K σ w n (18 + p) = if isL K p = true then w (nl K p) else σ (18 + p) := by
  unfold saQ
  rw [show 18 + p - 18 = p by omega]
  by_cases h : isL K p = true
  · rw [if_pos h, if_pos ⟨by omega, by omega, h⟩]
  · rw [if_neg h, if_neg (fun e => h e.2.2)]
theorem OkS_sa (hK : OkK K) (hb : OkS K b σ) (hw : ∀ k, w k ≤ 2) : ∀ n, n ≤ K 0 3 → OkS K b (saQ K σ w n) := by
  intro n
  induction n with
  | zero => intro _; rw [saQ_0]; exact hb
  | succ n ih =>
    intro hn
    rw [saQ_s]
    by_cases h : isL K n = true
    · have h2 := of_decide_eq_true h
      rw [if_pos h]
      exact OkS_say hK (ih (by omega)) (by omega) h2.1 h2.2 (hw _)
    · rw [if_neg h]
      exact ih (by omega)
theorem wdU_le : wdU m u k ≤ 2 := by
  unfold wdU
  omega
/-- the model decodes a code into row 63 -/
theorem m_dec {kh : Int32 → Int32 → Int32 → Int32 → Int32 → (Nat → Nat → Int32) → Option ((Int32) × (Nat → Nat → Int32))} (h' : CarM K j) (hK : OkK K) (hb : OkS K b σ) (hu : u < 3 ^ 9) : ∀ n p j1, p ≤ K 0 3 → K 0 3 - p < n → Fr [63] j j1 → ScM K (saQ K σ (wdU (nl K (K 0 3)) u) p) (j1 63) → (∀ k, (k % 6 ≠ 2 ∨ 54 ≤ k) → j1 63 k = j 63 k) →
    ∃ j2, fX12_words_121 kh n x1 x3 x4 x5 (nI u) (nI (dgW (wdU (nl K (K 0 3)) u) (nl K p))) (nI (3 ^ (nl K (K 0 3) - nl K p))) (nI p) j1 = fX12_words_214 kh fuel x1 x3 x4 x5 (nI u) (nI (dgW (wdU (nl K (K 0 3)) u) (nl K (K 0 3)))) 0 0 j2 ∧ Fr [63] j j2 ∧ ScM K (saQ K σ (wdU (nl K (K 0 3)) u) (K 0 3)) (j2 63) ∧ (∀ k, (k % 6 ≠ 2 ∨ 54 ≤ k) → j2 63 k = j 63 k) := by
  have hm := hK.1
  have hN := nl_le (K := K) (p := K 0 3)
  intro n
  induction n with
  | zero => intro p j1 h1 h2; omega
  | succ n ih =>
    intro p j1 h1 h2 g1 g2 g3
    have hc1 : CarM K j1 := CarM_f (l5 := []) h' g1 (fun k _ => by rw [g1 50 (by decide)]) (by decide) (by decide) (by decide) (by decide) (by decide) (by decide)
    rw [fX12_words_121, hc1.1]
    unfold fX12_words_202
    rw [nI_1]
    by_cases h3 : p = K 0 3
    · rw [h3] at g2
      rw [if_pos (nI_le (by omega) (by omega)), h3]
      exact ⟨j1, rfl, g1, g2, g3⟩
    · have hpl : p < K 0 3 := by omega
      have hch := hK.2.2.2.2.2.2.2.2.2.2.1 p hpl
      have h9 := hK.2.2.2.2.2.2.2.2.2.1 p 1 hpl (by omega)
      have e57 : j1 57 (6 * p + 1) = nI (sv K p 1) := hc1.2.2.2.2.1 _ (by omega)
      have ih' := ih (p + 1)
      rw [nl_s, saQ_s] at ih'
      rw [if_neg (nI_ge (by omega) (by omega)), m_isChild hc1 hK hpl, mz_b1, show 6 * nI p + 1 = nI (6 * p + 1) from by rw [q6, mz_mul, q1, nI_add], if_pos (mz_in (by omega) (by omega)), nI_clamp (by omega), e57, show 6 * nI p + 2 = nI (6 * p + 2) from by rw [q6, mz_mul, q2, nI_add], if_pos (mz_in (by omega) (by omega)), nI_clamp (by omega)]
      by_cases h4 : sv K p 5 = 0
      · rw [if_pos (show nI (sv K p 5) = 0 by rw [h4]; rfl)]
        by_cases h5 : sv K p 1 = 0
        · have hL : isL K p = false := decide_eq_false (fun e => by omega)
          rw [hL] at ih'
          rw [if_pos (show nI (sv K p 1) = 0 by rw [h5]; rfl)]
          exact ih' j1 (by omega) (by omega) g1 g2 g3
        · have hL : isL K p = true := decide_eq_true ⟨h4, by omega⟩
          have hlt := nl_lt hL hpl
          obtain ⟨e, he⟩ : ∃ e, nl K (K 0 3) - nl K p = e + 1 := ⟨nl K (K 0 3) - nl K p - 1, by omega⟩
          have hp9 : 3 ^ e ≤ 3 ^ 8 := Nat.pow_le_pow_right (by omega) (by omega)
          have hp0 : 0 < 3 ^ e := Nat.pow_pos (by omega)
          have hpe : 3 ^ (e + 1) = 3 * 3 ^ e := by rw [Nat.pow_succ, Nat.mul_comm]
          have hdv : nI (3 ^ (nl K (K 0 3) - nl K p)) / 3 = nI (3 ^ e) := by
            rw [he, q3, mz_div (by omega) (by omega), hpe, Nat.mul_div_cancel_left _ (by omega)]
          have hud : u / 3 ^ e ≤ u := Nat.div_le_self _ _
          have hdg : nI u / nI (3 ^ e) - nI u / nI (3 ^ e) / 3 * 3 = nI (wdU (nl K (K 0 3)) u (nl K p)) := by
            rw [mz_div (by omega) (by omega), q3, mz_rem (by omega) (by omega)]
            unfold wdU
            rw [show nl K (K 0 3) - 1 - nl K p = e by omega]
          rw [hL, if_pos rfl, if_pos rfl] at ih'
          rw [if_neg (show ¬ nI (sv K p 1) = 0 by rw [q0, nI_eq (by omega) (by omega)]; exact h5), hdv, if_neg (show ¬ nI (3 ^ e) = 0 by rw [q0, nI_eq (by omega) (by omega)]; omega), hdg, mz_lt, if_pos (mz_in (by omega) (by omega)), mz_lt, u2e, q10, mz_mul, nI_add]
          have ed : dgW (wdU (nl K (K 0 3)) u) (nl K p + 1) = 10 * dgW (wdU (nl K (K 0 3)) u) (nl K p) + wdU (nl K (K 0 3)) u (nl K p) := rfl
          rw [ed, show nl K (K 0 3) - (nl K p + 1) = e by omega] at ih'
          refine ih' _ (by omega) (by omega) (Fr_t g1 Fr_u) ?_ ?_
          · exact ScM_said (w := 63) hK (OkS_sa hK hb (fun _ => wdU_le) p (by omega)) g2 hpl
          · intro k hk
            rw [u2n _ _ _ _ _ (by omega)]
            exact g3 k hk
      · have hL : isL K p = false := decide_eq_false (fun e => h4 e.1)
        rw [hL] at ih'
        rw [if_neg (show ¬ nI (sv K p 5) = 0 by rw [q0, nI_eq (by omega) (by omega)]; exact h4)]
        exact ih' j1 (by omega) (by omega) g1 g2 g3
end WP
