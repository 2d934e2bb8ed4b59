/-! text: the model boards a car -/
section QM
variable {i i' i1 i2 i3 j j' j1 J X X' Y : Tb} {rv rv' rv2 rv3 rv4 : Nat → Nat → Option Nat} {W W' : Option ((Nat → Nat) → Int)} {K g g' D : Nat → Nat → Nat} {σ σ' T T' la li : Nat → Nat} {c n b b' L L' dr m m' p q k x a r ld ln : Nat} {td : Bool}
theorem m_b274 : ∀ n k j1, k ≤ 16 → 16 - k < n → Fr [59] j j1 → (∀ z, z < k → j1 59 z = j 60 z) → ∃ j', fX12_text_274 n (nI k) j1 rv = fX12_text_300 fuel 0 j' rv ∧ Fr [59] j j' ∧ ∀ z, z < 16 → j' 59 z = j 60 z := by
  intro n
  induction n with
  | zero => intro k j1 h1 h2; omega
  | succ n ih =>
    intro k j1 h1 h2 g1 g2
    have e : (16 : Int32) = nI 16 := rfl
    rw [fX12_text_274, e]
    by_cases h3 : k = 16
    · rw [h3] at g2
      rw [if_pos (nI_le (by omega) (by omega))]
      exact ⟨j1, rfl, g1, g2⟩
    · rw [if_neg (nI_ge (by omega) (by omega)), if_pos (mz_in (by omega) (by omega)), if_pos (mz_in (by omega) (by omega)), mz_lt, nI_clamp (by omega), nI_1]
      refine ih (k + 1) _ (by omega) (by omega) (Fr_t g1 Fr_u) (fun z hz => ?_)
      by_cases e2 : z = k
      · rw [e2, u2e, g1 60 (by decide)]
      · rw [u2n _ _ _ _ _ e2]; exact g2 z (by omega)
theorem m_b248 : ∀ n k j1, k ≤ 54 → 54 - k < n → Fr [57] j j1 → (∀ z, z < k → j1 57 z = j 58 z) → ∃ j', fX12_text_248 n (nI k) j1 rv = fX12_text_274 fuel 0 j' rv ∧ Fr [57] j j' ∧ ∀ z, z < 54 → j' 57 z = j 58 z := by
  intro n
  induction n with
  | zero => intro k j1 h1 h2; omega
  | succ n ih =>
    intro k j1 h1 h2 g1 g2
    have e : (54 : Int32) = nI 54 := rfl
    rw [fX12_text_248, e]
    by_cases h3 : k = 54
    · rw [h3] at g2
      rw [if_pos (nI_le (by omega) (by omega))]
      exact ⟨j1, rfl, g1, g2⟩
    · rw [if_neg (nI_ge (by omega) (by omega)), if_pos (mz_in (by omega) (by omega)), if_pos (mz_in (by omega) (by omega)), mz_lt, nI_clamp (by omega), nI_1]
      refine ih (k + 1) _ (by omega) (by omega) (Fr_t g1 Fr_u) (fun z hz => ?_)
      by_cases e2 : z = k
      · rw [e2, u2e, g1 58 (by decide)]
      · rw [u2n _ _ _ _ _ e2]; exact g2 z (by omega)
theorem m_b223 : ∀ n k j1, k ≤ 4 → 4 - k < n → Fr [55] j j1 → (∀ z, z < k → j1 55 z = j 56 z) → ∃ j', fX12_text_223 n (nI k) j1 rv = fX12_text_248 fuel 0 j' rv ∧ Fr [55] j j' ∧ ∀ z, z < 4 → j' 55 z = j 56 z := by
  intro n
  induction n with
  | zero => intro k j1 h1 h2; omega
  | succ n ih =>
    intro k j1 h1 h2 g1 g2
    have e : (4 : Int32) = nI 4 := rfl
    rw [fX12_text_223, e]
    by_cases h3 : k = 4
    · rw [h3] at g2
      rw [if_pos (nI_le (by omega) (by omega))]
      exact ⟨j1, rfl, g1, g2⟩
    · rw [if_neg (nI_ge (by omega) (by omega)), if_pos (mz_in (by omega) (by omega)), if_pos (mz_in (by omega) (by omega)), mz_lt, nI_clamp (by omega), nI_1]
      refine ih (k + 1) _ (by omega) (by omega) (Fr_t g1 Fr_u) (fun z hz => ?_)
      by_cases e2 : z = k
      · rw [e2, u2e, g1 56 (by decide)]
      · rw [u2n _ _ _ _ _ e2]; exact g2 z (by omega)
theorem m_b300 : ∀ n k j1, k ≤ 296 → 296 - k < n → Fr [63] j j1 → (∀ z, z < k → j1 63 z = 0) → ∃ j', fX12_text_300 n (nI k) j1 rv = fX12_text_327 fuel 0 (u2 j' 50 28 0) rv ∧ Fr [63] j j' ∧ ∀ z, z < 296 → j' 63 z = 0 := by
  intro n
  induction n with
  | zero => intro k j1 h1 h2; omega
  | succ n ih =>
    intro k j1 h1 h2 g1 g2
    rw [fX12_text_300, q296]
    by_cases h3 : k = 296
    · rw [h3] at g2
      rw [if_pos (nI_le (by omega) (by omega)), mz_lt]
      exact ⟨j1, rfl, g1, g2⟩
    · rw [if_neg (nI_ge (by omega) (by omega)), if_pos (mz_in (by omega) (by omega)), mz_lt, nI_clamp (by omega), nI_1]
      refine ih (k + 1) _ (by omega) (by omega) (Fr_t g1 Fr_u) (fun z hz => ?_)
      by_cases e2 : z = k
      · rw [e2, u2e]
      · rw [u2n _ _ _ _ _ e2]; exact g2 z (by omega)
def bC (K : Nat → Nat → Nat) (w : Nat → Int32) (p : Nat) : Prop := w (6 * p) = nI p ∧ w (6 * p + 1) = (if sv K p 5 = 1 then NN else nI (nb K p)) ∧ w (6 * p + 2) = 0 ∧ w (6 * p + 3) = 1 ∧ w (6 * p + 4) = 0 ∧ w (6 * p + 5) = 0
theorem m_b327 (hK : OkK K) (h26 : j 50 26 = nI (K 0 3)) (h57 : ∀ p, p < K 0 3 → j 57 (6 * p + 5) = nI (sv K p 5)) (h55 : j 55 2 = nI (K 1 2)) : ∀ n p j1, p ≤ K 0 3 → K 0 3 - p < n → Fr [50, 63] j j1 → F5 [28] j j1 → j1 50 28 = nI (nb K p) → (∀ q, q < p → bC K (j1 63) q) → (∀ z, 6 * p ≤ z → z < 296 → j1 63 z = 0) →
    ∃ j', fX12_text_327 n (nI p) j1 rv = some (nI (K 0 3), j', rv) ∧ Fr [50, 63] j j' ∧ F5 [28, 42, 49, 52, 57] j j' ∧ j' 50 28 = nI (nb K (K 0 3)) ∧ (j' 50 42 = 0 ∧ j' 50 49 = 0 ∧ j' 50 52 = 0 ∧ j' 50 57 = 0) ∧ (∀ q, q < K 0 3 → bC K (j' 63) q) ∧ j' 63 54 = nI (K 1 2) ∧ j' 63 55 = 0 := by
  have hm := hK.1
  intro n
  induction n with
  | zero => intro p j1 h1 h2; omega
  | succ n ih =>
    intro p j1 h1 h2 g1 g2 g3 g4 g5
    have hb := nb_le9 (K := K) (n := p)
    rw [fX12_text_327, g2 26 (by decide), h26]
    by_cases h3 : p = K 0 3
    · rw [h3] at g3 g4 g5
      rw [if_pos (nI_le (by omega) (by omega)), if_pos (show aIn 2 4 = true by decide), if_pos (show aIn 54 296 = true by decide), mz_lt, mz_lt, mz_lt, mz_lt, mz_lt, show (54 : Int32).toNatClampNeg = 54 from by decide, show (2 : Int32).toNatClampNeg = 2 from by decide, g1 55 (by decide), h55]
      refine ⟨_, by rw [u2n _ _ _ _ _ (by omega), u2n _ _ _ _ _ (by omega), u2n _ _ _ _ _ (by omega), u2n _ _ _ _ _ (by omega), u2r _ _ _ _ _ (by omega), g2 26 (by decide), h26], Fr_t g1 (Fr_t (Fr_w (by decide) Fr_u) (Fr_t (Fr_w (by decide) Fr_u) (Fr_t (Fr_w (by decide) Fr_u) (Fr_t (Fr_w (by decide) Fr_u) (Fr_w (by decide) Fr_u))))), ?_, ?_, ⟨?_, ?_, ?_, u2e _ _ _ _⟩, fun q hq => ?_, ?_, ?_⟩
      · intro k hk
        simp at hk
        rw [u2n _ _ _ _ _ (by omega), u2n _ _ _ _ _ (by omega), u2n _ _ _ _ _ (by omega), u2n _ _ _ _ _ (by omega), u2r _ _ _ _ _ (by omega)]
        exact g2 k (by simp; omega)
      · rw [u2n _ _ _ _ _ (by omega), u2n _ _ _ _ _ (by omega), u2n _ _ _ _ _ (by omega), u2n _ _ _ _ _ (by omega), u2r _ _ _ _ _ (by omega)]
        exact g3
      · rw [u2n _ _ _ _ _ (by omega), u2e]
      · rw [u2n _ _ _ _ _ (by omega), u2n _ _ _ _ _ (by omega), u2n _ _ _ _ _ (by omega), u2e]
      · rw [u2n _ _ _ _ _ (by omega), u2n _ _ _ _ _ (by omega), u2e]
      · rw [u2r _ _ _ _ _ (by omega), u2r _ _ _ _ _ (by omega), u2r _ _ _ _ _ (by omega), u2r _ _ _ _ _ (by omega)]
        obtain ⟨c1, c2, c3, c4, c5, c6⟩ := g4 q hq
        exact ⟨by rw [u2n _ _ _ _ _ (by omega)]; exact c1, by rw [u2n _ _ _ _ _ (by omega)]; exact c2, by rw [u2n _ _ _ _ _ (by omega)]; exact c3, by rw [u2n _ _ _ _ _ (by omega)]; exact c4, by rw [u2n _ _ _ _ _ (by omega)]; exact c5, by rw [u2n _ _ _ _ _ (by omega)]; exact c6⟩
      · rw [u2r _ _ _ _ _ (by omega), u2r _ _ _ _ _ (by omega), u2r _ _ _ _ _ (by omega), u2r _ _ _ _ _ (by omega), u2e]
      · rw [u2r _ _ _ _ _ (by omega), u2r _ _ _ _ _ (by omega), u2r _ _ _ _ _ (by omega), u2r _ _ _ _ _ (by omega), u2n _ _ _ _ _ (by omega)]
        exact g5 55 (by omega) (by omega)
    · have hpl : p < K 0 3 := by omega
      have s1 := hK.2.2.2.2.2.2.2.2.2.2.1 p hpl
      have x0 : (6 : Int32) * nI p + 0 = nI (6 * p) := by rw [q6, mz_mul, Int32.add_zero]
      have x1 : (6 : Int32) * nI p + 1 = nI (6 * p + 1) := by rw [q6, q1, mz_mul, nI_add]
      have x3 : (6 : Int32) * nI p + 3 = nI (6 * p + 3) := by rw [q6, q3, mz_mul, nI_add]
      have x5 : (6 : Int32) * nI p + 5 = nI (6 * p + 5) := by rw [q6, q5, mz_mul, nI_add]
      have hx : nI (nb K p) + (1 - nI (sv K p 5)) = nI (nb K (p + 1)) := by
        rw [nb_s, q1]
        rcases (show sv K p 5 = 0 ∨ sv K p 5 = 1 by omega) with e | e
        · rw [e, if_pos rfl, mz_sub (by omega), nI_add]
        · rw [e, if_neg (by omega), mz_sub (by omega), nI_add]
      have step : ∀ v : Int32, fX12_text_380 (fX12_text_327 n) (nI p) (nI (6 * p + 1)) v (u2 j1 63 (6 * p) (nI p)) rv = fX12_text_327 n (nI (p + 1)) (u2 (u2 (u2 (u2 j1 63 (6 * p) (nI p)) 63 (6 * p + 1) v) 50 28 (nI (nb K (p + 1)))) 63 (6 * p + 3) 1) rv := by
        intro v
        unfold fX12_text_380
        rw [if_pos (mz_in (by omega) (by omega)), mz_lt, x5, if_pos (mz_in (by omega) (by omega)), mz_lt, x3, if_pos (mz_in (by omega) (by omega)), mz_lt, nI_clamp (by omega), nI_clamp (by omega), nI_clamp (by omega), u2r _ _ _ _ _ (show (57 : Nat) ≠ 63 by omega), u2r _ _ _ _ _ (show (57 : Nat) ≠ 63 by omega), g1 57 (by decide), h57 p hpl, u2r _ _ _ _ _ (show (50 : Nat) ≠ 63 by omega), u2r _ _ _ _ _ (show (50 : Nat) ≠ 63 by omega), g3, hx, nI_1]
      have go : ∀ v : Int32, v = (if sv K p 5 = 1 then NN else nI (nb K p)) → ∃ j', fX12_text_327 n (nI (p + 1)) (u2 (u2 (u2 (u2 j1 63 (6 * p) (nI p)) 63 (6 * p + 1) v) 50 28 (nI (nb K (p + 1)))) 63 (6 * p + 3) 1) rv = some (nI (K 0 3), j', rv) ∧ Fr [50, 63] j j' ∧ F5 [28, 42, 49, 52, 57] j j' ∧ j' 50 28 = nI (nb K (K 0 3)) ∧ (j' 50 42 = 0 ∧ j' 50 49 = 0 ∧ j' 50 52 = 0 ∧ j' 50 57 = 0) ∧ (∀ q, q < K 0 3 → bC K (j' 63) q) ∧ j' 63 54 = nI (K 1 2) ∧ j' 63 55 = 0 := by
        intro v hv
        have cell : ∀ z, z ≠ 6 * p → z ≠ 6 * p + 1 → z ≠ 6 * p + 3 → (u2 (u2 (u2 (u2 j1 63 (6 * p) (nI p)) 63 (6 * p + 1) v) 50 28 (nI (nb K (p + 1)))) 63 (6 * p + 3) 1) 63 z = j1 63 z := fun z y0 y1 y3 => by rw [u2n _ _ _ _ _ y3, u2r _ _ _ _ _ (by omega), u2n _ _ _ _ _ y1, u2n _ _ _ _ _ y0]
        refine ih (p + 1) _ (by omega) (by omega) (Fr_t g1 (Fr_t (Fr_w (by decide) Fr_u) (Fr_t (Fr_w (by decide) Fr_u) (Fr_t (Fr_w (by decide) Fr_u) (Fr_w (by decide) Fr_u))))) ?_ ?_ (fun q hq => ?_) (fun z hz hz2 => ?_)
        · intro k hk
          simp at hk
          rw [u2r _ _ _ _ _ (by omega), u2n _ _ _ _ _ hk, u2r _ _ _ _ _ (by omega), u2r _ _ _ _ _ (by omega)]
          exact g2 k (by simp [hk])
        · rw [u2r _ _ _ _ _ (by omega), u2e]
        · by_cases e : q = p
          · rw [e]
            refine ⟨?_, ?_, ?_, u2e _ _ _ _, ?_, ?_⟩
            · rw [u2n _ _ _ _ _ (by omega), u2r _ _ _ _ _ (by omega), u2n _ _ _ _ _ (by omega), u2e]
            · rw [u2n _ _ _ _ _ (by omega), u2r _ _ _ _ _ (by omega), u2e]; exact hv
            · rw [cell _ (by omega) (by omega) (by omega)]; exact g5 _ (by omega) (by omega)
            · rw [cell _ (by omega) (by omega) (by omega)]; exact g5 _ (by omega) (by omega)
            · rw [cell _ (by omega) (by omega) (by omega)]; exact g5 _ (by omega) (by omega)
          · obtain ⟨c1, c2, c3, c4, c5, c6⟩ := g4 q (by omega)
            exact ⟨by rw [cell _ (by omega) (by omega) (by omega)]; exact c1, by rw [cell _ (by omega) (by omega) (by omega)]; exact c2, by rw [cell _ (by omega) (by omega) (by omega)]; exact c3, by rw [cell _ (by omega) (by omega) (by omega)]; exact c4, by rw [cell _ (by omega) (by omega) (by omega)]; exact c5, by rw [cell _ (by omega) (by omega) (by omega)]; exact c6⟩
        · rw [cell _ (by omega) (by omega) (by omega)]; exact g5 _ (by omega) hz2
      rw [if_neg (nI_ge (by omega) (by omega)), x0, if_pos (mz_in (by omega) (by omega)), mz_lt, x5, x1, if_pos (mz_in (by omega) (by omega)), nI_clamp (by omega), nI_clamp (by omega), u2r _ _ _ _ _ (show (57 : Nat) ≠ 63 by omega), g1 57 (by decide), h57 p hpl, u2r _ _ _ _ _ (show (50 : Nat) ≠ 63 by omega), g3, step, step]
      by_cases e : sv K p 5 = 1
      · rw [if_pos (show nI (sv K p 5) = 1 by rw [e]; rfl)]
        exact go _ (by rw [if_pos e]; rfl)
      · rw [if_neg (show ¬ nI (sv K p 5) = 1 by rw [q1, nI_eq (by omega) (by omega)]; exact e)]
        exact go _ (by rw [if_neg e])
end QM
