/-! text: laws and lines that are kept -/
section QT
variable {i i' i1 i2 i3 j j' j1 J X X' : Tb} {rv rv' rv2 rv3 : Nat → Nat → Option Nat} {W W' : Option ((Nat → Nat) → Int)} {K g g' D : Nat → Nat → Nat} {σ σ' T T' la li : Nat → Nat} {c n b b' L L' dr m m' q k x a r ld ln : Nat} {cls : List CL} {ss : List SP}
theorem nar_bS (t : Nat) : vp_nar .byte (bS t) = bS t := by
  unfold bS
  rw [vp_nar_byte, Int8.toInt8_toInt32]
/-- the model keeps a law's text -/
theorem m_keepL (hT : OkT T L) (hm : m < 4) (h7 : j 50 7 = nI m) (h51 : ∀ k, k < L → j 51 k = bS (T k)) : ∀ n k j1, k ≤ L → L - k < n → Fr [52] j j1 → (∀ z, z < 240 * m → j1 52 z = j 52 z) → (∀ z, z < k → j1 52 (240 * m + z) = bS (T z)) →
    ∃ j', fX12_text_71 n (nI L) (nI k) j1 rv = some (nI m, j', rv) ∧ Fr [50, 52, 53] j j' ∧ F5 [7] j j' ∧ j' 50 7 = nI (m + 1) ∧ j' 53 m = nI L ∧ (∀ z, z ≠ m → j' 53 z = j 53 z) ∧ (∀ z, z < 240 * m → j' 52 z = j 52 z) ∧ (∀ z, z < L → j' 52 (240 * m + z) = bS (T z)) := by
  have hL := hT.1
  intro n
  induction n with
  | zero => intro k j1 h1 h2; omega
  | succ n ih =>
    intro k j1 h1 h2 g1 g2 g3
    rw [fX12_text_71, g1 50 (by decide), h7]
    by_cases h3 : k = L
    · rw [h3] at g3
      rw [if_pos (nI_le (by omega) (by omega)), if_pos (mz_in hm (by omega)), mz_lt, nI_clamp (by omega), mz_lt, u2r _ _ _ _ _ (show (50 : Nat) ≠ 53 by omega), g1 50 (by decide), h7, q1, nI_add, u2e, mz_sub (by omega), show m + 1 - 1 = m by omega]
      refine ⟨_, rfl, Fr_t (Fr_w (by decide) g1) (Fr_t (Fr_w (by decide) Fr_u) (Fr_w (by decide) Fr_u)), fun k hk => ?_, u2e _ _ _ _, by rw [u2r _ _ _ _ _ (by omega), u2e], fun z hz => by rw [u2r _ _ _ _ _ (by omega), u2n _ _ _ _ _ hz, g1 53 (by decide)], fun z hz => by rw [u2r _ _ _ _ _ (by omega), u2r _ _ _ _ _ (by omega)]; exact g2 z hz, fun z hz => by rw [u2r _ _ _ _ _ (by omega), u2r _ _ _ _ _ (by omega)]; exact g3 z hz⟩
      simp at hk
      rw [u2n _ _ _ _ _ hk, u2r _ _ _ _ _ (by omega), g1 50 (by decide)]
    · rw [if_neg (nI_ge (by omega) (by omega)), if_pos (mz_in (by omega) (by omega)), q240, mz_mul, nI_add, if_pos (mz_in (by omega) (by omega)), mz_lt, nI_clamp (by omega), nI_clamp (by omega), g1 51 (by decide), h51 k (by omega), nar_bS, nI_1]
      refine ih (k + 1) _ (by omega) (by omega) (Fr_t g1 Fr_u) (fun z hz => ?_) (fun z hz => ?_)
      · rw [u2n _ _ _ _ _ (by omega)]; exact g2 z hz
      · by_cases e : z = k
        · rw [e, u2e]
        · rw [u2n _ _ _ _ _ (by omega)]; exact g3 z (by omega)
/-- the model keeps lines -/
theorem m_keepS (hm : m' < 4) (h31 : j 50 31 = nI m') : ∀ n k j1, k ≤ 48 → 48 - k < n → Fr [61] j j1 → (∀ z, (z < 48 * m' ∨ 192 ≤ z) → j1 61 z = j 61 z) → (∀ z, z < k → j1 61 (48 * m' + z) = j 61 (192 + z)) →
    ∃ j', fX12_text_137 n (nI k) j1 rv = some (nI m', j', rv) ∧ Fr [50, 61, 62] j j' ∧ F5 [31] j j' ∧ j' 50 31 = nI (m' + 1) ∧ j' 62 m' = j 62 4 ∧ (∀ z, z ≠ m' → j' 62 z = j 62 z) ∧ (∀ z, z < 48 * m' → j' 61 z = j 61 z) ∧ (∀ z, z < 48 → j' 61 (48 * m' + z) = j 61 (192 + z)) := by
  intro n
  induction n with
  | zero => intro k j1 h1 h2; omega
  | succ n ih =>
    intro k j1 h1 h2 g1 g2 g3
    have e48 : (48 : Int32) = nI 48 := rfl
    have e192 : (192 : Int32) = nI 192 := rfl
    rw [fX12_text_137, g1 50 (by decide), h31, e48, e192]
    by_cases h3 : k = 48
    · rw [h3] at g3
      rw [if_pos (nI_le (by omega) (by omega)), if_pos (show aIn 4 5 = true by decide), if_pos (mz_in (by omega) (by omega)), mz_lt, nI_clamp (by omega), mz_lt, u2r _ _ _ _ _ (show (50 : Nat) ≠ 62 by omega), g1 50 (by decide), h31, q1, nI_add, u2e, mz_sub (by omega), show m' + 1 - 1 = m' by omega, show (4 : Int32).toNatClampNeg = 4 from by decide, g1 62 (by decide)]
      refine ⟨_, rfl, Fr_t (Fr_w (by decide) g1) (Fr_t (Fr_w (by decide) Fr_u) (Fr_w (by decide) Fr_u)), fun k hk => ?_, u2e _ _ _ _, by rw [u2r _ _ _ _ _ (by omega), u2e], fun z hz => by rw [u2r _ _ _ _ _ (by omega), u2n _ _ _ _ _ hz, g1 62 (by decide)], fun z hz => by rw [u2r _ _ _ _ _ (by omega), u2r _ _ _ _ _ (by omega)]; exact g2 z (by omega), fun z hz => by rw [u2r _ _ _ _ _ (by omega), u2r _ _ _ _ _ (by omega)]; exact g3 z hz⟩
      simp at hk
      rw [u2n _ _ _ _ _ hk, u2r _ _ _ _ _ (by omega), g1 50 (by decide)]
    · rw [if_neg (nI_ge (by omega) (by omega)), nI_add, if_pos (mz_in (by omega) (by omega)), mz_mul, nI_add, if_pos (mz_in (by omega) (by omega)), mz_lt, nI_clamp (by omega), nI_clamp (by omega), g2 _ (by omega), nI_1]
      refine ih (k + 1) _ (by omega) (by omega) (Fr_t g1 Fr_u) (fun z hz => ?_) (fun z hz => ?_)
      · rw [u2n _ _ _ _ _ (by omega)]; exact g2 z hz
      · by_cases e : z = k
        · rw [e, u2e]
        · rw [u2n _ _ _ _ _ (by omega)]; exact g3 z (by omega)
/-- a failed reading -/
theorem t_fail {a1 : Int32} {v0 : Int32} (h : Inv c n i rv) (hin : fX12_isIn a1.toInt64 0 2 = some 1) (hf : fX12_fault a1 (u2 i 50 0 0) rv = some (v0, j', rv2)) (hv : ¬ v0 = -1) (hI : Inv (c + 1) n j' rv2) (hr : RvT rv rv2) : ∃ j2 rv3, fX12_text a1 i rv = some (-1, j2, rv3) ∧ RvT rv rv3 ∧ Inv (c + 1) n j2 rv3 := by
  have t43 : fX12_text_43 a1 (u2 i 50 0 0) rv = some (-1, j', rv2) := by
    unfold fX12_text_43
    rw [hf, mz_b3, if_neg hv]
  have t30 : ∃ j2 rv3, fX12_text_30 a1 (u2 i 50 0 0) rv = some (-1, j2, rv3) ∧ RvT rv rv3 ∧ Inv (c + 1) n j2 rv3 := by
    unfold fX12_text_30
    rw [t43]
    by_cases e : a1 = 2
    · rw [if_pos e]
      by_cases e2 : u2 i 50 0 0 50 31 = 4
      · rw [if_pos e2]; exact ⟨_, _, rfl, Or.inl rfl, Inv_up (Inv_0 h)⟩
      · rw [if_neg e2]; exact ⟨_, _, rfl, hr, hI⟩
    · rw [if_neg e]; exact ⟨_, _, rfl, hr, hI⟩
  unfold fX12_text
  rw [mz_lt, hin, mz_b1, if_neg (show ¬ (1 : Int32) = 0 by decide)]
  by_cases e : a1 = 1
  · rw [if_pos e]
    by_cases e2 : u2 i 50 0 0 50 7 = 4
    · rw [if_pos e2]; exact ⟨_, _, rfl, Or.inl rfl, Inv_up (Inv_0 h)⟩
    · rw [if_neg e2]; exact t30
  · rw [if_neg e]; exact t30
end QT
