/-! image, back -/
section IM
variable {i i' i1 i2 i3 j j' j1 j2 : Tb} {rv rv' rv2 : Nat → Nat → Option Nat} {W : Option ((Nat → Nat) → Int)} {K g : Nat → Nat → Nat} {σ τ σ' ρ : Nat → Nat} {q p o k b b' t w w0 v n r z c s re x ac nx B B' kd : Nat} {l l5 : List Nat} {d d' : Nat → Int32} {us : Nat → Nat → Nat} {a1 a2 y : Int32}
theorem LgM_400 {u : Nat → Int32} (h : LgM d n u) (hd : ∀ k, k < 400 → d' k = d k) : LgM d' n u := LgM_d h (fun e c _ _ hc => hd _ (by have : e % 100 < 100 := Nat.mod_lt _ (by omega); omega))
theorem C_keepImage : fX6_keepImage 19 i = some (u2 (cp2 (cp2 i (i 20) 0 28 0 56) (i 27) 0 29 0 400) 25 6 1) := by
  unfold fX6_keepImage fX8_copyTo
  simp (disch := omega) only [q56, q0, mz_mul, nI_clamp, mz_ltp, Nat.not_lt_zero, not_false_eq_true, true_and, Nat.zero_mul]
  rw [if_pos (by omega), mz_lt, mz_b1, if_pos (by omega), mz_lt, mz_lt, cp2r _ _ _ _ _ _ _ (show 27 ≠ 28 by omega)]
theorem C_restore (h : i 25 6 = nI 1) : fX6_restoreImage 19 i = some (1, u2 (cp2 (cp2 i (i 28) 0 20 0 56) (i 29) 0 27 0 400) 25 5 0) := by
  have e := C_back (i := i) (x := 0) (n := 56) (by omega) (by omega) 28
  unfold fX6_restoreImage
  rw [h, if_neg (by decide), q0, e, mz_b1]
  simp (disch := omega) only [q0, nI_clamp, mz_ltp, Nat.not_lt_zero, not_false_eq_true, true_and, Nat.zero_mul]
  rw [if_pos (by omega), mz_lt, mz_lt, cp2r _ _ _ _ _ _ _ (show 29 ≠ 20 by omega)]
/-- 42: image -/
theorem R_image (hK : OkK K) (h : SI K W b σ i j rv) : ∃ v i' j', fX11_image i = some (v, i') ∧ fX12_image j = some (v, j') ∧ SI K W b σ i' j' rv ∧ Fr [25, 28, 29] i i' ∧ Fr [50, 72] j j' ∧ F5 [0, 57] j j' := by
  have hm := hK.1
  have hw0 := WM_0 (v' := 0) (SI_WM h)
  obtain ⟨hw, h1, h2, h3, h4, h6, ⟨ac, nx, us, h7⟩, h8⟩ := h
  unfold fX11_image fX12_image fX11_noCar fX1_sleepers
  simp only [mz_lt]
  rw [hw.1.1, mz_b1, u2n _ _ _ _ _ (show 26 ≠ 0 by omega), h2.1]
  by_cases h0 : K 0 3 = 0
  · rw [if_pos (show nI (K 0 3) = 0 by rw [h0]; rfl), if_pos (show nI (K 0 3) = 0 by rw [h0]; rfl), mz_b1, if_neg (by decide)]
    exact ⟨_, _, _, rfl, rfl, SI_f (l := []) (l5 := [50]) ⟨hw, h1, h2, h3, h4, h6, ⟨ac, nx, us, h7⟩, h8⟩ (fun q k _ _ => rfl) (by simp) Fr_u (F5_w (by decide) F5_u) (by decide), Fr_r _ _, Fr_w (by decide) Fr_u, F5_w (by decide) F5_u⟩
  · have hne : ¬ nI (K 0 3) = 0 := by rw [q0, nI_eq (by omega) (by omega)]; exact h0
    rw [if_neg hne, if_neg hne, mz_b1, if_pos rfl, C_keepImage, mz_b1]
    generalize hi2 : u2 (cp2 (cp2 i (i 20) 0 28 0 56) (i 27) 0 29 0 400) 25 6 1 = i2
    have r2 : ∀ q, q ≠ 25 → q ≠ 28 → q ≠ 29 → i2 q = i q := fun q a c d => by rw [← hi2, u2r _ _ _ _ _ a, cp2r _ _ _ _ _ _ _ d, cp2r _ _ _ _ _ _ _ c]
    have e28 : ∀ c, c < 56 → i2 28 c = i 20 c := fun c hc => by
      rw [← hi2, u2r _ _ _ _ _ (by omega), cp2r _ _ _ _ _ _ _ (by omega), cp2s, pk_cpy_in (by omega) (by omega)]
      congr 1
      omega
    have e29 : ∀ c, c < 400 → i2 29 c = i 27 c := fun c hc => by
      rw [← hi2, u2r _ _ _ _ _ (by omega), cp2s, pk_cpy_in (by omega) (by omega)]
      congr 1
      omega
    have e25 : ∀ k, k ≠ 6 → i2 25 k = i 25 k := fun k hk => by rw [← hi2, u2n _ _ _ _ _ hk, cp2r _ _ _ _ _ _ _ (by omega), cp2r _ _ _ _ _ _ _ (by omega)]
    have e256 : i2 25 6 = nI 1 := by rw [← hi2, u2e]; rfl
    have es : ScC σ (i2 20) := by rw [r2 20 (by omega) (by omega) (by omega)]; exact hw.2.1
    obtain ⟨j1, k1, k2, k3⟩ := m_copy (j := u2 j 50 0 0) (w0 := 63) (w := 72) (x := min 60 (σ 55)) (by omega) (by omega) (by rw [u2r _ _ _ _ _ (by omega)]; exact h6.1)
    rw [k1, mz_b1, s_asleepInAll (q := 19) es, mz_b1]
    have f1 : Fr [50, 72] j (u2 j1 50 57 1) := Fr_t (Fr_w (by decide) Fr_u) (Fr_t (Fr_w (by decide) k2) (Fr_w (by decide) Fr_u))
    have f2 : F5 [0, 57] j (u2 j1 50 57 1) := by
      intro k hk
      simp only [List.mem_cons, List.mem_nil_iff, or_false] at hk
      rw [u2n _ _ _ _ _ (by omega), k2 50 (by decide), u2n _ _ _ _ _ (by omega)]
    have hc : CarM K (u2 j1 50 57 1) := CarM_f h2 f1 f2 (by decide) (by decide) (by decide) (by decide) (by decide) (by decide)
    have e63 : u2 j1 50 57 1 63 = j 63 := f1 63 (by decide)
    have e72 : ∀ k, k < 56 + 4 * min 60 (σ 55) → u2 j1 50 57 1 72 k = j 63 k := fun k hk => by rw [u2r _ _ _ _ _ (by omega), k3 k hk, u2r _ _ _ _ _ (by omega)]
    rw [m_asleepIn hc hK h1 (by rw [e63]; exact h3) (by omega) (by omega), mz_b1]
    refine ⟨_, _, _, rfl, rfl, ⟨⟨CarC_f hw.1 (fun q a c => r2 q (by omega) (by omega) (by omega)), es, FrL_law (l := [25, 28, 29]) hw.2.2 (FrL_f (fun q hq => r2 q (fun e => hq (by simp [e])) (fun e => hq (by simp [e])) (fun e => hq (by simp [e])))) (by decide)⟩, h1, hc, by rw [e63]; exact h3, LawM_f h4 f1 f2 (by decide) (by decide) (by decide), by rw [e63, r2 27 (by omega) (by omega) (by omega)]; exact h6, ⟨ac, nx, us, UnR_f h7 (Nat.le_refl _) (e25 5 (by omega)) (e25 4 (by omega)) (fun r c _ _ _ => by rw [r2 26 (by omega) (by omega) (by omega)]) (r2 27 (by omega) (by omega) (by omega)) (f2 _ (by decide)) (f1 _ (by decide))⟩, Or.inr ⟨e256, by rw [u2e]; rfl, σ, h1, fun c hc => by rw [e28 c hc]; exact hw.2.1 c hc, ScM_e hK h1 h3 (fun k hk => e72 k (by omega)), ?_⟩⟩, fun q hq => r2 q (fun e => hq (by simp [e])) (fun e => hq (by simp [e])) (fun e => hq (by simp [e])), f1, f2⟩
    exact LgM_e (LgM_400 h6 e29) (fun k _ hk => e72 k hk)
/-- 43: back -/
theorem R_back (hK : OkK K) (h : SI K W b σ i j rv) : ∃ v i' j' σ', fX11_back i = some (v, i') ∧ fX12_back j = some (v, j') ∧ SI K W b σ' i' j' rv ∧ Fr [20, 25, 27] i i' ∧ Fr [50, 63] j j' ∧ F5 [0, 42] j j' := by
  have hm := hK.1
  have hw0 := WM_0 (v' := 0) (SI_WM h)
  have hS := h
  obtain ⟨hw, h1, h2, h3, h4, h6, ⟨ac, nx, us, h7⟩, h8⟩ := h
  unfold fX11_back fX12_back
  simp only [mz_lt]
  rw [u2n _ _ _ _ _ (show 57 ≠ 0 by omega)]
  rcases h8 with ⟨e1, e2⟩ | ⟨e1, e2, ρ, p1, p2, p3, p4⟩
  · unfold fX6_restoreImage
    rw [e1, e2, if_pos (show nI 0 = 0 from rfl), if_pos (show nI 0 = 0 from rfl)]
    exact ⟨_, _, _, σ, rfl, rfl, SI_f (l := []) (l5 := [50]) hS (fun q k _ _ => rfl) (by simp) Fr_u (F5_w (by decide) F5_u) (by decide), Fr_r _ _, Fr_w (by decide) Fr_u, F5_w (by decide) F5_u⟩
  · rw [C_restore e1, mz_b2, if_neg (by decide), e2, if_neg (by decide)]
    generalize hi2 : u2 (cp2 (cp2 i (i 28) 0 20 0 56) (i 29) 0 27 0 400) 25 5 0 = i2
    have r2 : ∀ q, q ≠ 25 → q ≠ 20 → q ≠ 27 → i2 q = i q := fun q a c d => by rw [← hi2, u2r _ _ _ _ _ a, cp2r _ _ _ _ _ _ _ d, cp2r _ _ _ _ _ _ _ c]
    have e20 : ∀ c, c < 56 → i2 20 c = i 28 c := fun c hc => by
      rw [← hi2, u2r _ _ _ _ _ (by omega), cp2r _ _ _ _ _ _ _ (by omega), cp2s, pk_cpy_in (by omega) (by omega)]
      congr 1
      omega
    have e27 : ∀ c, c < 400 → i2 27 c = i 29 c := fun c hc => by
      rw [← hi2, u2r _ _ _ _ _ (by omega), cp2s, pk_cpy_in (by omega) (by omega)]
      congr 1
      omega
    have e25 : ∀ k, k ≠ 5 → i2 25 k = i 25 k := fun k hk => by rw [← hi2, u2n _ _ _ _ _ hk, cp2r _ _ _ _ _ _ _ (by omega), cp2r _ _ _ _ _ _ _ (by omega)]
    have e255 : i2 25 5 = nI 0 := by rw [← hi2, u2e]; rfl
    have es : ScC ρ (i2 20) := fun c hc => by rw [e20 c hc]; exact p2 c hc
    obtain ⟨j1, k1, k2, k3⟩ := m_copy (j := u2 j 50 0 0) (w0 := 72) (w := 63) (x := min 60 (ρ 55)) (by omega) (by omega) (by rw [u2r _ _ _ _ _ (by omega)]; exact p4.1)
    rw [k1, mz_b1, s_asleepInAll (q := 19) es, mz_b1]
    have f1 : Fr [50, 63] j (u2 j1 50 42 0) := Fr_t (Fr_w (by decide) Fr_u) (Fr_t (Fr_w (by decide) k2) (Fr_w (by decide) Fr_u))
    have f2 : F5 [0, 42] j (u2 j1 50 42 0) := by
      intro k hk
      simp only [List.mem_cons, List.mem_nil_iff, or_false] at hk
      rw [u2n _ _ _ _ _ (by omega), k2 50 (by decide), u2n _ _ _ _ _ (by omega)]
    have hc : CarM K (u2 j1 50 42 0) := CarM_f h2 f1 f2 (by decide) (by decide) (by decide) (by decide) (by decide) (by decide)
    have e63 : ∀ k, k < 56 + 4 * min 60 (ρ 55) → u2 j1 50 42 0 63 k = j 72 k := fun k hk => by rw [u2r _ _ _ _ _ (by omega), k3 k hk, u2r _ _ _ _ _ (by omega)]
    have hs3 : ScM K ρ (u2 j1 50 42 0 63) := ScM_e hK p1 p3 (fun k hk => e63 k (by omega))
    rw [m_asleepIn hc hK p1 hs3 (by omega) (by omega), mz_b1]
    refine ⟨_, _, _, ρ, rfl, rfl, ⟨⟨CarC_f hw.1 (fun q a c => r2 q (by omega) (by omega) (by omega)), es, FrL_law (l := [20, 25, 27]) hw.2.2 (FrL_f (fun q hq => r2 q (fun e => hq (by simp [e])) (fun e => hq (by simp [e])) (fun e => hq (by simp [e])))) (by decide)⟩, p1, hc, hs3, LawM_f h4 f1 f2 (by decide) (by decide) (by decide), LgM_e (LgM_400 p4 e27) (fun k _ hk => e63 k hk), ⟨0, nx, us, ⟨by omega, h7.2.1, e255, by rw [e25 4 (by omega)]; exact h7.2.2.2.1, by rw [u2e]; rfl, fun x hx => by omega⟩⟩, Or.inr ⟨by rw [e25 6 (by omega)]; exact e1, by rw [f2 57 (by decide)]; exact e2, ρ, p1, by rw [r2 28 (by omega) (by omega) (by omega)]; exact p2, by rw [f1 72 (by decide)]; exact p3, by rw [r2 29 (by omega) (by omega) (by omega), f1 72 (by decide)]; exact p4⟩⟩, fun q hq => r2 q (fun e => hq (by simp [e])) (fun e => hq (by simp [e])) (fun e => hq (by simp [e])), f1, f2⟩
end IM
