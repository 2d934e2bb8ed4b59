/-! undo, image, back -/
section UD
variable {i i' i1 i2 i3 j j' j1 j2 : Tb} {rv rv' rv2 : Nat → Nat → Option Nat} {W : Option ((Nat → Nat) → Int)} {K g : Nat → Nat → Nat} {σ τ σ' : Nat → Nat} {q p o k b b' t w w0 v n r z c s re x ac nx B B' kd : Nat} {l l5 : List Nat} {d d' : Nat → Int32} {us : Nat → Nat → Nat} {a1 a2 y : Int32}
theorem m_undo_l (ha : ac < 40) (h42 : j 50 42 = nI ac) : ∀ n k j', k ≤ 296 → 296 - k < n → Fr [63] j j' → (∀ c, c < k → j' 63 c = j 65 (296 * ac + c)) → ∃ j'', fX12_undo_26 n (nI k) j' = some (nI ac, j'') ∧ Fr [63] j j'' ∧ (∀ c, c < 296 → j'' 63 c = j 65 (296 * ac + c)) := by
  intro n
  induction n with
  | zero => intro k j' h1 h2; omega
  | succ n ih =>
    intro k j' h1 h2 hf c1
    have e42 : j' 50 42 = nI ac := by rw [hf 50 (by decide)]; exact h42
    rw [fX12_undo_26]
    by_cases h3 : k = 296
    · have hh : (296 : Int32) ≤ nI k := by rw [q296]; exact nI_le (by omega) (by omega)
      rw [if_pos hh, e42]
      exact ⟨j', rfl, hf, fun c hc => c1 c (by omega)⟩
    · have hh : ¬ (296 : Int32) ≤ nI k := by rw [q296]; exact nI_ge (by omega) (by omega)
      have e1 : (296 : Int32) * nI ac + nI k = nI (296 * ac + k) := by rw [q296, mz_mul, nI_add]
      rw [if_neg hh, e42, e1, if_pos (mz_in (by omega) (by omega)), if_pos (mz_in (by omega) (by omega)), mz_lt, nI_clamp (by omega), nI_clamp (by omega), nI_1]
      refine ih (k + 1) _ (by omega) (by omega) (Fr_t hf Fr_u) (fun c hc => ?_)
      by_cases e : c = k
      · subst e
        rw [u2e, hf 65 (by decide)]
      · rw [u2n _ _ _ _ _ (by omega)]
        exact c1 c (by omega)
theorem C_back {x : Nat} (hx : x * 56 + 56 ≤ n) (hn : n < 100000) (w1 : Nat) : fX8_copyBack 19 w1 n (nI x) i = some (cp2 i (i w1) (x * 56) 20 0 56) := by
  unfold fX8_copyBack
  simp (disch := omega) only [q56, q0, mz_mul, nI_clamp, mz_ltp, Nat.not_lt_zero, not_false_eq_true, true_and]
  rw [if_pos (by omega)]
  rfl
/-- 16: undo -/
theorem R_undo (hK : OkK K) (h : SI K W b σ i j rv) : ∃ v i' j' σ', fX11_undo i = some (v, i') ∧ fX12_undo j = some (v, j') ∧ SI K W b σ' i' j' rv ∧ FrL [20, 23, 24, 25, 26, 27] rv i i' ∧ Fr [50, 54, 63, 65] j j' ∧ F5 (0 :: 42 :: l41) j j' := by
  obtain ⟨ac, nx, us, h7⟩ := h.2.2.2.2.2.2.1
  have e42 : j 50 42 = nI ac := h7.2.2.2.2.1
  have ha := h7.1
  have hn := h7.2.1
  unfold fX11_undo fX12_undo fX6_takeBack fX6_acts
  obtain ⟨fu, hfu, hfu2⟩ := fuel_g
  rw [hfu]
  simp only [mz_lt]
  rw [u2n _ _ _ _ _ (show 42 ≠ 0 by omega), e42, h7.2.2.1, h7.2.2.2.1]
  by_cases h0 : ac = 0
  · rw [if_pos (by rw [h0]; rfl), if_pos (by rw [h0]; rfl)]
    refine ⟨_, _, _, σ, rfl, rfl, SI_f (l := []) (l5 := [50]) h (fun q k _ _ => rfl) (by simp) Fr_u (F5_w (by decide) F5_u) (by decide), FrL_f (Fr_r _ _), Fr_w (by decide) Fr_u, F5_w (by decide) F5_u⟩
  · have hne : ¬ nI ac = 0 := by rw [q0, nI_eq (by omega) (by omega)]; exact h0
    have e1 : nI nx + 41 - 1 - (nI nx + 41 - 1) / 41 * 41 = nI ((nx + 40) % 41) := by
      rw [show nI nx + 41 - 1 = nI (nx + 40) from by rw [q41, nI_add, q1, mz_sub (by omega)]; rfl]
      exact mz_rem (a := nx + 40) (b := 41) (by omega) (by omega)
    have e2 : nI ac - 1 = nI (ac - 1) := by rw [q1, mz_sub (by omega)]
    rw [if_neg hne, if_neg hne, e1, u2n _ _ _ _ _ (show 5 ≠ 4 by omega), h7.2.2.1, e2]
    generalize hi2 : u2 (u2 i 25 4 (nI ((nx + 40) % 41))) 25 5 (nI (ac - 1)) = i2
    have r2 : ∀ q, q ≠ 25 → i2 q = i q := fun q hq => by rw [← hi2, u2r _ _ _ _ _ hq, u2r _ _ _ _ _ hq]
    have e4 : i2 25 4 = nI ((nx + 40) % 41) := by rw [← hi2, u2n _ _ _ _ _ (by omega), u2e]
    have e5 : i2 25 5 = nI (ac - 1) := by rw [← hi2, u2e]
    have e6 : i2 25 6 = i 25 6 := by rw [← hi2, u2n _ _ _ _ _ (by omega), u2n _ _ _ _ _ (by omega)]
    rw [e4, C_back (by omega) (by omega) 26, mz_b1, mz_b2, if_neg (by decide), mz_b1]
    generalize hi3 : cp2 i2 (i2 26) ((nx + 40) % 41 * 56) 20 0 56 = i3
    have r3 : ∀ q, q ≠ 20 → i3 q = i2 q := fun q hq => by rw [← hi3]; exact cp2r _ _ _ _ _ _ _ hq
    obtain ⟨j2, k1, k2, k3⟩ := m_undo_l (ac := ac - 1) (j := u2 (u2 j 50 0 0) 50 42 (nI (ac - 1))) (by omega) (u2e _ _ _ _) fu 0 _ (by omega) (by omega) (Fr_r _ _) (fun c hc => by omega)
    rw [q0] at k1 k2 k3 ⊢
    rw [k1, r3 25 (by omega), e5]
    have f1 : Fr [50, 54, 63, 65] j j2 := Fr_t (Fr_w (by decide) Fr_u) (Fr_t (Fr_w (by decide) Fr_u) (Fr_w (by decide) k2))
    have f2 : F5 (0 :: 42 :: l41) j j2 := by
      intro k hk
      simp only [List.mem_cons, List.mem_nil_iff, or_false] at hk
      rw [k2 50 (by decide), u2n _ _ _ _ _ (by omega), u2n _ _ _ _ _ (by omega)]
    have f3 : FrL [20, 23, 24, 25, 26, 27] rv i i3 := FrL_f (fun q hq => by rw [r3 q (fun e => hq (by simp [e])), r2 q (fun e => hq (by simp [e]))])
    obtain ⟨g1, g2, g3, g4, g5, g6, g7⟩ := h7.2.2.2.2.2 (ac - 1) (by omega)
    have es : ScC (us (ac - 1)) (i3 20) := by
      intro c hc
      rw [← hi3, cp2s, pk_cpy_in (by omega) (by omega), r2 26 (by omega), ← g2 c hc]
      congr 1
      omega
    have e65 : j2 65 = j 65 := by rw [k2 65 (by decide), u2r _ _ _ _ _ (by omega), u2r _ _ _ _ _ (by omega)]
    have em : ∀ k, k < 296 → j2 63 k = j 65 (296 * (ac - 1) + k) := fun k hk => by rw [k3 k hk, u2r _ _ _ _ _ (by omega), u2r _ _ _ _ _ (by omega)]
    have hw := h.1
    have rr : ∀ q, q ≠ 20 → q ≠ 25 → i3 q = i q := fun q h1 h2 => by rw [r3 q h1, r2 q h2]
    refine ⟨_, _, _, us (ac - 1), rfl, rfl, ⟨⟨CarC_f hw.1 (fun q h1 h2 => rr q (by omega) (by omega)), es, FrL_law hw.2.2 f3 (by decide)⟩, g1, CarM_f h.2.2.1 f1 f2 (by decide) (by decide) (by decide) (by decide) (by decide) (by decide), ScM_e hK g1 g3 (fun k hk => em k (by omega)), LawM_f h.2.2.2.2.1 f1 f2 (by decide) (by decide) (by decide), ?_, ⟨ac - 1, (nx + 40) % 41, us, ?_⟩, ImR_f h.2.2.2.2.2.2.2 (Nat.le_refl _) (by rw [r3 25 (by omega), e6]) (rr 28 (by omega) (by omega)) (rr 29 (by omega) (by omega)) (f2 _ (by decide)) (f1 _ (by decide))⟩, f3, f1, f2⟩
    · rw [rr 27 (by omega) (by omega)]
      exact LgM_e g4 (fun k _ hk => em k (by omega))
    · refine ⟨by omega, by omega, by rw [r3 25 (by omega), e5], by rw [r3 25 (by omega), e4], by rw [k2 50 (by decide), u2e], fun x hx => ?_⟩
      obtain ⟨t1, t2, t3, t4, t5, t6, t7⟩ := h7.2.2.2.2.2 x (by omega)
      have := t7 (ac - 1) (by omega) (by omega)
      rw [rr 26 (by omega) (by omega), rr 27 (by omega) (by omega), e65]
      refine ⟨t1, fun c hc => ?_, t3, t4, by omega, by omega, fun y hy1 hy2 => t7 y hy1 (by omega)⟩
      rw [show ((nx + 40) % 41 + 41 - (ac - 1) + x) % 41 = (nx + 41 - ac + x) % 41 by omega]
      exact t2 c hc
end UD
