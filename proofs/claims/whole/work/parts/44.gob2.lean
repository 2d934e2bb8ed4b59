/-! a border as the reference goes through it, second half -/
abbrev l41 : List Nat := [8, 9, 10, 11, 12, 13, 14, 17, 37, 38, 39, 40]
section GB2
variable {i i' j j' : Tb} {rv rv' : Nat → Nat → Option Nat} {W : Option ((Nat → Nat) → Int)} {K g : Nat → Nat → Nat} {σ τ : Nat → Nat} {q p o k b d t w v n r z c s re : Nat}
theorem tB_s : tB K o σ (z + 1) = tB K o σ z + turnS K σ (σ (9 + z)) o := rfl
theorem oB_m (hK : OkK K) (hb : OkS K b σ) : ∀ z, z ≤ K 0 5 → oB K o σ z = max (mB K o σ z) (tB K o σ z) := by
  intro z
  induction z with
  | zero => intro _; rfl
  | succ z ih =>
    intro hz
    have e := ih (by omega)
    have e2 := tB_s (K := K) (o := o) (σ := σ) (z := z)
    have e3 : dB K o σ z = tB K o σ (z + 1) + waitS K (σ (9 + z)) o (σ (18 + σ (9 + z))) (cB σ z) := rfl
    unfold oB mB
    by_cases hl : 0 < sv K (σ (9 + z)) 1
    · rw [if_pos hl]
      omega
    · rw [if_neg hl]
      have := waitS_0 (K := K) (o := o) (s := σ (18 + σ (9 + z))) (c := cB σ z) (p := σ (9 + z)) (by omega)
      omega
theorem mB_le (hK : OkK K) (hb : OkS K b σ) (ho : o < K 0 4) (hz : z ≤ K 0 5) : mB K o σ z ≤ 400 := by
  have h1 := oB_m (o := o) hK hb z hz
  have h2 := oB_le hK hb ho z hz
  omega
theorem m_gob_t {kh : Int32 → Int32 → Int32 → (Nat → Nat → Int32) → (Nat → Nat → Option Nat) → Option ((Nat → Nat → Int32) × (Nat → Nat → Option Nat))} (h' : CarM K j) (hK : OkK K) (hb : OkS K b σ) (hw6 : w = 63 ∨ w = 64) (hw : ScM K τ (j w)) (ho : o < K 0 4) (hz : z < K 0 5) (hτo : OkS K (b + 1) τ) (hτ : τ (18 + σ (9 + z)) = σ (18 + σ (9 + z))) (hc54 : τ 54 = cB σ z)
    (e37 : j 50 37 = nI (mB K o σ z)) (e39 : j 50 39 = laW (laB K o σ z)) (e40 : j 50 40 = laU (laB K o σ z)) :
    ∃ j', fX12_goBorder_98 w 296 kh (nI o) (nI (tB K o σ z)) (nI z) (nI (σ (9 + z))) (nI (turnS K σ (σ (9 + z)) o)) j rv = kh (nI o) (nI (tB K o σ (z + 1))) (nI (z + 1)) j' rv ∧ Fr [50, w] j j' ∧ F5 [37, 39, 40] j j' ∧ ScM K (up τ 54 (cB σ (z + 1))) (j' w) ∧ (∀ k, 55 ≤ k → j' w k = j w k) ∧ j' 50 37 = nI (mB K o σ (z + 1)) ∧ j' 50 39 = laW (laB K o σ (z + 1)) ∧ j' 50 40 = laU (laB K o σ (z + 1)) := by
  have hm := hK.1
  have h5 := hK.2.2.1
  have hm4 := hK.2.1
  have hp := OkS_dr hb z hz
  have hc := cB_le (z := z) hb
  have hsd := (hb.2.2.2.2.2.1 (σ (9 + z)) hp)
  have hd := dB_le hK hb ho hz
  have hmb := mB_le (z := z) hK hb ho (by omega)
  have hl9 := hK.2.2.2.2.2.2.2.2.2.1 (σ (9 + z)) 1 hp (by omega)
  have e0 : tB K o σ z + turnS K σ (σ (9 + z)) o = tB K o σ (z + 1) := rfl
  have e1 : tB K o σ (z + 1) + waitS K (σ (9 + z)) o (σ (18 + σ (9 + z))) (cB σ z) = dB K o σ z := rfl
  have el : j 57 (6 * σ (9 + z) + 1) = nI (sv K (σ (9 + z)) 1) := h'.2.2.2.2.1 _ (by omega)
  have ec : j w 54 = nI (cB σ z) := by rw [hw.2.2.2, hc54]
  have es : j w (6 * σ (9 + z) + 2) = nI (σ (18 + σ (9 + z))) := by rw [(hw.1 _ hp).2.1, hτ]
  have hcs := cB_s (σ := σ) (z := z)
  unfold fX12_goBorder_98
  simp (disch := omega) only [q6, q1, q0, q54, mz_mul, nI_add, mz_in, nI_clamp, ↓reduceIte, el, ec, e0, mz_eq, mz_le]
  by_cases hl : 0 < sv K (σ (9 + z)) 1
  · rw [if_neg (by omega)]
    have ht : ∀ j1, j1 50 = j 50 → Fr [50, w] j j1 → ScM K (up τ 54 (cB σ (z + 1))) (j1 w) → (∀ k, 55 ≤ k → j1 w k = j w k) → ∃ j', fX12_goBorder_173 w 296 kh (nI o) (nI (tB K o σ (z + 1))) (nI z) (nI (σ (9 + z))) (nI (dB K o σ z)) j1 rv = kh (nI o) (nI (tB K o σ (z + 1))) (nI (z + 1)) j' rv ∧ Fr [50, w] j j' ∧ F5 [37, 39, 40] j j' ∧ ScM K (up τ 54 (cB σ (z + 1))) (j' w) ∧ (∀ k, 55 ≤ k → j' w k = j w k) ∧ j' 50 37 = nI (mB K o σ (z + 1)) ∧ j' 50 39 = laW (laB K o σ (z + 1)) ∧ j' 50 40 = laU (laB K o σ (z + 1)) := by
      intro j1 h50 hf1 hs1 hk1
      have emB : mB K o σ (z + 1) = max (mB K o σ z) (dB K o σ z) := if_pos hl
      unfold fX12_goBorder_173 fX12_goBorder_206 fX12_goBorder_218
      simp only [↓mz_lt]
      rw [h50, e37, mz_max (by omega) (by omega), ← emB, u2n _ _ _ _ _ (by omega), u2n _ _ _ _ _ (by omega), h50, e39, e40, nI_1]
      have hA : laB K o σ (z + 1) = some (σ (9 + z), dB K o σ z) → ∃ j', kh (nI o) (nI (tB K o σ (z + 1))) (nI (z + 1)) (u2 (u2 (u2 j1 50 37 (nI (mB K o σ (z + 1)))) 50 39 (nI (σ (9 + z)))) 50 40 (nI (dB K o σ z))) rv = kh (nI o) (nI (tB K o σ (z + 1))) (nI (z + 1)) j' rv ∧ Fr [50, w] j j' ∧ F5 [37, 39, 40] j j' ∧ ScM K (up τ 54 (cB σ (z + 1))) (j' w) ∧ (∀ k, 55 ≤ k → j' w k = j w k) ∧ j' 50 37 = nI (mB K o σ (z + 1)) ∧ j' 50 39 = laW (laB K o σ (z + 1)) ∧ j' 50 40 = laU (laB K o σ (z + 1)) := by
        intro e
        rw [e]
        refine ⟨_, rfl, Fr_t hf1 (Fr_t (Fr_w (by simp) Fr_u) (Fr_t (Fr_w (by simp) Fr_u) (Fr_w (by simp) Fr_u))), fun k hk => ?_, ?_, fun k hk => ?_, ?_, ?_, ?_⟩
        · simp only [List.mem_cons, List.mem_nil_iff, or_false] at hk
          simp (disch := omega) only [u2n]
          rw [h50]
        · simp (disch := omega) only [u2r]
          exact hs1
        · simp (disch := omega) only [u2r]
          exact hk1 k hk
        · simp (disch := omega) only [u2n, u2e]
        · simp (disch := omega) only [u2n, u2e]
          rfl
        · rw [u2e]
          rfl
      have hB : laB K o σ (z + 1) = laB K o σ z → ∃ j', kh (nI o) (nI (tB K o σ (z + 1))) (nI (z + 1)) (u2 j1 50 37 (nI (mB K o σ (z + 1)))) rv = kh (nI o) (nI (tB K o σ (z + 1))) (nI (z + 1)) j' rv ∧ Fr [50, w] j j' ∧ F5 [37, 39, 40] j j' ∧ ScM K (up τ 54 (cB σ (z + 1))) (j' w) ∧ (∀ k, 55 ≤ k → j' w k = j w k) ∧ j' 50 37 = nI (mB K o σ (z + 1)) ∧ j' 50 39 = laW (laB K o σ (z + 1)) ∧ j' 50 40 = laU (laB K o σ (z + 1)) := by
        intro e
        rw [e]
        refine ⟨_, rfl, Fr_t hf1 (Fr_w (by simp) Fr_u), fun k hk => ?_, ?_, fun k hk => ?_, ?_, ?_, ?_⟩
        · simp only [List.mem_cons, List.mem_nil_iff, or_false] at hk
          simp (disch := omega) only [u2n]
          rw [h50]
        · simp (disch := omega) only [u2r]
          exact hs1
        · simp (disch := omega) only [u2r]
          exact hk1 k hk
        · rw [u2e]
        · rw [u2n _ _ _ _ _ (by omega), h50, e39]
        · rw [u2n _ _ _ _ _ (by omega), h50, e40]
      cases hla : laB K o σ z with
      | none =>
        rw [if_pos (show laW none = -1 from rfl)]
        refine hA ?_
        unfold laB
        rw [if_pos ⟨hl, by rw [hla]; rfl⟩]
      | some y =>
        have hy := laB_ok hK hb ho z (by omega) y hla
        rw [if_neg (show ¬ laW (some y) = -1 from by rw [show laW (some y) = nI y.1 from rfl, qN1, mz_nm (by omega)]; exact fun e => e)]
        by_cases hlt : y.2 < dB K o σ z
        · rw [if_pos (show laU (some y) < nI (dB K o σ z) from nI_lt hlt (by omega))]
          refine hA ?_
          unfold laB
          rw [if_pos ⟨hl, by rw [hla]; exact decide_eq_true hlt⟩]
        · rw [if_neg (show ¬ laU (some y) < nI (dB K o σ z) from nI_nlt (by omega) (by omega))]
          refine hB ?_
          show (if _ then _ else _) = _
          rw [if_neg (fun e => hlt (by have := e.2; rw [hla] at this; exact of_decide_eq_true this))]
    have hmid : ∀ x : Int32, x = (if 0 < cB σ z then 1 else 0) → ∃ j', fX12_goBorder_139 w 296 kh (nI o) (nI (tB K o σ (z + 1))) (nI z) (nI (σ (9 + z))) (nI (tB K o σ (z + 1))) (nI (σ (9 + z))) (nI o) x j rv = kh (nI o) (nI (tB K o σ (z + 1))) (nI (z + 1)) j' rv ∧ Fr [50, w] j j' ∧ F5 [37, 39, 40] j j' ∧ ScM K (up τ 54 (cB σ (z + 1))) (j' w) ∧ (∀ k, 55 ≤ k → j' w k = j w k) ∧ j' 50 37 = nI (mB K o σ (z + 1)) ∧ j' 50 39 = laW (laB K o σ (z + 1)) ∧ j' 50 40 = laU (laB K o σ (z + 1)) := by
      intro x hx
      unfold fX12_goBorder_139
      rw [hx, m_waitOf h' hK hw hp ho (by rw [hτ]; exact hsd.1), hτ]
      simp (disch := omega) only [mz_b1, nI_add, e1, q6, q2, q54, q0, q1, mz_mul, mz_in, nI_clamp, ↓reduceIte, es, ec, mz_eq, mz_le]
      by_cases h6 : σ (18 + σ (9 + z)) = 2
      · rw [if_pos h6] at hcs
        rw [if_pos h6]
        by_cases h7 : 0 < cB σ z
        · rw [if_neg (by omega), mz_lt, mz_sub (by omega), ← hcs]
          refine ht _ (u2r _ _ _ _ _ (by omega)) (Fr_w (by simp) Fr_u) (ScM_cof hK hτo hw) (fun k hk => u2n _ _ _ _ _ (by omega))
        · rw [if_pos (by omega)]
          refine ht j rfl (Fr_r _ _) ?_ (fun _ _ => rfl)
          rw [show cB σ (z + 1) = τ 54 by omega, show up τ 54 (τ 54) = τ from by
            funext a
            unfold up
            split
            · rename_i h; rw [h]
            · rfl]
          exact hw
      · rw [if_neg h6] at hcs
        rw [if_neg h6]
        refine ht j rfl (Fr_r _ _) ?_ (fun _ _ => rfl)
        rw [show cB σ (z + 1) = τ 54 by omega, show up τ 54 (τ 54) = τ from by
          funext a
          unfold up
          split
          · rename_i h; rw [h]
          · rfl]
        exact hw
    by_cases h7 : 0 < cB σ z
    · rw [if_neg (by omega)]
      exact hmid (nI 1) (by rw [if_pos h7]; rfl)
    · rw [if_pos (by omega)]
      exact hmid (nI 0) (by rw [if_neg h7]; rfl)
  · rw [if_pos (by omega)]
    have hs0 : σ (18 + σ (9 + z)) = 0 := by
      by_cases e : σ (18 + σ (9 + z)) = 0
      · exact e
      · exact absurd (hsd.2 e).2 hl
    rw [if_neg (by omega)] at hcs
    unfold fX12_goBorder_218
    rw [nI_1]
    refine ⟨j, rfl, Fr_r _ _, F5_r _ _, ?_, fun _ _ => rfl, ?_, ?_, ?_⟩
    · rw [show cB σ (z + 1) = τ 54 by omega, show up τ 54 (τ 54) = τ from by
        funext a
        unfold up
        split
        · rename_i h; rw [h]
        · rfl]
      exact hw
    · rw [e37, show mB K o σ (z + 1) = mB K o σ z from if_neg hl]
    · rw [e39, show laB K o σ (z + 1) = laB K o σ z from if_neg (fun e => hl e.1)]
    · rw [e40, show laB K o σ (z + 1) = laB K o σ z from if_neg (fun e => hl e.1)]
end GB2
