/-! a border as the class passes it -/
section PS
variable {i i' j : Tb} {rv : Nat → Nat → Option Nat} {W : Option ((Nat → Nat) → Int)} {K g : Nat → Nat → Nat} {σ τ : Nat → Nat} {q p o k b d t w v n r z c s re : Nat}
theorem c_pass_t {kh : Int32 → Int32 → Int32 → Int32 → Int32 → Int32 → Int32 → (Nat → Nat → Int32) → (Nat → Nat → Option Nat) → Option ((Int32) × (Nat → Nat → Int32))} (h : CarC 15 K i) (hK : OkK K) (hb : OkS K b σ) (hs : ScC τ (i (q + 1))) (ho : o < K 0 4) (hz : z < K 0 5) (hτ : τ (18 + σ (9 + z)) = σ (18 + σ (9 + z))) (h4 : i 23 4 = laW (laB K o σ z)) :
    ∃ i', fX3_pass_104 q kh (nI o) (nI re) (nI (tB K o σ z)) (nI (oB K o σ z)) (nI (cB σ z)) (laT (laB K o σ z)) (nI z) (nI (σ (9 + z))) (nI (turnS K σ (σ (9 + z)) o)) i rv = kh (nI o) (nI re) (nI (tB K o σ (z + 1))) (nI (oB K o σ (z + 1))) (nI (cB σ (z + 1))) (laT (laB K o σ (z + 1))) (nI (z + 1)) i' rv ∧ (∀ a c, ¬ (a = 23 ∧ c = 4) → i' a c = i a c) ∧ i' 23 4 = laW (laB K o σ (z + 1)) := by
  have hm := hK.1
  have h5 := hK.2.2.1
  have hp := OkS_dr hb z hz
  have hc := cB_le (z := z) hb
  have hsd := (hb.2.2.2.2.2.1 (σ (9 + z)) hp)
  have hch := (hb.2.2.1 z hz).2
  have hd := dB_le hK hb ho hz
  have hov := oB_le hK hb ho z (by omega)
  have e0 : tB K o σ z + turnS K σ (σ (9 + z)) o = tB K o σ (z + 1) := rfl
  have e1 : tB K o σ (z + 1) + waitS K (σ (9 + z)) o (σ (18 + σ (9 + z))) (cB σ z) = dB K o σ z := rfl
  unfold fX3_pass_104
  rw [s_saidFor hs (by omega), hτ]
  have hmid : ∀ x : Int32, x = (if 0 < cB σ z then 1 else 0) → ∃ i', fX3_pass_133 q kh (nI o) (nI re) (nI (tB K o σ (z + 1))) (nI (oB K o σ z)) (nI (cB σ z)) (laT (laB K o σ z)) (nI z) (nI (σ (9 + z))) (nI (tB K o σ (z + 1))) (nI (σ (9 + z))) (nI o) (nI (σ (18 + σ (9 + z)))) x i rv = kh (nI o) (nI re) (nI (tB K o σ (z + 1))) (nI (oB K o σ (z + 1))) (nI (cB σ (z + 1))) (laT (laB K o σ (z + 1))) (nI (z + 1)) i' rv ∧ (∀ a c, ¬ (a = 23 ∧ c = 4) → i' a c = i a c) ∧ i' 23 4 = laW (laB K o σ (z + 1)) := by
    intro x hx
    unfold fX3_pass_133
    rw [hx, c_waitOf h hK hp ho hsd.1, c_takesCoffee hs (by omega) (by rw [hτ]; exact hsd.1), hτ]
    simp only [mz_b1, nI_add, e1]
    have hend : ∃ i', fX3_pass_157 q kh (nI o) (nI re) (nI (tB K o σ (z + 1))) (nI (oB K o σ z)) (nI (cB σ (z + 1))) (laT (laB K o σ z)) (nI z) (nI (σ (9 + z))) (nI (dB K o σ z)) i rv = kh (nI o) (nI re) (nI (tB K o σ (z + 1))) (nI (oB K o σ (z + 1))) (nI (cB σ (z + 1))) (laT (laB K o σ (z + 1))) (nI (z + 1)) i' rv ∧ (∀ a c, ¬ (a = 23 ∧ c = 4) → i' a c = i a c) ∧ i' 23 4 = laW (laB K o σ (z + 1)) := by
      unfold fX3_pass_157
      rw [c_isLacking h hK hp]
      simp only [fX3_pass_186, mz_lt, mz_b1]
      rw [mz_max (by omega) (by omega), nI_1, show max (oB K o σ z) (dB K o σ z) = oB K o σ (z + 1) from rfl]
      by_cases hl : 0 < sv K (σ (9 + z)) 1
      · have hlk : (if sv K (σ (9 + z)) 5 = 0 ∧ 0 < sv K (σ (9 + z)) 1 then (1 : Int32) else 0) = 1 := if_pos ⟨hch, hl⟩
        rw [hlk, if_neg (by decide)]
        cases hla : laB K o σ z with
        | none =>
          have e : laB K o σ (z + 1) = some (σ (9 + z), dB K o σ z) := by
            unfold laB
            rw [if_pos ⟨hl, by rw [hla]; rfl⟩]
          rw [e, if_neg (show ¬ nI (dB K o σ z) ≤ laT none from by rw [show laT none = NN from rfl, mz_ml (by omega)]; exact fun e => e)]
          exact ⟨_, rfl, fun a c hac => by
            by_cases ha : a = 23
            · subst ha
              rw [u2n _ _ _ _ _ (fun e => hac ⟨rfl, e⟩)]
            · rw [u2r _ _ _ _ _ ha], u2e _ _ _ _⟩
        | some y =>
          have hy := (laB_ok hK hb ho z (by omega) y hla).2
          by_cases hlt : y.2 < dB K o σ z
          · have e : laB K o σ (z + 1) = some (σ (9 + z), dB K o σ z) := by
              unfold laB
              rw [if_pos ⟨hl, by rw [hla]; exact decide_eq_true hlt⟩]
            rw [e, if_neg (show ¬ nI (dB K o σ z) ≤ laT (some y) from by rw [show laT (some y) = nI y.2 from rfl, nI_leI (by omega) (by omega)]; omega)]
            exact ⟨_, rfl, fun a c hac => by
              by_cases ha : a = 23
              · subst ha
                rw [u2n _ _ _ _ _ (fun e => hac ⟨rfl, e⟩)]
              · rw [u2r _ _ _ _ _ ha], u2e _ _ _ _⟩
          · have e : laB K o σ (z + 1) = laB K o σ z := by
              show (if _ then _ else _) = _
              rw [if_neg (fun e => hlt (by have := e.2; rw [hla] at this; exact of_decide_eq_true this))]
            rw [e, hla, if_pos (show nI (dB K o σ z) ≤ laT (some y) from by rw [show laT (some y) = nI y.2 from rfl, nI_leI (by omega) (by omega)]; omega)]
            exact ⟨i, rfl, fun _ _ _ => rfl, by rw [h4, hla]⟩
      · have e : laB K o σ (z + 1) = laB K o σ z := by
          show (if _ then _ else _) = _
          rw [if_neg (fun e => hl e.1)]
        have hlk : (if sv K (σ (9 + z)) 5 = 0 ∧ 0 < sv K (σ (9 + z)) 1 then (1 : Int32) else 0) = 0 := if_neg (fun e => hl e.2)
        rw [hlk, if_pos rfl, e]
        exact ⟨i, rfl, fun _ _ _ => rfl, h4⟩
    have hcs := cB_s (σ := σ) (z := z)
    by_cases h6 : σ (18 + σ (9 + z)) = 2
    · rw [if_pos h6] at hcs
      by_cases h7 : 0 < cB σ z
      · simp (disch := omega) only [if_pos, if_neg, ↓reduceIte, q0, q1, mz_eq, mz_le]
        rw [show nI (cB σ z) + -nI 1 = nI (cB σ (z + 1)) from by
          rw [hcs, show cB σ z = (cB σ z - 1) + 1 by omega]
          exact mz_prd _]
        exact hend
      · simp (disch := omega) only [if_pos, if_neg, ↓reduceIte, q0, q1, mz_eq, mz_le]
        rw [show cB σ (z + 1) = cB σ z by omega] at hend ⊢
        exact hend
    · rw [if_neg h6] at hcs
      simp (disch := omega) only [if_pos, if_neg, ↓reduceIte, q0, q1, mz_eq]
      rw [show cB σ (z + 1) = cB σ z by omega] at hend ⊢
      exact hend
  simp only [mz_b1, nI_add, e0]
  by_cases h7 : 0 < cB σ z
  · rw [if_neg (by rw [q0, nI_leI (by omega) (by omega)]; omega)]
    exact hmid 1 (by rw [if_pos h7])
  · rw [if_pos (by rw [q0, nI_leI (by omega) (by omega)]; omega)]
    exact hmid 0 (by rw [if_neg h7])
theorem c_rouse (hs : ScC σ (i (q + 1))) (hp : p < 9) : ∃ i', fX8_rouse q (nI p) (nI v) i = some i' ∧ ScC (rsS σ p v) (i' (q + 1)) ∧ Fr [q + 1] i i' := by
  unfold fX8_rouse
  simp (disch := omega) only [q27, q36, q45, q1, q0, nI_add, mz_in, nI_clamp, ↓reduceIte]
  simp only [↓mz_lt]
  simp (disch := omega) only [u2n, hs _ _, nI_add]
  exact ⟨_, rfl, ScC_u (ScC_u (ScC_u hs rfl) rfl) rfl, Fr_t Fr_u (Fr_t Fr_u Fr_u)⟩
theorem c_pass_l (h : CarC 15 K i) (hK : OkK K) (hb : OkS K b σ) (hb2 : b < 100000) (hs : ScC σ (i (q + 1))) (hq : q = 19 ∨ q = 21) (hL : LawC W i rv) (ho : o < K 0 4) (hre : re ≤ 1) : ∀ n z i', z ≤ K 0 5 → K 0 5 - z < n → FrL [23, 24, q + 1] rv i i' → i' 23 3 = nI (lB K W o σ z) → i' 23 4 = laW (laB K o σ z) → (re = 0 → i' (q + 1) = i (q + 1)) → (re = 1 → ScC (sB K W o σ z) (i' (q + 1))) →
    ∃ i'', fX3_pass_28 q n (nI o) (nI re) (nI (tB K o σ z)) (nI (oB K o σ z)) (nI (cB σ z)) (laT (laB K o σ z)) (nI z) i' rv = some (nI (oB K o σ (K 0 5)), i'') ∧ FrL [23, 24, q + 1] rv i i'' ∧ i'' 23 3 = nI (lB K W o σ (K 0 5)) ∧ i'' 23 4 = laW (laB K o σ (K 0 5)) ∧ (re = 0 → i'' (q + 1) = i (q + 1)) ∧ (re = 1 → ScC (up (sB K W o σ (K 0 5)) 54 (cB σ (K 0 5))) (i'' (q + 1))) := by
  have hm := hK.1
  have h5 := hK.2.2.1
  have hm4 := hK.2.1
  have hlst : ∀ x, x ∈ [23, 24, q + 1] → x ≠ 6 ∧ x ≠ 7 ∧ x < 74 := by
    intro x hx
    simp only [List.mem_cons, List.mem_nil_iff, or_false] at hx
    omega
  have hlst2 : ∀ x, 15 ≤ x → x < 19 → x ∉ [23, 24, q + 1] := by
    intro x h1 h2 hx
    simp only [List.mem_cons, List.mem_nil_iff, or_false] at hx
    omega
  intro n
  induction n with
  | zero => intro z i' h1 h2; omega
  | succ n ih =>
    intro z i' h1 h2 hf e3 e4 r0 r1
    have hc' := CarC_L h hL hf hlst2
    have hL' := FrL_law hL hf hlst
    rw [fX3_pass_28]
    unfold fX1_papers
    rw [hc'.2.2.1, mz_b1]
    by_cases h3 : z = K 0 5
    · subst h3
      rw [if_pos (nI_le (by omega) (by omega))]
      by_cases h4 : re = 0
      · subst h4
        exact ⟨i', if_pos rfl, hf, e3, e4, r0, fun e => by omega⟩
      · have h4 : re = 1 := by omega
        subst h4
        rw [if_neg (by decide)]
        unfold fX8_leaveCoffees
        simp (disch := omega) only [↓mz_lt, ↓mz_b1, ↓mz_b2, ↓mz_b3, mz_b1, mz_b2, mz_b3, mz_lt, mz_o0, mz_o1, nI_add, mz_mul, mz_sub, nI_clamp, mz_in, mz_le, mz_ltp, mz_eq, mz_nm, mz_mn, mz_ml, mz_mlt, mz_nl, mz_mle, qNN, q0, q1, q2, q3, q4, q5, q6, q7, q8, q9, q10, q11, q12, q13, q14, q15, q16, q17, q18, q19, q20, q21, q22, q23, q24, q25, q26, q27, q28, q29, q30, q31, q32, q33, q34, q35, q36, q37, q38, q39, q40, q41, q42, q43, q44, q45, q46, q47, q48, q49, q50, q51, q52, q53, q54, q55, q56, q57, q58, q59, q60, q61, q62, q63, q64, q65, q66, q67, q68, q69, q70, q71, q72, q73, q74, q75, q76, q77, q78, q79, q80, q81, q82, q83, q84, q85, q86, q87, q88, q89, q90, q91, q92, q93, q94, q95, q96, q97, q98, q99, q100, q101, q102, q103, q104, q105, q106, q107, q108, q109, q110, q111, q112, q113, q114, q115, q116, q117, q118, q119, q120, q121, q122, q123, q124, q125, q126, q127, q128, q129, q130, q240, q255, q256, q296, q400, q600, q896, q960, q999, q1000, q11544, q11840, q1000000, q1000000000, ↓reduceIte, if_pos, if_neg, ↓reduceIte, u2r, u2e, u2n, cp2r, cp2s]
        refine ⟨_, rfl, FrL_t hf (FrL_f (Fr_w (by simp) Fr_u)), ?_, ?_, fun e => by omega, fun _ => ScC_u (r1 rfl) rfl⟩
        · rw [u2r _ _ _ _ _ (by omega)]
          exact e3
        · rw [u2r _ _ _ _ _ (by omega)]
          exact e4
    · have hp := OkS_dr hb z (by omega)
      have ht := tB_le hK hb ho (z := z) (by omega)
      obtain ⟨τ, hτs, hτo, hτa, hτb, hτc, hτ⟩ : ∃ τ, ScC τ (i' (q + 1)) ∧ OkS K (b + 1) τ ∧ (∀ k, k < 27 → τ k = σ k) ∧ (∀ k, k = 27 ∨ k = 36 ∨ k = 45 → τ (k + σ (9 + z)) = σ (k + σ (9 + z))) ∧ (re = 1 → τ = sB K W o σ z) ∧ (re = 0 → τ = σ) := by
        by_cases h4 : re = 0
        · refine ⟨σ, ?_, OkS_up hb (by omega), fun _ _ => rfl, fun _ _ => rfl, fun e => by omega, fun _ => rfl⟩
          rw [r0 h4]
          exact hs
        · exact ⟨sB K W o σ z, r1 (by omega), sB_ok hK hb z (by omega), fun k hk => sB_q hK hb (by omega) (by omega), fun k hk => sB_p hK hb (by omega) hk, fun _ => rfl, fun e => by omega⟩
      have eD : τ (9 + z) = σ (9 + z) := hτa _ (by omega)
      have eT : turnS K τ (σ (9 + z)) o = turnS K σ (σ (9 + z)) o := by
        unfold turnS
        rw [hτb 27 (by omega)]
      have eL : lossN K W τ (σ (9 + z)) (tB K o σ z) o = lossN K W σ (σ (9 + z)) (tB K o σ z) o := lossN_c (fun k hk => hτa k (by omega)) (hτb 36 (by omega)) hp
      rw [if_neg (nI_ge (by omega) (by omega)), s_inDrawer hτs (by omega), eD, mz_b1, c_turnOf hc' hK hτo hτs hp ho, mz_b1, c_wakes hc' hK hτo hτs hp ho, mz_b1, eT, hτb 27 (by omega)]
      have elB : lB K W o σ (z + 1) = lB K W o σ z + lsB K W o σ z := rfl
      by_cases h6 : ov K o 1 = 1 ∧ σ (27 + σ (9 + z)) = 1
      · have els : lsB K W o σ z = lossN K W σ (σ (9 + z)) (tB K o σ z) o := if_pos h6
        have hw1 : (if ov K o 1 = 1 ∧ σ (27 + σ (9 + z)) = 1 then (1 : Int32) else 0) = 1 := if_pos h6
        rw [hw1, if_neg (by decide)]
        obtain ⟨i2, hl2, hf2⟩ := C_loss hc' hK hτo (by omega) hτs hq hL' hp (t := tB K o σ z) (o := o) (by omega) (by omega)
        rw [hl2, mz_b2, mz_lt]
        have e23 : i2 23 = i' 23 := FrL_row hL' hf2 (by decide) (by omega) (by omega) (by omega)
        have eq1 : i2 (q + 1) = i' (q + 1) := FrL_row hL' hf2 (by simp; omega) (by omega) (by omega) (by omega)
        rw [e23, e3, nI_add, eL, ← els, ← elB]
        generalize hi3 : u2 i2 23 3 (nI (lB K W o σ (z + 1))) = i3
        have hf3 : FrL [23, 24, q + 1] rv i i3 := by
          rw [← hi3]
          exact FrL_t hf (FrL_t (FrL_w (by simp) hf2) (FrL_f (Fr_w (by simp) Fr_u)))
        have e33 : i3 23 3 = nI (lB K W o σ (z + 1)) := by rw [← hi3, u2e]
        have e34 : i3 23 4 = laW (laB K o σ z) := by rw [← hi3, u2n _ _ _ _ _ (by omega), e23, e4]
        have er3 : i3 (q + 1) = i' (q + 1) := by rw [← hi3, u2r _ _ _ _ _ (by omega), eq1]
        by_cases h4 : re = 0
        · rw [if_pos (by rw [h4]; rfl)]
          obtain ⟨i4, g1, g2, g3⟩ := c_pass_t (kh := fX3_pass_28 q n) (re := re) (rv := rv) (τ := τ) (q := q) (CarC_L h hL hf3 hlst2) hK hb (by rw [er3]; exact hτs) ho (by omega) (hτa _ (by omega)) e34
          rw [g1]
          refine ih (z + 1) i4 (by omega) (by omega) (FrL_t hf3 (fun a c ha _ => g2 a c (fun e => ha (by simp [e.1])))) ?_ g3 (fun _ => ?_) (fun e => by omega)
          · rw [g2 23 3 (by omega), e33]
          · rw [show i4 (q + 1) = i3 (q + 1) from funext (fun c => g2 _ c (by omega)), er3]
            exact r0 h4
        · have h4 : re = 1 := by omega
          rw [if_neg (by rw [h4]; decide)]
          obtain ⟨i5, k1, k2, k3⟩ := c_rouse (q := q) (p := σ (9 + z)) (v := lsB K W o σ z) (i := i3) (σ := τ) (by rw [er3]; exact hτs) (by omega)
          rw [k1, mz_b1]
          have hf5 : FrL [23, 24, q + 1] rv i i5 := FrL_t hf3 (FrL_f (Fr_w (by simp) k3))
          have e5 : i5 23 = i3 23 := k3 23 (by simp; omega)
          obtain ⟨i4, g1, g2, g3⟩ := c_pass_t (kh := fX3_pass_28 q n) (re := re) (rv := rv) (τ := rsS τ (σ (9 + z)) (lsB K W o σ z)) (q := q) (z := z) (CarC_L h hL hf5 hlst2) hK hb k2 ho (by omega) (by
            unfold rsS
            simp (disch := omega) only [upn]
            exact hτa _ (by omega)) (by rw [e5]; exact e34)
          rw [g1]
          refine ih (z + 1) i4 (by omega) (by omega) (FrL_t hf5 (fun a c ha _ => g2 a c (fun e => ha (by simp [e.1])))) ?_ g3 (fun e => by omega) (fun _ => ?_)
          · rw [g2 23 3 (by omega), e5, e33]
          · rw [show i4 (q + 1) = i5 (q + 1) from funext (fun c => g2 _ c (by omega)), show sB K W o σ (z + 1) = rsS τ (σ (9 + z)) (lsB K W o σ z) from by
              rw [hτc h4]
              exact if_pos h6]
            exact k2
      · have els : lsB K W o σ z = 0 := if_neg h6
        have hw0 : (if ov K o 1 = 1 ∧ σ (27 + σ (9 + z)) = 1 then (1 : Int32) else 0) = 0 := if_neg h6
        rw [hw0, if_pos rfl]
        obtain ⟨i4, g1, g2, g3⟩ := c_pass_t (kh := fX3_pass_28 q n) (re := re) (rv := rv) (τ := τ) (q := q) hc' hK hb hτs ho (by omega) (hτa _ (by omega)) e4
        rw [g1]
        refine ih (z + 1) i4 (by omega) (by omega) (FrL_t hf (fun a c ha _ => g2 a c (fun e => ha (by simp [e.1])))) ?_ g3 (fun e => ?_) (fun e => ?_)
        · rw [g2 23 3 (by omega), e3, elB, els]
          rfl
        · rw [show i4 (q + 1) = i' (q + 1) from funext (fun c => g2 _ c (by omega))]
          exact r0 e
        · rw [show i4 (q + 1) = i' (q + 1) from funext (fun c => g2 _ c (by omega)), show sB K W o σ (z + 1) = sB K W o σ z from if_neg h6]
          exact r1 e
theorem C_pass (h : CarC 15 K i) (hK : OkK K) (hb : OkS K b σ) (hb2 : b < 100000) (hs : ScC σ (i (q + 1))) (hq : q = 19 ∨ q = 21) (hL : LawC W i rv) (ho : o < K 0 4) (hre : re ≤ 1) : ∃ i', fX3_pass q (nI o) (nI re) i rv = some (nI (oB K o σ (K 0 5)), i') ∧ FrL [23, 24, q + 1] rv i i' ∧ i' 23 3 = nI (lB K W o σ (K 0 5)) ∧ i' 23 4 = laW (laB K o σ (K 0 5)) ∧ (re = 0 → i' (q + 1) = i (q + 1)) ∧ (re = 1 → ScC (up (sB K W o σ (K 0 5)) 54 (cB σ (K 0 5))) (i' (q + 1))) := by
  have hm := hK.1
  have h5 := hK.2.2.1
  unfold fX3_pass
  obtain ⟨fu, hfu, hfu2⟩ := fuel_g
  rw [hfu, s_coffees hs]
  simp only [mz_b1, mz_lt, q0, q1, qNN]
  have hfr : Fr [23] i (u2 (u2 i 23 3 (nI 0)) 23 4 NN) := Fr_t Fr_u Fr_u
  have key := c_pass_l h hK hb hb2 hs hq hL ho hre fu 0 (u2 (u2 i 23 3 (nI 0)) 23 4 NN) (by omega) (by omega) (FrL_f (Fr_w (by simp) hfr)) (by rw [lB_0, u2n _ _ _ _ _ (by omega), u2e]) (by rw [u2e, laB_0, laW_0]) (fun _ => hfr _ (by simp; omega)) (fun _ => by rw [hfr _ (by simp; omega)]; exact hs)
  rw [tB_0, oB_0, cB_0, laB_0, laT_0] at key
  exact key
end PS
