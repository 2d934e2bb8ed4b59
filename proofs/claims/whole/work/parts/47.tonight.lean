/-! tonight -/
/-- all that was heard could be by o -/
def cbN (K g : Nat → Nat → Nat) (σ : Nat → Nat) (o : Nat) : Nat := if ∀ k, k < g 0 0 → g 1 k = ov K o 1 ∧ g 2 k ≤ oB K o σ (K 0 5) then 1 else 0
section TN
variable {i i' j j' : Tb} {rv rv' : Nat → Nat → Option Nat} {W : Option ((Nat → Nat) → Int)} {K g : Nat → Nat → Nat} {σ τ : Nat → Nat} {q p o k b d t w w0 v n r z c s re x : Nat} {l l5 : List Nat}
theorem cbN_1 (h : ∀ k, k < g 0 0 → g 1 k = ov K o 1 ∧ g 2 k ≤ oB K o σ (K 0 5)) : cbN K g σ o = 1 := if_pos h
theorem cbN_0 {k : Nat} (hk : k < g 0 0) (h : ¬ (g 1 k = ov K o 1 ∧ g 2 k ≤ oB K o σ (K 0 5))) : cbN K g σ o = 0 := if_neg (fun e => h (e k hk))
theorem cbN_le : cbN K g σ o ≤ 1 := by
  unfold cbN
  split <;> omega
theorem c_couldBe_l (h : CarC 15 K i) (hK : OkK K) (hb : OkS K b σ) (hg : GuC g i) (hog : OkG K g) (ho : o < K 0 4) : ∀ n k, k ≤ g 0 0 → g 0 0 - k < n → (∀ z, z < k → g 1 z = ov K o 1 ∧ g 2 z ≤ oB K o σ (K 0 5)) → fX2_couldBe_16 n (nI o) (nI (oB K o σ (K 0 5))) (nI k) i rv = some (nI (cbN K g σ o), i) := by
  have h8 := hog.1
  have hov := oB_le hK hb ho (K 0 5) (by omega)
  have h1 := hK.2.2.2.2.2.2.2.2.2.2.2.2 o ho
  intro n
  induction n with
  | zero => intro k h1 h2; omega
  | succ n ih =>
    intro k h2 h3 h4
    rw [fX2_couldBe_16, hg.1]
    by_cases h5 : k = g 0 0
    · rw [if_pos (nI_le (by omega) (by omega)), cbN_1 (fun z hz => h4 z (by omega))]
      rfl
    · have hk := hog.2.2.1 k (by omega)
      rw [c_looks h hK ho]
      simp (disch := omega) only [↓mz_lt, ↓mz_b1, ↓mz_b2, ↓mz_b3, mz_b1, mz_b2, mz_b3, mz_lt, mz_o0, mz_o1, nI_add, mz_mul, mz_sub, nI_clamp, mz_in, mz_le, mz_ltp, mz_eq, mz_nm, mz_mn, mz_ml, mz_mlt, mz_nl, mz_mle, qNN, q0, q1, q2, q3, q4, q5, q6, q7, q8, q9, q10, q11, q12, q13, q14, q15, q16, q17, q18, q19, q20, q21, q22, q23, q24, q25, q26, q27, q28, q29, q30, q31, q32, q33, q34, q35, q36, q37, q38, q39, q40, q41, q42, q43, q44, q45, q46, q47, q48, q49, q50, q51, q52, q53, q54, q55, q56, q57, q58, q59, q60, q61, q62, q63, q64, q65, q66, q67, q68, q69, q70, q71, q72, q73, q74, q75, q76, q77, q78, q79, q80, q81, q82, q83, q84, q85, q86, q87, q88, q89, q90, q91, q92, q93, q94, q95, q96, q97, q98, q99, q100, q101, q102, q103, q104, q105, q106, q107, q108, q109, q110, q111, q112, q113, q114, q115, q116, q117, q118, q119, q120, q121, q122, q123, q124, q125, q126, q127, q128, q129, q130, q240, q255, q256, q296, q400, q600, q896, q960, q999, q1000, q11544, q11840, q1000000, q1000000000, ↓reduceIte, if_pos, if_neg, ↓reduceIte, u2r, u2e, u2n, cp2r, cp2s, (hg.2.2.1 k (by omega)).1, (hg.2.2.1 k (by omega)).2]
      by_cases h6 : g 1 k = ov K o 1
      · by_cases h7 : g 2 k ≤ oB K o σ (K 0 5)
        · simp (disch := omega) only [if_pos, if_neg, ↓reduceIte]
          refine ih (k + 1) (by omega) (by omega) (fun z hz => ?_)
          by_cases e : z = k
          · subst e
            exact ⟨h6, h7⟩
          · exact h4 z (by omega)
        · rw [if_pos h6, if_neg h7, cbN_0 (k := k) (by omega) (fun e => h7 e.2)]
      · rw [if_neg h6, cbN_0 (k := k) (by omega) (fun e => h6 e.1)]
theorem C_couldBe (h : WC K W σ i rv) (hK : OkK K) (hb : OkS K b σ) (hb2 : b < 100000) (hg : GuC g i) (hog : OkG K g) (ho : o < K 0 4) : ∃ i', fX2_couldBe (nI o) i rv = some (nI (cbN K g σ o), i') ∧ FrL [23, 24] rv i i' := by
  obtain ⟨i1, p1, p2, p3, p4⟩ := C_try h hK hb hb2 ho
  refine ⟨i1, ?_, p2⟩
  unfold fX2_couldBe
  obtain ⟨fu, hfu, hfu2⟩ := fuel_g
  rw [hfu, p1, mz_b2]
  exact c_couldBe_l (WC_f h p2 (by decide)).1 hK hb (GuC_f hg (fun q h1 h2 => FrL_row h.2.2 p2 (by simp; omega) (by omega) (by omega) (by omega))) hog ho fu 0 (by omega) (by have := hog.1; omega) (fun z hz => by omega)
theorem m_couldBe_l (h : CarM K j) (hK : OkK K) (hb : OkS K b σ) (hg : GuM g j) (hog : OkG K g) (ho : o < K 0 4) (e37 : j 50 37 = nI (oB K o σ (K 0 5))) : ∀ n k, k ≤ g 0 0 → g 0 0 - k < n → (∀ z, z < k → g 1 z = ov K o 1 ∧ g 2 z ≤ oB K o σ (K 0 5)) → fX12_couldBe_7 n (nI o) (nI k) j rv = some (nI (cbN K g σ o), j, rv) := by
  have h8 := hog.1
  have hov := oB_le hK hb ho (K 0 5) (by omega)
  have h1 := hK.2.2.2.2.2.2.2.2.2.2.2.2 o ho
  have hm4 := hK.2.1
  have e1 : j 59 (4 * o + 1) = nI (ov K o 1) := h.2.2.2.2.2 _ (by omega)
  intro n
  induction n with
  | zero => intro k h1 h2; omega
  | succ n ih =>
    intro k h2 h3 h4
    rw [fX12_couldBe_7, hg.1]
    by_cases h5 : k = g 0 0
    · rw [if_pos (nI_le (by omega) (by omega)), cbN_1 (fun z hz => h4 z (by omega))]
      rfl
    · have hk := hog.2.2.1 k (by omega)
      unfold fX12_couldBe_40
      simp (disch := omega) only [↓mz_lt, ↓mz_b1, ↓mz_b2, ↓mz_b3, mz_b1, mz_b2, mz_b3, mz_lt, mz_o0, mz_o1, nI_add, mz_mul, mz_sub, nI_clamp, mz_in, mz_le, mz_ltp, mz_eq, mz_nm, mz_mn, mz_ml, mz_mlt, mz_nl, mz_mle, qNN, q0, q1, q2, q3, q4, q5, q6, q7, q8, q9, q10, q11, q12, q13, q14, q15, q16, q17, q18, q19, q20, q21, q22, q23, q24, q25, q26, q27, q28, q29, q30, q31, q32, q33, q34, q35, q36, q37, q38, q39, q40, q41, q42, q43, q44, q45, q46, q47, q48, q49, q50, q51, q52, q53, q54, q55, q56, q57, q58, q59, q60, q61, q62, q63, q64, q65, q66, q67, q68, q69, q70, q71, q72, q73, q74, q75, q76, q77, q78, q79, q80, q81, q82, q83, q84, q85, q86, q87, q88, q89, q90, q91, q92, q93, q94, q95, q96, q97, q98, q99, q100, q101, q102, q103, q104, q105, q106, q107, q108, q109, q110, q111, q112, q113, q114, q115, q116, q117, q118, q119, q120, q121, q122, q123, q124, q125, q126, q127, q128, q129, q130, q240, q255, q256, q296, q400, q600, q896, q960, q999, q1000, q11544, q11840, q1000000, q1000000000, ↓reduceIte, if_pos, if_neg, ↓reduceIte, u2r, u2e, u2n, cp2r, cp2s, (hg.2.2.1 k (by omega)).1, (hg.2.2.1 k (by omega)).2, e1, e37]
      have hfin : g 1 k = ov K o 1 → (if g 2 k ≤ oB K o σ (K 0 5) then fX12_couldBe_7 n (nI o) (nI (k + 1)) j rv else some (nI 0, j, rv)) = some (nI (cbN K g σ o), j, rv) := by
        intro h6
        by_cases h7 : g 2 k ≤ oB K o σ (K 0 5)
        · rw [if_pos h7]
          refine ih (k + 1) (by omega) (by omega) (fun z hz => ?_)
          by_cases e : z = k
          · subst e
            exact ⟨h6, h7⟩
          · exact h4 z (by omega)
        · rw [if_neg h7, cbN_0 (k := k) (by omega) (fun e => h7 e.2)]
      by_cases h9 : ov K o 1 = 1
      · rw [if_pos h9]
        by_cases h6 : g 1 k = 1
        · rw [if_pos h6]
          exact hfin (by omega)
        · rw [if_neg h6, cbN_0 (k := k) (by omega) (fun e => h6 (by omega))]
      · rw [if_neg h9]
        by_cases h6 : g 1 k = 0
        · rw [if_pos h6]
          exact hfin (by omega)
        · rw [if_neg h6, cbN_0 (k := k) (by omega) (fun e => h6 (by omega))]
theorem M_couldBe (h : WM K W σ j) (hK : OkK K) (hb : OkS K b σ) (hb2 : b < 100000) (hg : GuM g j) (hog : OkG K g) (ho : o < K 0 4) : ∃ j' rv', fX12_couldBe (nI o) j rv = some (nI (cbN K g σ o), j', rv') ∧ Fr [50, 54, 64] j j' ∧ F5 l41 j j' ∧ RvM rv rv' := by
  obtain ⟨j1, rv1, s1, s2, s3, s4, s5, s6, s7⟩ := M_try (rv := rv) h hK hb hb2 ho
  refine ⟨j1, rv1, ?_, s2, s3, s4⟩
  unfold fX12_couldBe
  obtain ⟨fu, hfu, hfu2⟩ := fuel_g
  rw [hfu, s1, mz_b2]
  exact m_couldBe_l (WM_f h s2 s3 (by decide) (by decide)).1 hK hb (GuM_f hg (fun q h1 h2 => s2 q (by simp; omega)) (s3 _ (by decide)) (s3 _ (by decide))) hog ho s5 fu 0 (by omega) (by have := hog.1; omega) (fun z hz => by omega)
/-- weights of those who could be, of the first x -/
def wcb (K g : Nat → Nat → Nat) (σ : Nat → Nat) (x : Nat) : Nat := sumTo (fun o => if cbN K g σ o = 0 then 0 else ov K o 0) x
theorem wcb_le (hK : OkK K) (hx : x ≤ K 0 4) : wcb K g σ x ≤ 9 * x := by
  have h := sumTo_le (f := fun o => if cbN K g σ o = 0 then 0 else ov K o 0) (m := 9) (n := x) (fun z hz => by
    show (if _ then _ else _) ≤ 9
    split
    · omega
    · exact hK.2.2.2.2.2.2.2.2.2.2.2.1 z 0 (by omega) (by omega))
  unfold wcb
  omega
theorem c_chance_l (hK : OkK K) (hb : OkS K b σ) (hb2 : b < 100000) (hog : OkG K g) (ho : o < K 0 4) (h : WC K W σ i rv) (hg : GuC g i) : ∀ n x i', x ≤ K 0 4 → K 0 4 - x < n → FrL [23, 24] rv i i' → ∃ i'', fX2_chanceOf_14 n (nI o) (nI (wcb K g σ x)) (nI x) i' rv = some ((if wcb K g σ (K 0 4) = 0 then nI 0 else nI (1000000 * ov K o 0) / nI (wcb K g σ (K 0 4))), i'') ∧ FrL [23, 24] rv i i'' := by
  have hm4 := hK.2.1
  intro n
  induction n with
  | zero => intro x i' h1 h2; omega
  | succ n ih =>
    intro x i' h1 h2 hf
    have hw := WC_f h hf (by decide)
    have hg' : GuC g i' := GuC_f hg (fun q h1 h2 => FrL_row h.2.2 hf (by simp; omega) (by omega) (by omega) (by omega))
    rw [fX2_chanceOf_14]
    unfold fX1_officers
    rw [hw.1.2.1, mz_b1]
    by_cases h3 : x = K 0 4
    · subst h3
      have hl := wcb_le (g := g) (σ := σ) hK (Nat.le_refl (K 0 4))
      rw [if_pos (nI_le (by omega) (by omega)), q0, c_ofOfficer hw.1 (by omega) (by omega)]
      simp (disch := omega) only [↓mz_lt, ↓mz_b1, ↓mz_b2, ↓mz_b3, mz_b1, mz_b2, mz_b3, mz_lt, mz_o0, mz_o1, nI_add, mz_mul, mz_sub, nI_clamp, mz_in, mz_le, mz_ltp, mz_eq, mz_nm, mz_mn, mz_ml, mz_mlt, mz_nl, mz_mle, qNN, q0, q1, q2, q3, q4, q5, q6, q7, q8, q9, q10, q11, q12, q13, q14, q15, q16, q17, q18, q19, q20, q21, q22, q23, q24, q25, q26, q27, q28, q29, q30, q31, q32, q33, q34, q35, q36, q37, q38, q39, q40, q41, q42, q43, q44, q45, q46, q47, q48, q49, q50, q51, q52, q53, q54, q55, q56, q57, q58, q59, q60, q61, q62, q63, q64, q65, q66, q67, q68, q69, q70, q71, q72, q73, q74, q75, q76, q77, q78, q79, q80, q81, q82, q83, q84, q85, q86, q87, q88, q89, q90, q91, q92, q93, q94, q95, q96, q97, q98, q99, q100, q101, q102, q103, q104, q105, q106, q107, q108, q109, q110, q111, q112, q113, q114, q115, q116, q117, q118, q119, q120, q121, q122, q123, q124, q125, q126, q127, q128, q129, q130, q240, q255, q256, q296, q400, q600, q896, q960, q999, q1000, q11544, q11840, q1000000, q1000000000, ↓reduceIte, if_pos, if_neg, ↓reduceIte, u2r, u2e, u2n, cp2r, cp2s]
      by_cases h4 : wcb K g σ (K 0 4) = 0
      · rw [if_pos h4, if_pos h4]
        exact ⟨i', rfl, hf⟩
      · rw [if_neg h4]
        simp only [h4, if_false]
        exact ⟨i', rfl, hf⟩
    · obtain ⟨i1, p1, p2⟩ := C_couldBe hw hK hb hb2 hg' hog (o := x) (by omega)
      have hc1 := cbN_le (K := K) (g := g) (σ := σ) (o := x)
      rw [if_neg (nI_ge (by omega) (by omega)), p1, mz_b2]
      have hf2 := FrL_t hf p2
      unfold fX2_chanceOf_45
      have e : wcb K g σ (x + 1) = wcb K g σ x + (if cbN K g σ x = 0 then 0 else ov K x 0) := rfl
      by_cases h4 : cbN K g σ x = 0
      · rw [if_pos h4] at e
        rw [h4, if_pos (show nI 0 = 0 from rfl), nI_1, ← Nat.add_zero (wcb K g σ x), ← e]
        exact ih (x + 1) i1 (by omega) (by omega) hf2
      · rw [if_neg h4] at e
        rw [if_neg (by rw [q0, nI_eq (by omega) (by omega)]; exact h4), q0, c_ofOfficer (WC_f h hf2 (by decide)).1 (by omega) (by omega), mz_b1, nI_add, nI_1, ← e]
        exact ih (x + 1) i1 (by omega) (by omega) hf2
theorem m_chance_l (hK : OkK K) (hb : OkS K b σ) (hb2 : b < 100000) (hog : OkG K g) (ho : o < K 0 4) (h : WM K W σ j) (hg : GuM g j) : ∀ n x j' rv', x ≤ K 0 4 → K 0 4 - x < n → Fr [50, 54, 64] j j' → F5 l41 j j' → RvM rv rv' → ∃ j'' rv'', fX12_tonight_19 n (nI o) (nI (wcb K g σ x)) (nI x) j' rv' = some ((if cbN K g σ o = 0 ∨ wcb K g σ (K 0 4) = 0 then nI 0 else nI (1000000 * ov K o 0) / nI (wcb K g σ (K 0 4))), j'', rv'') ∧ Fr [50, 54, 64] j j'' ∧ F5 l41 j j'' ∧ RvM rv rv'' := by
  have hm4 := hK.2.1
  intro n
  induction n with
  | zero => intro x j' rv' h1 h2; omega
  | succ n ih =>
    intro x j' rv' h1 h2 hf hf5 hr
    have hw := WM_f h hf hf5 (by decide) (by decide)
    have hg' : GuM g j' := GuM_f hg (fun q h1 h2 => hf q (by simp; omega)) (hf5 _ (by decide)) (hf5 _ (by decide))
    rw [fX12_tonight_19, hw.1.2.1]
    unfold fX12_tonight_68 fX12_tonight_48
    by_cases h3 : x = K 0 4
    · subst h3
      have hl := wcb_le (g := g) (σ := σ) hK (Nat.le_refl (K 0 4))
      rw [if_pos (nI_le (by omega) (by omega))]
      by_cases h4 : wcb K g σ (K 0 4) = 0
      · rw [if_pos (by rw [h4]; rfl), if_pos (Or.inr h4)]
        exact ⟨j', rv', rfl, hf, hf5, hr⟩
      · rw [if_neg (by rw [q0, nI_eq (by omega) (by omega)]; exact h4)]
        obtain ⟨j1, rv1, s1, s2, s3, s4⟩ := M_couldBe (rv := rv') hw hK hb hb2 hg' hog ho
        have hc1 := cbN_le (K := K) (g := g) (σ := σ) (o := o)
        rw [s1, mz_b3]
        by_cases h5 : cbN K g σ o = 0
        · rw [if_pos (by rw [h5]; rfl), if_pos (Or.inl h5)]
          exact ⟨j1, rv1, rfl, Fr_t hf s2, F5_t hf5 s3, RvM_t hr s4⟩
        · have e0 : j1 59 (4 * o) = nI (ov K o 0) := by
            rw [s2 59 (by decide)]
            exact hw.1.2.2.2.2.2 _ (by omega)
          rw [if_neg (by rw [q0, nI_eq (by omega) (by omega)]; exact h5), if_neg (show ¬ (cbN K g σ o = 0 ∨ wcb K g σ (K 0 4) = 0) by omega)]
          simp (disch := omega) only [↓mz_lt, ↓mz_b1, ↓mz_b2, ↓mz_b3, mz_b1, mz_b2, mz_b3, mz_lt, mz_o0, mz_o1, nI_add, mz_mul, mz_sub, nI_clamp, mz_in, mz_le, mz_ltp, mz_eq, mz_nm, mz_mn, mz_ml, mz_mlt, mz_nl, mz_mle, qNN, q0, q1, q2, q3, q4, q5, q6, q7, q8, q9, q10, q11, q12, q13, q14, q15, q16, q17, q18, q19, q20, q21, q22, q23, q24, q25, q26, q27, q28, q29, q30, q31, q32, q33, q34, q35, q36, q37, q38, q39, q40, q41, q42, q43, q44, q45, q46, q47, q48, q49, q50, q51, q52, q53, q54, q55, q56, q57, q58, q59, q60, q61, q62, q63, q64, q65, q66, q67, q68, q69, q70, q71, q72, q73, q74, q75, q76, q77, q78, q79, q80, q81, q82, q83, q84, q85, q86, q87, q88, q89, q90, q91, q92, q93, q94, q95, q96, q97, q98, q99, q100, q101, q102, q103, q104, q105, q106, q107, q108, q109, q110, q111, q112, q113, q114, q115, q116, q117, q118, q119, q120, q121, q122, q123, q124, q125, q126, q127, q128, q129, q130, q240, q255, q256, q296, q400, q600, q896, q960, q999, q1000, q11544, q11840, q1000000, q1000000000, ↓reduceIte, if_pos, if_neg, ↓reduceIte, u2r, u2e, u2n, cp2r, cp2s, e0]
          exact ⟨j1, rv1, rfl, Fr_t hf s2, F5_t hf5 s3, RvM_t hr s4⟩
    · obtain ⟨j1, rv1, s1, s2, s3, s4⟩ := M_couldBe (rv := rv') hw hK hb hb2 hg' hog (o := x) (by omega)
      have hc1 := cbN_le (K := K) (g := g) (σ := σ) (o := x)
      have e0 : j1 59 (4 * x) = nI (ov K x 0) := by
        rw [s2 59 (by decide)]
        exact hw.1.2.2.2.2.2 _ (by omega)
      rw [if_neg (nI_ge (by omega) (by omega)), s1, mz_b3]
      have e : wcb K g σ (x + 1) = wcb K g σ x + (if cbN K g σ x = 0 then 0 else ov K x 0) := rfl
      by_cases h4 : cbN K g σ x = 0
      · rw [if_pos h4] at e
        rw [h4, if_pos (show nI 0 = 0 from rfl), nI_1, q0, nI_add, ← e]
        exact ih (x + 1) j1 rv1 (by omega) (by omega) (Fr_t hf s2) (F5_t hf5 s3) (RvM_t hr s4)
      · rw [if_neg h4] at e
        rw [if_neg (by rw [q0, nI_eq (by omega) (by omega)]; exact h4)]
        simp (disch := omega) only [q4, mz_mul, mz_in, nI_clamp, ↓reduceIte, e0, nI_add, q1, ← e]
        exact ih (x + 1) j1 rv1 (by omega) (by omega) (Fr_t hf s2) (F5_t hf5 s3) (RvM_t hr s4)
/-- 26: tonight -/
theorem R_tonight (h : WC K W σ i rv) (h' : WM K W σ j) (hK : OkK K) (hb : OkS K b σ) (hb2 : b < 100000) (hg : GuC g i) (hg' : GuM g j) (hog : OkG K g) (a1 : Int32) : ∃ v i' j' rv2, fX11_tonight a1 i rv = some (v, i') ∧ fX12_tonight a1 j rv' = some (v, j', rv2) ∧ FrL [23, 24] rv i i' ∧ Fr [50, 54, 64] j j' ∧ F5 (0 :: l41) j j' ∧ RvM rv' rv2 := by
  have fr0 : Fr [50, 54, 64] j (u2 j 50 0 (nI 0)) := Fr_w (by decide) Fr_u
  have f50 : F5 (0 :: l41) j (u2 j 50 0 (nI 0)) := F5_w (by decide) F5_u
  have h0 := WM_0 (v' := nI 0) h'
  have hg0 : GuM g (u2 j 50 0 (nI 0)) := GuM_f hg' (fun q h1 h2 => u2r _ _ _ _ _ (by omega)) (u2n _ _ _ _ _ (by omega)) (u2n _ _ _ _ _ (by omega))
  unfold fX11_tonight fX12_tonight fX2_chanceOf
  obtain ⟨fu, hfu, hfu2⟩ := fuel_g
  rw [hfu]
  simp only [mz_lt, q0]
  have hm4 := hK.2.1
  rcases mz_cases a1 with c1 | ⟨o, ho, rfl⟩
  · rw [c_hasOfficer0 c1, m_isOfficer0 c1]
    exact ⟨_, _, _, _, rfl, rfl, fun _ _ _ _ => rfl, fr0, f50, Or.inl rfl⟩
  rw [c_hasOfficer h.1 hK ho, m_isOfficer h0.1 hK ho]
  by_cases h2 : o < K 0 4
  · obtain ⟨j1, rv1, s1, s2, s3, s4⟩ := m_chance_l (rv := rv') hK hb hb2 hog h2 h0 hg0 fu 0 (u2 j 50 0 (nI 0)) rv' (by omega) (by omega) (Fr_r _ _) (F5_r _ _) (Or.inl rfl)
    obtain ⟨i1, p1, p2⟩ := C_couldBe h hK hb hb2 hg hog h2
    have hc1 := cbN_le (K := K) (g := g) (σ := σ) (o := o)
    rw [show wcb K g σ 0 = 0 from rfl] at s1
    simp (disch := omega) only [q1, mz_b1, mz_eq, if_pos, if_neg, ↓reduceIte, p1, mz_b2, s1]
    by_cases h5 : cbN K g σ o = 0
    · rw [if_pos h5, if_pos (Or.inl h5)]
      exact ⟨_, _, _, _, rfl, rfl, p2, Fr_t fr0 s2, F5_t f50 (F5_w (by decide) s3), s4⟩
    · rw [if_neg h5]
      obtain ⟨i2, r1, r2⟩ := c_chance_l hK hb hb2 hog h2 h hg fu 0 i1 (by omega) (by omega) p2
      rw [show wcb K g σ 0 = 0 from rfl] at r1
      rw [r1, mz_b2]
      refine ⟨_, _, _, _, rfl, ?_, r2, Fr_t fr0 s2, F5_t f50 (F5_w (by decide) s3), s4⟩
      by_cases h6 : wcb K g σ (K 0 4) = 0
      · rw [if_pos h6, if_pos (Or.inr h6)]
      · rw [if_neg h6, if_neg (by omega)]
  · simp (disch := omega) only [↓mz_lt, ↓mz_b1, ↓mz_b2, ↓mz_b3, mz_b1, mz_b2, mz_b3, mz_lt, mz_o0, mz_o1, nI_add, mz_mul, mz_sub, nI_clamp, mz_in, mz_le, mz_ltp, mz_eq, mz_nm, mz_mn, mz_ml, mz_mlt, mz_nl, mz_mle, qNN, q0, q1, q2, q3, q4, q5, q6, q7, q8, q9, q10, q11, q12, q13, q14, q15, q16, q17, q18, q19, q20, q21, q22, q23, q24, q25, q26, q27, q28, q29, q30, q31, q32, q33, q34, q35, q36, q37, q38, q39, q40, q41, q42, q43, q44, q45, q46, q47, q48, q49, q50, q51, q52, q53, q54, q55, q56, q57, q58, q59, q60, q61, q62, q63, q64, q65, q66, q67, q68, q69, q70, q71, q72, q73, q74, q75, q76, q77, q78, q79, q80, q81, q82, q83, q84, q85, q86, q87, q88, q89, q90, q91, q92, q93, q94, q95, q96, q97, q98, q99, q100, q101, q102, q103, q104, q105, q106, q107, q108, q109, q110, q111, q112, q113, q114, q115, q116, q117, q118, q119, q120, q121, q122, q123, q124, q125, q126, q127, q128, q129, q130, q240, q255, q256, q296, q400, q600, q896, q960, q999, q1000, q11544, q11840, q1000000, q1000000000, ↓reduceIte, if_pos, if_neg, ↓reduceIte, u2r, u2e, u2n, cp2r, cp2s]
    exact ⟨_, _, _, _, rfl, rfl, fun _ _ _ _ => rfl, fr0, f50, Or.inl rfl⟩
end TN
