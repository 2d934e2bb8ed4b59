/-! more questions: woken, tired, beside, count, log, step, drowsy, hear, lookAt, end -/
/-- the log of a row of the model, out of the class's diary and the number of borders -/
def LgM (d : Nat → Int32) (n : Nat) (w : Nat → Int32) : Prop := w 55 = nI (min 60 n) ∧ ∀ j k, j < min 60 n → k < 4 → w (56 + 4 * (min 60 n - 1 - j) + k) = d (4 * ((n - 1 - j) % 100) + k)
section MQ2
variable {i j : Tb} {K : Nat → Nat → Nat} {σ : Nat → Nat} {q p o k b : Nat}
theorem R_woken (h : CarC 15 K i) (h' : CarM K j) (hK : OkK K) (hs : ScC σ (i 20)) (hw : ScM K σ (j 63)) (a1 : Int32) : ∃ v, fX11_woken a1 i = some v ∧ fX12_woken a1 j = some (v, u2 j 50 0 0) := by
  have hm := hK.1
  have h'' := m_car0 (x := 0) (v := 0) h' (by omega)
  unfold fX11_woken fX12_woken
  rcases mz_cases a1 with h1 | ⟨p, hp, rfl⟩
  · rw [c_hasSleeper0 h1, mz_lt, m_isSleeper0 h1]
    exact ⟨_, rfl, rfl⟩
  rw [c_hasSleeper h hK hp, mz_lt, m_isSleeper h'' hK hp]
  by_cases h2 : p < K 0 3
  · rw [s_timesWoken (q := 19) hs (by omega)]
    simp (disch := omega) only [↓mz_lt, ↓mz_b1, ↓mz_b2, ↓mz_b3, mz_b1, mz_b2, mz_b3, mz_lt, mz_o0, mz_o1, nI_add, mz_mul, mz_sub, nI_clamp, mz_in, mz_le, mz_ltp, mz_eq, mz_nm, mz_mn, mz_ml, mz_mlt, mz_nl, mz_mle, qNN, q0, q1, q2, q3, q4, q5, q6, q7, q8, q9, q10, q11, q12, q13, q14, q15, q16, q17, q18, q19, q20, q21, q22, q23, q24, q25, q26, q27, q28, q29, q30, q31, q32, q33, q34, q35, q36, q37, q38, q39, q40, q41, q42, q43, q44, q45, q46, q47, q48, q49, q50, q51, q52, q53, q54, q55, q56, q57, q58, q59, q60, q61, q62, q63, q64, q65, q66, q67, q68, q69, q70, q71, q72, q73, q74, q75, q76, q77, q78, q79, q80, q81, q82, q83, q84, q85, q86, q87, q88, q89, q90, q91, q92, q93, q94, q95, q96, q97, q98, q99, q100, q101, q102, q103, q104, q105, q106, q107, q108, q109, q110, q111, q112, q113, q114, q115, q116, q117, q118, q119, q120, q121, q122, q123, q124, q125, q126, q127, q128, q129, q130, q240, q255, q256, q296, q400, q600, q896, q960, q999, q1000, q11544, q11840, q1000000, q1000000000, ↓reduceIte, if_pos, if_neg, ↓reduceIte, u2r, u2e, u2n, cp2r, cp2s, (hw.1 p h2).2.2.2.1]
    exact ⟨_, rfl, rfl⟩
  · simp (disch := omega) only [↓mz_lt, ↓mz_b1, ↓mz_b2, ↓mz_b3, mz_b1, mz_b2, mz_b3, mz_lt, mz_o0, mz_o1, nI_add, mz_mul, mz_sub, nI_clamp, mz_in, mz_le, mz_ltp, mz_eq, mz_nm, mz_mn, mz_ml, mz_mlt, mz_nl, mz_mle, qNN, q0, q1, q2, q3, q4, q5, q6, q7, q8, q9, q10, q11, q12, q13, q14, q15, q16, q17, q18, q19, q20, q21, q22, q23, q24, q25, q26, q27, q28, q29, q30, q31, q32, q33, q34, q35, q36, q37, q38, q39, q40, q41, q42, q43, q44, q45, q46, q47, q48, q49, q50, q51, q52, q53, q54, q55, q56, q57, q58, q59, q60, q61, q62, q63, q64, q65, q66, q67, q68, q69, q70, q71, q72, q73, q74, q75, q76, q77, q78, q79, q80, q81, q82, q83, q84, q85, q86, q87, q88, q89, q90, q91, q92, q93, q94, q95, q96, q97, q98, q99, q100, q101, q102, q103, q104, q105, q106, q107, q108, q109, q110, q111, q112, q113, q114, q115, q116, q117, q118, q119, q120, q121, q122, q123, q124, q125, q126, q127, q128, q129, q130, q240, q255, q256, q296, q400, q600, q896, q960, q999, q1000, q11544, q11840, q1000000, q1000000000, ↓reduceIte, if_pos, if_neg, ↓reduceIte, u2r, u2e, u2n, cp2r, cp2s]
    exact ⟨_, rfl, rfl⟩
theorem R_tired_l (h : CarC 15 K i) (h' : CarM K j) (hK : OkK K) (hb : OkS K b σ) (hb2 : b < 20000000) (hs : ScC σ (i 20)) (hw : ScM K σ (j 63)) : ∀ n k x1 x2, k ≤ K 0 3 → K 0 3 - k < n → (x2 = NN ∧ x1 = nI 0 ∨ ∃ p, p < K 0 3 ∧ x2 = nI p ∧ x1 = nI (σ (45 + p))) → ∃ v, fX11_tired_6 n x1 x2 (nI k) i = some v ∧ fX12_tired_9 n x2 (nI k) j = some (v, j) := by
  have hm := hK.1
  intro n
  induction n with
  | zero => intro k x1 x2 h1 h2; omega
  | succ n ih =>
    intro k x1 x2 h1 h2 h3
    rw [fX11_tired_6, fX12_tired_9]
    unfold fX1_sleepers
    by_cases h4 : k = K 0 3
    · subst h4
      simp (disch := omega) only [↓mz_lt, ↓mz_b1, ↓mz_b2, ↓mz_b3, mz_b1, mz_b2, mz_b3, mz_lt, mz_o0, mz_o1, nI_add, mz_mul, mz_sub, nI_clamp, mz_in, mz_le, mz_ltp, mz_eq, mz_nm, mz_mn, mz_ml, mz_mlt, mz_nl, mz_mle, qNN, q0, q1, q2, q3, q4, q5, q6, q7, q8, q9, q10, q11, q12, q13, q14, q15, q16, q17, q18, q19, q20, q21, q22, q23, q24, q25, q26, q27, q28, q29, q30, q31, q32, q33, q34, q35, q36, q37, q38, q39, q40, q41, q42, q43, q44, q45, q46, q47, q48, q49, q50, q51, q52, q53, q54, q55, q56, q57, q58, q59, q60, q61, q62, q63, q64, q65, q66, q67, q68, q69, q70, q71, q72, q73, q74, q75, q76, q77, q78, q79, q80, q81, q82, q83, q84, q85, q86, q87, q88, q89, q90, q91, q92, q93, q94, q95, q96, q97, q98, q99, q100, q101, q102, q103, q104, q105, q106, q107, q108, q109, q110, q111, q112, q113, q114, q115, q116, q117, q118, q119, q120, q121, q122, q123, q124, q125, q126, q127, q128, q129, q130, q240, q255, q256, q296, q400, q600, q896, q960, q999, q1000, q11544, q11840, q1000000, q1000000000, ↓reduceIte, if_pos, if_neg, ↓reduceIte, u2r, u2e, u2n, cp2r, cp2s, h.1, h'.1]
      exact ⟨_, rfl, rfl⟩
    · rw [s_lostBy (q := 19) hs (by omega)]
      have hk := (hb.2.2.2.2.2.2.1 k (by omega))
      rcases h3 with ⟨rfl, rfl⟩ | ⟨p, hp, rfl, rfl⟩
      · simp (disch := omega) only [↓mz_lt, ↓mz_b1, ↓mz_b2, ↓mz_b3, mz_b1, mz_b2, mz_b3, mz_lt, mz_o0, mz_o1, nI_add, mz_mul, mz_sub, nI_clamp, mz_in, mz_le, mz_ltp, mz_eq, mz_nm, mz_mn, mz_ml, mz_mlt, mz_nl, mz_mle, qNN, q0, q1, q2, q3, q4, q5, q6, q7, q8, q9, q10, q11, q12, q13, q14, q15, q16, q17, q18, q19, q20, q21, q22, q23, q24, q25, q26, q27, q28, q29, q30, q31, q32, q33, q34, q35, q36, q37, q38, q39, q40, q41, q42, q43, q44, q45, q46, q47, q48, q49, q50, q51, q52, q53, q54, q55, q56, q57, q58, q59, q60, q61, q62, q63, q64, q65, q66, q67, q68, q69, q70, q71, q72, q73, q74, q75, q76, q77, q78, q79, q80, q81, q82, q83, q84, q85, q86, q87, q88, q89, q90, q91, q92, q93, q94, q95, q96, q97, q98, q99, q100, q101, q102, q103, q104, q105, q106, q107, q108, q109, q110, q111, q112, q113, q114, q115, q116, q117, q118, q119, q120, q121, q122, q123, q124, q125, q126, q127, q128, q129, q130, q240, q255, q256, q296, q400, q600, q896, q960, q999, q1000, q11544, q11840, q1000000, q1000000000, ↓reduceIte, if_pos, if_neg, ↓reduceIte, u2r, u2e, u2n, cp2r, cp2s, h.1, h'.1, (hw.1 k (by omega)).2.2.2.2, fX11_tired_40, fX12_tired_48, fX12_tired_53]
        by_cases h5 : σ (45 + k) = 0
        · simp (disch := omega) only [↓mz_lt, ↓mz_b1, ↓mz_b2, ↓mz_b3, mz_b1, mz_b2, mz_b3, mz_lt, mz_o0, mz_o1, nI_add, mz_mul, mz_sub, nI_clamp, mz_in, mz_le, mz_ltp, mz_eq, mz_nm, mz_mn, mz_ml, mz_mlt, mz_nl, mz_mle, qNN, q0, q1, q2, q3, q4, q5, q6, q7, q8, q9, q10, q11, q12, q13, q14, q15, q16, q17, q18, q19, q20, q21, q22, q23, q24, q25, q26, q27, q28, q29, q30, q31, q32, q33, q34, q35, q36, q37, q38, q39, q40, q41, q42, q43, q44, q45, q46, q47, q48, q49, q50, q51, q52, q53, q54, q55, q56, q57, q58, q59, q60, q61, q62, q63, q64, q65, q66, q67, q68, q69, q70, q71, q72, q73, q74, q75, q76, q77, q78, q79, q80, q81, q82, q83, q84, q85, q86, q87, q88, q89, q90, q91, q92, q93, q94, q95, q96, q97, q98, q99, q100, q101, q102, q103, q104, q105, q106, q107, q108, q109, q110, q111, q112, q113, q114, q115, q116, q117, q118, q119, q120, q121, q122, q123, q124, q125, q126, q127, q128, q129, q130, q240, q255, q256, q296, q400, q600, q896, q960, q999, q1000, q11544, q11840, q1000000, q1000000000, ↓reduceIte, if_pos, if_neg, ↓reduceIte, u2r, u2e, u2n, cp2r, cp2s]
          exact ih (k + 1) _ _ (by omega) (by omega) (Or.inl ⟨rfl, rfl⟩)
        · simp (disch := omega) only [↓mz_lt, ↓mz_b1, ↓mz_b2, ↓mz_b3, mz_b1, mz_b2, mz_b3, mz_lt, mz_o0, mz_o1, nI_add, mz_mul, mz_sub, nI_clamp, mz_in, mz_le, mz_ltp, mz_eq, mz_nm, mz_mn, mz_ml, mz_mlt, mz_nl, mz_mle, qNN, q0, q1, q2, q3, q4, q5, q6, q7, q8, q9, q10, q11, q12, q13, q14, q15, q16, q17, q18, q19, q20, q21, q22, q23, q24, q25, q26, q27, q28, q29, q30, q31, q32, q33, q34, q35, q36, q37, q38, q39, q40, q41, q42, q43, q44, q45, q46, q47, q48, q49, q50, q51, q52, q53, q54, q55, q56, q57, q58, q59, q60, q61, q62, q63, q64, q65, q66, q67, q68, q69, q70, q71, q72, q73, q74, q75, q76, q77, q78, q79, q80, q81, q82, q83, q84, q85, q86, q87, q88, q89, q90, q91, q92, q93, q94, q95, q96, q97, q98, q99, q100, q101, q102, q103, q104, q105, q106, q107, q108, q109, q110, q111, q112, q113, q114, q115, q116, q117, q118, q119, q120, q121, q122, q123, q124, q125, q126, q127, q128, q129, q130, q240, q255, q256, q296, q400, q600, q896, q960, q999, q1000, q11544, q11840, q1000000, q1000000000, ↓reduceIte, if_pos, if_neg, ↓reduceIte, u2r, u2e, u2n, cp2r, cp2s]
          exact ih (k + 1) _ _ (by omega) (by omega) (Or.inr ⟨k, by omega, rfl, rfl⟩)
      · have hp2 := (hb.2.2.2.2.2.2.1 p (by omega))
        simp (disch := omega) only [↓mz_lt, ↓mz_b1, ↓mz_b2, ↓mz_b3, mz_b1, mz_b2, mz_b3, mz_lt, mz_o0, mz_o1, nI_add, mz_mul, mz_sub, nI_clamp, mz_in, mz_le, mz_ltp, mz_eq, mz_nm, mz_mn, mz_ml, mz_mlt, mz_nl, mz_mle, qNN, q0, q1, q2, q3, q4, q5, q6, q7, q8, q9, q10, q11, q12, q13, q14, q15, q16, q17, q18, q19, q20, q21, q22, q23, q24, q25, q26, q27, q28, q29, q30, q31, q32, q33, q34, q35, q36, q37, q38, q39, q40, q41, q42, q43, q44, q45, q46, q47, q48, q49, q50, q51, q52, q53, q54, q55, q56, q57, q58, q59, q60, q61, q62, q63, q64, q65, q66, q67, q68, q69, q70, q71, q72, q73, q74, q75, q76, q77, q78, q79, q80, q81, q82, q83, q84, q85, q86, q87, q88, q89, q90, q91, q92, q93, q94, q95, q96, q97, q98, q99, q100, q101, q102, q103, q104, q105, q106, q107, q108, q109, q110, q111, q112, q113, q114, q115, q116, q117, q118, q119, q120, q121, q122, q123, q124, q125, q126, q127, q128, q129, q130, q240, q255, q256, q296, q400, q600, q896, q960, q999, q1000, q11544, q11840, q1000000, q1000000000, ↓reduceIte, if_pos, if_neg, ↓reduceIte, u2r, u2e, u2n, cp2r, cp2s, h.1, h'.1, (hw.1 k (by omega)).2.2.2.2, (hw.1 p (by omega)).2.2.2.2, fX11_tired_40, fX12_tired_48, fX12_tired_53]
        by_cases h5 : σ (45 + k) ≤ σ (45 + p)
        · simp (disch := omega) only [↓mz_lt, ↓mz_b1, ↓mz_b2, ↓mz_b3, mz_b1, mz_b2, mz_b3, mz_lt, mz_o0, mz_o1, nI_add, mz_mul, mz_sub, nI_clamp, mz_in, mz_le, mz_ltp, mz_eq, mz_nm, mz_mn, mz_ml, mz_mlt, mz_nl, mz_mle, qNN, q0, q1, q2, q3, q4, q5, q6, q7, q8, q9, q10, q11, q12, q13, q14, q15, q16, q17, q18, q19, q20, q21, q22, q23, q24, q25, q26, q27, q28, q29, q30, q31, q32, q33, q34, q35, q36, q37, q38, q39, q40, q41, q42, q43, q44, q45, q46, q47, q48, q49, q50, q51, q52, q53, q54, q55, q56, q57, q58, q59, q60, q61, q62, q63, q64, q65, q66, q67, q68, q69, q70, q71, q72, q73, q74, q75, q76, q77, q78, q79, q80, q81, q82, q83, q84, q85, q86, q87, q88, q89, q90, q91, q92, q93, q94, q95, q96, q97, q98, q99, q100, q101, q102, q103, q104, q105, q106, q107, q108, q109, q110, q111, q112, q113, q114, q115, q116, q117, q118, q119, q120, q121, q122, q123, q124, q125, q126, q127, q128, q129, q130, q240, q255, q256, q296, q400, q600, q896, q960, q999, q1000, q11544, q11840, q1000000, q1000000000, ↓reduceIte, if_pos, if_neg, ↓reduceIte, u2r, u2e, u2n, cp2r, cp2s]
          exact ih (k + 1) _ _ (by omega) (by omega) (Or.inr ⟨p, by omega, rfl, rfl⟩)
        · simp (disch := omega) only [↓mz_lt, ↓mz_b1, ↓mz_b2, ↓mz_b3, mz_b1, mz_b2, mz_b3, mz_lt, mz_o0, mz_o1, nI_add, mz_mul, mz_sub, nI_clamp, mz_in, mz_le, mz_ltp, mz_eq, mz_nm, mz_mn, mz_ml, mz_mlt, mz_nl, mz_mle, qNN, q0, q1, q2, q3, q4, q5, q6, q7, q8, q9, q10, q11, q12, q13, q14, q15, q16, q17, q18, q19, q20, q21, q22, q23, q24, q25, q26, q27, q28, q29, q30, q31, q32, q33, q34, q35, q36, q37, q38, q39, q40, q41, q42, q43, q44, q45, q46, q47, q48, q49, q50, q51, q52, q53, q54, q55, q56, q57, q58, q59, q60, q61, q62, q63, q64, q65, q66, q67, q68, q69, q70, q71, q72, q73, q74, q75, q76, q77, q78, q79, q80, q81, q82, q83, q84, q85, q86, q87, q88, q89, q90, q91, q92, q93, q94, q95, q96, q97, q98, q99, q100, q101, q102, q103, q104, q105, q106, q107, q108, q109, q110, q111, q112, q113, q114, q115, q116, q117, q118, q119, q120, q121, q122, q123, q124, q125, q126, q127, q128, q129, q130, q240, q255, q256, q296, q400, q600, q896, q960, q999, q1000, q11544, q11840, q1000000, q1000000000, ↓reduceIte, if_pos, if_neg, ↓reduceIte, u2r, u2e, u2n, cp2r, cp2s]
          exact ih (k + 1) _ _ (by omega) (by omega) (Or.inr ⟨k, by omega, rfl, rfl⟩)
theorem R_tired (h : CarC 15 K i) (h' : CarM K j) (hK : OkK K) (hb : OkS K b σ) (hb2 : b < 20000000) (hs : ScC σ (i 20)) (hw : ScM K σ (j 63)) : ∃ v, fX11_tired i = some v ∧ fX12_tired j = some (v, u2 j 50 0 0) := by
  have hm := hK.1
  have h'' := m_car0 (x := 0) (v := 0) h' (by omega)
  have hw' : ScM K σ (u2 j 50 0 0 63) := by rw [u2r _ _ _ _ _ (by omega)]; exact hw
  exact R_tired_l h h'' hK hb hb2 hs hw' fuel 0 _ _ (by omega) (by show K 0 3 - 0 < 30000; omega) (Or.inl ⟨rfl, rfl⟩)
theorem s_areBeside (hb : OkS K b σ) (hK : OkK K) (hs : ScC σ (i (q + 1))) (hp : p < K 0 3) (hk : k < K 0 3) : fX8_areBeside q (nI p) (nI k) i = some (if σ p + 1 = σ k ∨ σ k + 1 = σ p then 1 else 0) := by
  have hm := hK.1
  have h1 := hb.1 p hp
  have h2 := hb.1 k hk
  unfold fX8_areBeside
  simp (disch := omega) only [q0, q1, nI_add, Nat.zero_add, mz_in, nI_clamp, hs _ _, ↓reduceIte, mz_abs1]
  split <;> rfl
theorem R_beside_l (h : CarC 15 K i) (h' : CarM K j) (hK : OkK K) (hb : OkS K b σ) (hs : ScC σ (i 20)) (hw : ScM K σ (j 63)) (hp : p < K 0 3) : ∀ n k x, k ≤ K 0 3 → K 0 3 - k < n → ∃ v, fX11_beside_17 n (nI p) x (nI k) i = some v ∧ fX12_beside_19 n (nI p) x (nI k) j = some (v, j) := by
  have hm := hK.1
  intro n
  induction n with
  | zero => intro k x h1 h2; omega
  | succ n ih =>
    intro k x h1 h2
    rw [fX11_beside_17, fX12_beside_19]
    unfold fX1_sleepers
    by_cases h4 : k = K 0 3
    · subst h4
      simp (disch := omega) only [↓mz_lt, ↓mz_b1, ↓mz_b2, ↓mz_b3, mz_b1, mz_b2, mz_b3, mz_lt, mz_o0, mz_o1, nI_add, mz_mul, mz_sub, nI_clamp, mz_in, mz_le, mz_ltp, mz_eq, mz_nm, mz_mn, mz_ml, mz_mlt, mz_nl, mz_mle, qNN, q0, q1, q2, q3, q4, q5, q6, q7, q8, q9, q10, q11, q12, q13, q14, q15, q16, q17, q18, q19, q20, q21, q22, q23, q24, q25, q26, q27, q28, q29, q30, q31, q32, q33, q34, q35, q36, q37, q38, q39, q40, q41, q42, q43, q44, q45, q46, q47, q48, q49, q50, q51, q52, q53, q54, q55, q56, q57, q58, q59, q60, q61, q62, q63, q64, q65, q66, q67, q68, q69, q70, q71, q72, q73, q74, q75, q76, q77, q78, q79, q80, q81, q82, q83, q84, q85, q86, q87, q88, q89, q90, q91, q92, q93, q94, q95, q96, q97, q98, q99, q100, q101, q102, q103, q104, q105, q106, q107, q108, q109, q110, q111, q112, q113, q114, q115, q116, q117, q118, q119, q120, q121, q122, q123, q124, q125, q126, q127, q128, q129, q130, q240, q255, q256, q296, q400, q600, q896, q960, q999, q1000, q11544, q11840, q1000000, q1000000000, ↓reduceIte, if_pos, if_neg, ↓reduceIte, u2r, u2e, u2n, cp2r, cp2s, h.1, h'.1]
      exact ⟨_, rfl, rfl⟩
    · have h5 := hb.1 p hp
      have h6 := hb.1 k (by omega)
      rw [s_areBeside (q := 19) hb hK hs (by omega) hp]
      simp (disch := omega) only [q0, q1, q6, mz_b1, h.1, h'.1, mz_le, if_pos, if_neg, ↓reduceIte, mz_mul, nI_add, nI_clamp, mz_in, Nat.add_zero, (hw.1 k (by omega)).1, (hw.1 p (by omega)).1, mz_abs1, fX12_beside_65, fX11_beside_46]
      by_cases h7 : σ p + 1 = σ k ∨ σ k + 1 = σ p
      · have h8 : σ k + 1 = σ p ∨ σ p + 1 = σ k := h7.symm
        simp (disch := omega) only [if_pos, if_neg, ↓reduceIte, h7, h8, mz_eq]
        exact ih (k + 1) _ (by omega) (by omega)
      · have h8 : ¬ (σ k + 1 = σ p ∨ σ p + 1 = σ k) := fun e => h7 e.symm
        simp (disch := omega) only [if_pos, if_neg, ↓reduceIte, h7, h8, mz_eq]
        rw [show x ||| nI 0 = x from Int32.or_zero]
        exact ih (k + 1) _ (by omega) (by omega)
theorem R_beside (h : CarC 15 K i) (h' : CarM K j) (hK : OkK K) (hb : OkS K b σ) (hs : ScC σ (i 20)) (hw : ScM K σ (j 63)) (a1 : Int32) : ∃ v, fX11_beside a1 i = some v ∧ fX12_beside a1 j = some (v, u2 j 50 0 0) := by
  have hm := hK.1
  have h'' := m_car0 (x := 0) (v := 0) h' (by omega)
  have hw' : ScM K σ (u2 j 50 0 0 63) := by rw [u2r _ _ _ _ _ (by omega)]; exact hw
  unfold fX11_beside fX12_beside
  rcases mz_cases a1 with h1 | ⟨p, hp, rfl⟩
  · rw [c_hasSleeper0 h1, mz_lt, m_isSleeper0 h1]
    exact ⟨_, rfl, rfl⟩
  rw [c_hasSleeper h hK hp, mz_lt, m_isSleeper h'' hK hp]
  by_cases h2 : p < K 0 3
  · simp (disch := omega) only [mz_b1, if_pos, if_neg, ↓reduceIte, q1, q0, mz_eq]
    exact R_beside_l h h'' hK hb hs hw' h2 fuel 0 _ (by omega) (by show K 0 3 - 0 < 30000; omega)
  · simp (disch := omega) only [↓mz_lt, ↓mz_b1, ↓mz_b2, ↓mz_b3, mz_b1, mz_b2, mz_b3, mz_lt, mz_o0, mz_o1, nI_add, mz_mul, mz_sub, nI_clamp, mz_in, mz_le, mz_ltp, mz_eq, mz_nm, mz_mn, mz_ml, mz_mlt, mz_nl, mz_mle, qNN, q0, q1, q2, q3, q4, q5, q6, q7, q8, q9, q10, q11, q12, q13, q14, q15, q16, q17, q18, q19, q20, q21, q22, q23, q24, q25, q26, q27, q28, q29, q30, q31, q32, q33, q34, q35, q36, q37, q38, q39, q40, q41, q42, q43, q44, q45, q46, q47, q48, q49, q50, q51, q52, q53, q54, q55, q56, q57, q58, q59, q60, q61, q62, q63, q64, q65, q66, q67, q68, q69, q70, q71, q72, q73, q74, q75, q76, q77, q78, q79, q80, q81, q82, q83, q84, q85, q86, q87, q88, q89, q90, q91, q92, q93, q94, q95, q96, q97, q98, q99, q100, q101, q102, q103, q104, q105, q106, q107, q108, q109, q110, q111, q112, q113, q114, q115, q116, q117, q118, q119, q120, q121, q122, q123, q124, q125, q126, q127, q128, q129, q130, q240, q255, q256, q296, q400, q600, q896, q960, q999, q1000, q11544, q11840, q1000000, q1000000000, ↓reduceIte, if_pos, if_neg, ↓reduceIte, u2r, u2e, u2n, cp2r, cp2s]
    exact ⟨_, rfl, rfl⟩
end MQ2
