/-! lookAt, end, feed -/
section TP
variable {i j : Tb} {K g : Nat → Nat → Nat} {σ : Nat → Nat} {q p o k b d : Nat}
theorem R_lookAt (hK : OkK K) (h : CarC 15 K i) (h' : CarM K j) (hg : GuC g i) (hg' : GuM g j) (ho : OkG K g) (a1 a2 : Int32) (ha : a2 = nI 0 ∨ a2 = nI 1) : ∃ v i' j' g', fX11_lookAt a1 a2 i = some (v, i') ∧ fX12_lookAt a1 a2 j = some (v, j') ∧ GuC g' i' ∧ GuM g' j' ∧ OkG K g' ∧ Fr [45, 48, 49] i i' ∧ Fr [50, 69, 70] j j' ∧ F5 [0, 52] j j' := by
  have hm := hK.1
  have f5 : F5 [0, 52] j (u2 j 50 0 (nI 0)) := F5_w (by decide) F5_u
  have fr : Fr [50, 69, 70] j (u2 j 50 0 (nI 0)) := Fr_w (by decide) Fr_u
  have hg0 : GuM g (u2 j 50 0 (nI 0)) := GuM_f hg' (fun q h1 h2 => u2r _ _ _ _ _ (by omega)) (u2n _ _ _ _ _ (by omega)) (u2n _ _ _ _ _ (by omega))
  have h'' := m_car0 (x := 0) (v := 0) h' (by omega)
  obtain ⟨hg8, hgl, hgh, hgk⟩ := ho
  unfold fX11_lookAt fX12_lookAt fX2_addLook
  rcases mz_cases a1 with h1 | ⟨x, hx, rfl⟩
  · simp only [mz_lt]
    rw [c_hasSleeper0 h1, m_isSleeper0 h1]
    simp (disch := omega) only [↓mz_lt, ↓mz_b1, ↓mz_b2, ↓mz_b3, mz_b1, mz_b2, mz_b3, mz_lt, mz_o0, mz_o1, nI_add, mz_mul, mz_sub, nI_clamp, mz_in, mz_le, mz_ltp, mz_eq, mz_nm, mz_mn, mz_ml, mz_mlt, mz_nl, mz_mle, qNN, q0, q1, q2, q3, q4, q5, q6, q7, q8, q9, q10, q11, q12, q13, q14, q15, q16, q17, q18, q19, q20, q21, q22, q23, q24, q25, q26, q27, q28, q29, q30, q31, q32, q33, q34, q35, q36, q37, q38, q39, q40, q41, q42, q43, q44, q45, q46, q47, q48, q49, q50, q51, q52, q53, q54, q55, q56, q57, q58, q59, q60, q61, q62, q63, q64, q65, q66, q67, q68, q69, q70, q71, q72, q73, q74, q75, q76, q77, q78, q79, q80, q81, q82, q83, q84, q85, q86, q87, q88, q89, q90, q91, q92, q93, q94, q95, q96, q97, q98, q99, q100, q101, q102, q103, q104, q105, q106, q107, q108, q109, q110, q111, q112, q113, q114, q115, q116, q117, q118, q119, q120, q121, q122, q123, q124, q125, q126, q127, q128, q129, q130, q240, q255, q256, q296, q400, q600, q896, q960, q999, q1000, q11544, q11840, q1000000, q1000000000, ↓reduceIte, if_pos, if_neg, ↓reduceIte, u2r, u2e, u2n, cp2r, cp2s]
    exact ⟨_, _, _, g, rfl, rfl, hg, hg0, ⟨hg8, hgl, hgh, hgk⟩, Fr_r _ _, fr, f5⟩
  · simp only [mz_lt]
    rw [c_hasSleeper h hK hx, m_isSleeper h'' hK hx]
    by_cases h2 : x < K 0 3
    · by_cases h3 : g 0 1 = 10
      · simp (disch := omega) only [↓mz_lt, ↓mz_b1, ↓mz_b2, ↓mz_b3, mz_b1, mz_b2, mz_b3, mz_lt, mz_o0, mz_o1, nI_add, mz_mul, mz_sub, nI_clamp, mz_in, mz_le, mz_ltp, mz_eq, mz_nm, mz_mn, mz_ml, mz_mlt, mz_nl, mz_mle, qNN, q0, q1, q2, q3, q4, q5, q6, q7, q8, q9, q10, q11, q12, q13, q14, q15, q16, q17, q18, q19, q20, q21, q22, q23, q24, q25, q26, q27, q28, q29, q30, q31, q32, q33, q34, q35, q36, q37, q38, q39, q40, q41, q42, q43, q44, q45, q46, q47, q48, q49, q50, q51, q52, q53, q54, q55, q56, q57, q58, q59, q60, q61, q62, q63, q64, q65, q66, q67, q68, q69, q70, q71, q72, q73, q74, q75, q76, q77, q78, q79, q80, q81, q82, q83, q84, q85, q86, q87, q88, q89, q90, q91, q92, q93, q94, q95, q96, q97, q98, q99, q100, q101, q102, q103, q104, q105, q106, q107, q108, q109, q110, q111, q112, q113, q114, q115, q116, q117, q118, q119, q120, q121, q122, q123, q124, q125, q126, q127, q128, q129, q130, q240, q255, q256, q296, q400, q600, q896, q960, q999, q1000, q11544, q11840, q1000000, q1000000000, ↓reduceIte, if_pos, if_neg, ↓reduceIte, u2r, u2e, u2n, cp2r, cp2s, hg.2.1, hg'.2.1]
        exact ⟨_, _, _, g, rfl, rfl, hg, hg0, ⟨hg8, hgl, hgh, hgk⟩, Fr_r _ _, fr, f5⟩
      · obtain ⟨z, hz, rfl⟩ : ∃ z, z ≤ 1 ∧ a2 = nI z := by
          rcases ha with rfl | rfl
          · exact ⟨0, by omega, rfl⟩
          · exact ⟨1, by omega, rfl⟩
        simp (disch := omega) only [↓mz_lt, ↓mz_b1, ↓mz_b2, ↓mz_b3, mz_b1, mz_b2, mz_b3, mz_lt, mz_o0, mz_o1, nI_add, mz_mul, mz_sub, nI_clamp, mz_in, mz_le, mz_ltp, mz_eq, mz_nm, mz_mn, mz_ml, mz_mlt, mz_nl, mz_mle, qNN, q0, q1, q2, q3, q4, q5, q6, q7, q8, q9, q10, q11, q12, q13, q14, q15, q16, q17, q18, q19, q20, q21, q22, q23, q24, q25, q26, q27, q28, q29, q30, q31, q32, q33, q34, q35, q36, q37, q38, q39, q40, q41, q42, q43, q44, q45, q46, q47, q48, q49, q50, q51, q52, q53, q54, q55, q56, q57, q58, q59, q60, q61, q62, q63, q64, q65, q66, q67, q68, q69, q70, q71, q72, q73, q74, q75, q76, q77, q78, q79, q80, q81, q82, q83, q84, q85, q86, q87, q88, q89, q90, q91, q92, q93, q94, q95, q96, q97, q98, q99, q100, q101, q102, q103, q104, q105, q106, q107, q108, q109, q110, q111, q112, q113, q114, q115, q116, q117, q118, q119, q120, q121, q122, q123, q124, q125, q126, q127, q128, q129, q130, q240, q255, q256, q296, q400, q600, q896, q960, q999, q1000, q11544, q11840, q1000000, q1000000000, ↓reduceIte, if_pos, if_neg, ↓reduceIte, u2r, u2e, u2n, cp2r, cp2s, hg.2.1, hg'.2.1, vp_b01 ha]
        refine ⟨_, _, _, fun a c => if a = 0 then (if c = 1 then g 0 1 + 1 else g 0 c) else if a = 3 then (if c = g 0 1 then x else g 3 c) else if a = 4 then (if c = g 0 1 then z else g 4 c) else g a c, rfl, rfl, ⟨?_, ?_, ?_, ?_⟩, ⟨?_, ?_, ?_, ?_⟩, ⟨?_, ?_, ?_, ?_⟩, ?_, ?_, ?_⟩
        · simp (disch := omega) only [↓mz_lt, ↓mz_b1, ↓mz_b2, ↓mz_b3, mz_b1, mz_b2, mz_b3, mz_lt, mz_o0, mz_o1, nI_add, mz_mul, mz_sub, nI_clamp, mz_in, mz_le, mz_ltp, mz_eq, mz_nm, mz_mn, mz_ml, mz_mlt, mz_nl, mz_mle, qNN, q0, q1, q2, q3, q4, q5, q6, q7, q8, q9, q10, q11, q12, q13, q14, q15, q16, q17, q18, q19, q20, q21, q22, q23, q24, q25, q26, q27, q28, q29, q30, q31, q32, q33, q34, q35, q36, q37, q38, q39, q40, q41, q42, q43, q44, q45, q46, q47, q48, q49, q50, q51, q52, q53, q54, q55, q56, q57, q58, q59, q60, q61, q62, q63, q64, q65, q66, q67, q68, q69, q70, q71, q72, q73, q74, q75, q76, q77, q78, q79, q80, q81, q82, q83, q84, q85, q86, q87, q88, q89, q90, q91, q92, q93, q94, q95, q96, q97, q98, q99, q100, q101, q102, q103, q104, q105, q106, q107, q108, q109, q110, q111, q112, q113, q114, q115, q116, q117, q118, q119, q120, q121, q122, q123, q124, q125, q126, q127, q128, q129, q130, q240, q255, q256, q296, q400, q600, q896, q960, q999, q1000, q11544, q11840, q1000000, q1000000000, ↓reduceIte, if_pos, if_neg, ↓reduceIte, u2r, u2e, u2n, cp2r, cp2s, hg.1]
        · simp (disch := omega) only [↓mz_lt, ↓mz_b1, ↓mz_b2, ↓mz_b3, mz_b1, mz_b2, mz_b3, mz_lt, mz_o0, mz_o1, nI_add, mz_mul, mz_sub, nI_clamp, mz_in, mz_le, mz_ltp, mz_eq, mz_nm, mz_mn, mz_ml, mz_mlt, mz_nl, mz_mle, qNN, q0, q1, q2, q3, q4, q5, q6, q7, q8, q9, q10, q11, q12, q13, q14, q15, q16, q17, q18, q19, q20, q21, q22, q23, q24, q25, q26, q27, q28, q29, q30, q31, q32, q33, q34, q35, q36, q37, q38, q39, q40, q41, q42, q43, q44, q45, q46, q47, q48, q49, q50, q51, q52, q53, q54, q55, q56, q57, q58, q59, q60, q61, q62, q63, q64, q65, q66, q67, q68, q69, q70, q71, q72, q73, q74, q75, q76, q77, q78, q79, q80, q81, q82, q83, q84, q85, q86, q87, q88, q89, q90, q91, q92, q93, q94, q95, q96, q97, q98, q99, q100, q101, q102, q103, q104, q105, q106, q107, q108, q109, q110, q111, q112, q113, q114, q115, q116, q117, q118, q119, q120, q121, q122, q123, q124, q125, q126, q127, q128, q129, q130, q240, q255, q256, q296, q400, q600, q896, q960, q999, q1000, q11544, q11840, q1000000, q1000000000, ↓reduceIte, if_pos, if_neg, ↓reduceIte, u2r, u2e, u2n, cp2r, cp2s]
        · intro k hk
          simp (disch := omega) only [if_pos, if_neg, ↓reduceIte] at hk
          simp (disch := omega) only [↓mz_lt, ↓mz_b1, ↓mz_b2, ↓mz_b3, mz_b1, mz_b2, mz_b3, mz_lt, mz_o0, mz_o1, nI_add, mz_mul, mz_sub, nI_clamp, mz_in, mz_le, mz_ltp, mz_eq, mz_nm, mz_mn, mz_ml, mz_mlt, mz_nl, mz_mle, qNN, q0, q1, q2, q3, q4, q5, q6, q7, q8, q9, q10, q11, q12, q13, q14, q15, q16, q17, q18, q19, q20, q21, q22, q23, q24, q25, q26, q27, q28, q29, q30, q31, q32, q33, q34, q35, q36, q37, q38, q39, q40, q41, q42, q43, q44, q45, q46, q47, q48, q49, q50, q51, q52, q53, q54, q55, q56, q57, q58, q59, q60, q61, q62, q63, q64, q65, q66, q67, q68, q69, q70, q71, q72, q73, q74, q75, q76, q77, q78, q79, q80, q81, q82, q83, q84, q85, q86, q87, q88, q89, q90, q91, q92, q93, q94, q95, q96, q97, q98, q99, q100, q101, q102, q103, q104, q105, q106, q107, q108, q109, q110, q111, q112, q113, q114, q115, q116, q117, q118, q119, q120, q121, q122, q123, q124, q125, q126, q127, q128, q129, q130, q240, q255, q256, q296, q400, q600, q896, q960, q999, q1000, q11544, q11840, q1000000, q1000000000, ↓reduceIte, if_pos, if_neg, ↓reduceIte, u2r, u2e, u2n, cp2r, cp2s]
          exact hg.2.2.1 k hk
        · intro k hk
          simp (disch := omega) only [if_pos, if_neg, ↓reduceIte] at hk
          by_cases h4 : k = g 0 1
          · subst h4
            simp (disch := omega) only [↓mz_lt, ↓mz_b1, ↓mz_b2, ↓mz_b3, mz_b1, mz_b2, mz_b3, mz_lt, mz_o0, mz_o1, nI_add, mz_mul, mz_sub, nI_clamp, mz_in, mz_le, mz_ltp, mz_eq, mz_nm, mz_mn, mz_ml, mz_mlt, mz_nl, mz_mle, qNN, q0, q1, q2, q3, q4, q5, q6, q7, q8, q9, q10, q11, q12, q13, q14, q15, q16, q17, q18, q19, q20, q21, q22, q23, q24, q25, q26, q27, q28, q29, q30, q31, q32, q33, q34, q35, q36, q37, q38, q39, q40, q41, q42, q43, q44, q45, q46, q47, q48, q49, q50, q51, q52, q53, q54, q55, q56, q57, q58, q59, q60, q61, q62, q63, q64, q65, q66, q67, q68, q69, q70, q71, q72, q73, q74, q75, q76, q77, q78, q79, q80, q81, q82, q83, q84, q85, q86, q87, q88, q89, q90, q91, q92, q93, q94, q95, q96, q97, q98, q99, q100, q101, q102, q103, q104, q105, q106, q107, q108, q109, q110, q111, q112, q113, q114, q115, q116, q117, q118, q119, q120, q121, q122, q123, q124, q125, q126, q127, q128, q129, q130, q240, q255, q256, q296, q400, q600, q896, q960, q999, q1000, q11544, q11840, q1000000, q1000000000, ↓reduceIte, if_pos, if_neg, ↓reduceIte, u2r, u2e, u2n, cp2r, cp2s, and_self]
          · simp (disch := omega) only [↓mz_lt, ↓mz_b1, ↓mz_b2, ↓mz_b3, mz_b1, mz_b2, mz_b3, mz_lt, mz_o0, mz_o1, nI_add, mz_mul, mz_sub, nI_clamp, mz_in, mz_le, mz_ltp, mz_eq, mz_nm, mz_mn, mz_ml, mz_mlt, mz_nl, mz_mle, qNN, q0, q1, q2, q3, q4, q5, q6, q7, q8, q9, q10, q11, q12, q13, q14, q15, q16, q17, q18, q19, q20, q21, q22, q23, q24, q25, q26, q27, q28, q29, q30, q31, q32, q33, q34, q35, q36, q37, q38, q39, q40, q41, q42, q43, q44, q45, q46, q47, q48, q49, q50, q51, q52, q53, q54, q55, q56, q57, q58, q59, q60, q61, q62, q63, q64, q65, q66, q67, q68, q69, q70, q71, q72, q73, q74, q75, q76, q77, q78, q79, q80, q81, q82, q83, q84, q85, q86, q87, q88, q89, q90, q91, q92, q93, q94, q95, q96, q97, q98, q99, q100, q101, q102, q103, q104, q105, q106, q107, q108, q109, q110, q111, q112, q113, q114, q115, q116, q117, q118, q119, q120, q121, q122, q123, q124, q125, q126, q127, q128, q129, q130, q240, q255, q256, q296, q400, q600, q896, q960, q999, q1000, q11544, q11840, q1000000, q1000000000, ↓reduceIte, if_pos, if_neg, ↓reduceIte, u2r, u2e, u2n, cp2r, cp2s, h4]
            exact hg.2.2.2 k (by omega)
        · simp (disch := omega) only [↓mz_lt, ↓mz_b1, ↓mz_b2, ↓mz_b3, mz_b1, mz_b2, mz_b3, mz_lt, mz_o0, mz_o1, nI_add, mz_mul, mz_sub, nI_clamp, mz_in, mz_le, mz_ltp, mz_eq, mz_nm, mz_mn, mz_ml, mz_mlt, mz_nl, mz_mle, qNN, q0, q1, q2, q3, q4, q5, q6, q7, q8, q9, q10, q11, q12, q13, q14, q15, q16, q17, q18, q19, q20, q21, q22, q23, q24, q25, q26, q27, q28, q29, q30, q31, q32, q33, q34, q35, q36, q37, q38, q39, q40, q41, q42, q43, q44, q45, q46, q47, q48, q49, q50, q51, q52, q53, q54, q55, q56, q57, q58, q59, q60, q61, q62, q63, q64, q65, q66, q67, q68, q69, q70, q71, q72, q73, q74, q75, q76, q77, q78, q79, q80, q81, q82, q83, q84, q85, q86, q87, q88, q89, q90, q91, q92, q93, q94, q95, q96, q97, q98, q99, q100, q101, q102, q103, q104, q105, q106, q107, q108, q109, q110, q111, q112, q113, q114, q115, q116, q117, q118, q119, q120, q121, q122, q123, q124, q125, q126, q127, q128, q129, q130, q240, q255, q256, q296, q400, q600, q896, q960, q999, q1000, q11544, q11840, q1000000, q1000000000, ↓reduceIte, if_pos, if_neg, ↓reduceIte, u2r, u2e, u2n, cp2r, cp2s, hg'.1]
        · simp (disch := omega) only [↓mz_lt, ↓mz_b1, ↓mz_b2, ↓mz_b3, mz_b1, mz_b2, mz_b3, mz_lt, mz_o0, mz_o1, nI_add, mz_mul, mz_sub, nI_clamp, mz_in, mz_le, mz_ltp, mz_eq, mz_nm, mz_mn, mz_ml, mz_mlt, mz_nl, mz_mle, qNN, q0, q1, q2, q3, q4, q5, q6, q7, q8, q9, q10, q11, q12, q13, q14, q15, q16, q17, q18, q19, q20, q21, q22, q23, q24, q25, q26, q27, q28, q29, q30, q31, q32, q33, q34, q35, q36, q37, q38, q39, q40, q41, q42, q43, q44, q45, q46, q47, q48, q49, q50, q51, q52, q53, q54, q55, q56, q57, q58, q59, q60, q61, q62, q63, q64, q65, q66, q67, q68, q69, q70, q71, q72, q73, q74, q75, q76, q77, q78, q79, q80, q81, q82, q83, q84, q85, q86, q87, q88, q89, q90, q91, q92, q93, q94, q95, q96, q97, q98, q99, q100, q101, q102, q103, q104, q105, q106, q107, q108, q109, q110, q111, q112, q113, q114, q115, q116, q117, q118, q119, q120, q121, q122, q123, q124, q125, q126, q127, q128, q129, q130, q240, q255, q256, q296, q400, q600, q896, q960, q999, q1000, q11544, q11840, q1000000, q1000000000, ↓reduceIte, if_pos, if_neg, ↓reduceIte, u2r, u2e, u2n, cp2r, cp2s]
        · intro k hk
          simp (disch := omega) only [if_pos, if_neg, ↓reduceIte] at hk
          simp (disch := omega) only [↓mz_lt, ↓mz_b1, ↓mz_b2, ↓mz_b3, mz_b1, mz_b2, mz_b3, mz_lt, mz_o0, mz_o1, nI_add, mz_mul, mz_sub, nI_clamp, mz_in, mz_le, mz_ltp, mz_eq, mz_nm, mz_mn, mz_ml, mz_mlt, mz_nl, mz_mle, qNN, q0, q1, q2, q3, q4, q5, q6, q7, q8, q9, q10, q11, q12, q13, q14, q15, q16, q17, q18, q19, q20, q21, q22, q23, q24, q25, q26, q27, q28, q29, q30, q31, q32, q33, q34, q35, q36, q37, q38, q39, q40, q41, q42, q43, q44, q45, q46, q47, q48, q49, q50, q51, q52, q53, q54, q55, q56, q57, q58, q59, q60, q61, q62, q63, q64, q65, q66, q67, q68, q69, q70, q71, q72, q73, q74, q75, q76, q77, q78, q79, q80, q81, q82, q83, q84, q85, q86, q87, q88, q89, q90, q91, q92, q93, q94, q95, q96, q97, q98, q99, q100, q101, q102, q103, q104, q105, q106, q107, q108, q109, q110, q111, q112, q113, q114, q115, q116, q117, q118, q119, q120, q121, q122, q123, q124, q125, q126, q127, q128, q129, q130, q240, q255, q256, q296, q400, q600, q896, q960, q999, q1000, q11544, q11840, q1000000, q1000000000, ↓reduceIte, if_pos, if_neg, ↓reduceIte, u2r, u2e, u2n, cp2r, cp2s]
          exact hg'.2.2.1 k hk
        · intro k hk
          simp (disch := omega) only [if_pos, if_neg, ↓reduceIte] at hk
          by_cases h4 : k = g 0 1
          · subst h4
            simp (disch := omega) only [↓mz_lt, ↓mz_b1, ↓mz_b2, ↓mz_b3, mz_b1, mz_b2, mz_b3, mz_lt, mz_o0, mz_o1, nI_add, mz_mul, mz_sub, nI_clamp, mz_in, mz_le, mz_ltp, mz_eq, mz_nm, mz_mn, mz_ml, mz_mlt, mz_nl, mz_mle, qNN, q0, q1, q2, q3, q4, q5, q6, q7, q8, q9, q10, q11, q12, q13, q14, q15, q16, q17, q18, q19, q20, q21, q22, q23, q24, q25, q26, q27, q28, q29, q30, q31, q32, q33, q34, q35, q36, q37, q38, q39, q40, q41, q42, q43, q44, q45, q46, q47, q48, q49, q50, q51, q52, q53, q54, q55, q56, q57, q58, q59, q60, q61, q62, q63, q64, q65, q66, q67, q68, q69, q70, q71, q72, q73, q74, q75, q76, q77, q78, q79, q80, q81, q82, q83, q84, q85, q86, q87, q88, q89, q90, q91, q92, q93, q94, q95, q96, q97, q98, q99, q100, q101, q102, q103, q104, q105, q106, q107, q108, q109, q110, q111, q112, q113, q114, q115, q116, q117, q118, q119, q120, q121, q122, q123, q124, q125, q126, q127, q128, q129, q130, q240, q255, q256, q296, q400, q600, q896, q960, q999, q1000, q11544, q11840, q1000000, q1000000000, ↓reduceIte, if_pos, if_neg, ↓reduceIte, u2r, u2e, u2n, cp2r, cp2s, and_self]
          · simp (disch := omega) only [↓mz_lt, ↓mz_b1, ↓mz_b2, ↓mz_b3, mz_b1, mz_b2, mz_b3, mz_lt, mz_o0, mz_o1, nI_add, mz_mul, mz_sub, nI_clamp, mz_in, mz_le, mz_ltp, mz_eq, mz_nm, mz_mn, mz_ml, mz_mlt, mz_nl, mz_mle, qNN, q0, q1, q2, q3, q4, q5, q6, q7, q8, q9, q10, q11, q12, q13, q14, q15, q16, q17, q18, q19, q20, q21, q22, q23, q24, q25, q26, q27, q28, q29, q30, q31, q32, q33, q34, q35, q36, q37, q38, q39, q40, q41, q42, q43, q44, q45, q46, q47, q48, q49, q50, q51, q52, q53, q54, q55, q56, q57, q58, q59, q60, q61, q62, q63, q64, q65, q66, q67, q68, q69, q70, q71, q72, q73, q74, q75, q76, q77, q78, q79, q80, q81, q82, q83, q84, q85, q86, q87, q88, q89, q90, q91, q92, q93, q94, q95, q96, q97, q98, q99, q100, q101, q102, q103, q104, q105, q106, q107, q108, q109, q110, q111, q112, q113, q114, q115, q116, q117, q118, q119, q120, q121, q122, q123, q124, q125, q126, q127, q128, q129, q130, q240, q255, q256, q296, q400, q600, q896, q960, q999, q1000, q11544, q11840, q1000000, q1000000000, ↓reduceIte, if_pos, if_neg, ↓reduceIte, u2r, u2e, u2n, cp2r, cp2s, h4]
            exact hg'.2.2.2 k (by omega)
        · simp (disch := omega) only [if_pos, if_neg, ↓reduceIte]
          omega
        · simp (disch := omega) only [if_pos, if_neg, ↓reduceIte]
          omega
        · intro k hk
          simp (disch := omega) only [if_pos, if_neg, ↓reduceIte] at hk
          simp (disch := omega) only [if_pos, if_neg, ↓reduceIte]
          exact hgh k hk
        · intro k hk
          simp (disch := omega) only [if_pos, if_neg, ↓reduceIte] at hk
          by_cases h4 : k = g 0 1
          · subst h4
            simp (disch := omega) only [if_pos, if_neg, ↓reduceIte]
            exact ⟨h2, hz⟩
          · simp (disch := omega) only [if_pos, if_neg, ↓reduceIte, h4]
            exact hgk k (by omega)
        · exact Fr_t (Fr_w (by decide) Fr_u) (Fr_t (Fr_w (by decide) Fr_u) (Fr_w (by decide) Fr_u))
        · exact Fr_t fr (Fr_t (Fr_w (by decide) Fr_u) (Fr_t (Fr_w (by decide) Fr_u) (Fr_w (by decide) Fr_u)))
        · refine F5_t f5 (fun k hk => ?_)
          rw [u2n _ _ _ _ _ (fun e => hk (by simp [e])), u2r _ _ _ _ _ (by omega), u2r _ _ _ _ _ (by omega)]
    · simp (disch := omega) only [↓mz_lt, ↓mz_b1, ↓mz_b2, ↓mz_b3, mz_b1, mz_b2, mz_b3, mz_lt, mz_o0, mz_o1, nI_add, mz_mul, mz_sub, nI_clamp, mz_in, mz_le, mz_ltp, mz_eq, mz_nm, mz_mn, mz_ml, mz_mlt, mz_nl, mz_mle, qNN, q0, q1, q2, q3, q4, q5, q6, q7, q8, q9, q10, q11, q12, q13, q14, q15, q16, q17, q18, q19, q20, q21, q22, q23, q24, q25, q26, q27, q28, q29, q30, q31, q32, q33, q34, q35, q36, q37, q38, q39, q40, q41, q42, q43, q44, q45, q46, q47, q48, q49, q50, q51, q52, q53, q54, q55, q56, q57, q58, q59, q60, q61, q62, q63, q64, q65, q66, q67, q68, q69, q70, q71, q72, q73, q74, q75, q76, q77, q78, q79, q80, q81, q82, q83, q84, q85, q86, q87, q88, q89, q90, q91, q92, q93, q94, q95, q96, q97, q98, q99, q100, q101, q102, q103, q104, q105, q106, q107, q108, q109, q110, q111, q112, q113, q114, q115, q116, q117, q118, q119, q120, q121, q122, q123, q124, q125, q126, q127, q128, q129, q130, q240, q255, q256, q296, q400, q600, q896, q960, q999, q1000, q11544, q11840, q1000000, q1000000000, ↓reduceIte, if_pos, if_neg, ↓reduceIte, u2r, u2e, u2n, cp2r, cp2s]
      exact ⟨_, _, _, g, rfl, rfl, hg, hg0, ⟨hg8, hgl, hgh, hgk⟩, Fr_r _ _, fr, f5⟩
/-! the tape: bytes T, L of them -/
def bS (t : Nat) : Int32 := (nI t).toInt8.toInt32
def TaC (T : Nat → Nat) (L : Nat) (i : Tb) : Prop := i 1 1 = nI L ∧ ∀ k, k < L → i 2 k = nI (T k)
def TaM (T : Nat → Nat) (L : Nat) (i : Tb) : Prop := i 50 6 = nI L ∧ ∀ k, k < L → i 51 k = bS (T k)
def OkT (T : Nat → Nat) (L : Nat) : Prop := L ≤ 240 ∧ ∀ k, k < L → 0 < T k ∧ T k < 256
theorem bS_and : ∀ t, t < 256 → bS t &&& 255 = nI t := by decide +kernel
theorem bS_lo : ∀ t, t < 128 → bS t = nI t := by decide +kernel
theorem bS_hi : ∀ t, t < 256 → 128 ≤ t → bS t < 0 := by decide +kernel
def pB (a : Int32) (s : Nat) : Nat := a.toBitVec.toNat / 2 ^ s % 256
def bt (x : Int32) (i : Nat) : Bool := x.toBitVec.getLsbD i
theorem b_ext {x y : Int32} (h : ∀ i, i < 32 → bt x i = bt y i) : x = y := Int32.toBitVec_inj.mp (BitVec.eq_of_getLsbD_eq (fun i hi => h i hi))
theorem b_and (x y : Int32) (i : Nat) : bt (x &&& y) i = (bt x i && bt y i) := by unfold bt; rw [Int32.toBitVec_and, BitVec.getLsbD_and]
theorem b_255 : ∀ i, i < 32 → bt 255 i = decide (i < 8) := by decide +kernel
theorem pB_u {a : Int32} {s : Nat} (hs : s < 32) : ((a.toUInt32 >>> ((nI s).toUInt32 &&& Int32.toUInt32 31)).toInt32 &&& (255 : Int32)) = nI (pB a s) := by
  have e := pk_ushr a (nI s) s ((by decide +kernel : ∀ n, n < 32 → (((nI n).toUInt32 &&& Int32.toUInt32 31).toBitVec % 32).toNat = n) s hs)
  generalize (a.toUInt32 >>> ((nI s).toUInt32 &&& Int32.toUInt32 31)).toInt32 = y at e
  unfold pB
  rw [← e]
  have ey : y = nI y.toBitVec.toNat := Int32.toBitVec_inj.mp (by show _ = BitVec.ofNat 32 _; simp)
  conv => lhs; rw [ey]
  rw [q255, mz_and, show (255 : Nat) = 2 ^ 8 - 1 from rfl, Nat.and_two_pow_sub_one_eq_mod]
theorem pB_s {a : Int32} {s : Nat} (hs : s ≤ 24) : ((a >>> (nI s &&& 31)) &&& (255 : Int32)) = nI (pB a s) := by
  rw [← pB_u (a := a) (s := s) (by omega)]
  apply b_ext
  intro z hz
  rw [b_and, b_and, b_255 z hz]
  by_cases h8 : z < 8
  · congr 1
    unfold bt
    rw [Int32.toBitVec_shiftRight]
    show (a.toBitVec.sshiftRight ((nI s &&& 31).toBitVec.smod 32).toNat).getLsbD z = (a.toBitVec >>> (((nI s).toUInt32 &&& Int32.toUInt32 31).toBitVec % 32)).getLsbD z
    rw [mz_sl s (by omega), BitVec.ushiftRight_eq', (by decide +kernel : ∀ n, n < 32 → (((nI n).toUInt32 &&& Int32.toUInt32 31).toBitVec % 32).toNat = n) s (by omega), BitVec.getLsbD_sshiftRight, BitVec.getLsbD_ushiftRight]
    simp (disch := omega) only [if_pos]
    rw [decide_eq_false (by omega)]
    rfl
  · rw [decide_eq_false h8, Bool.and_false, Bool.and_false]
theorem pB_n {a : Int32} {s : Nat} (hs : s ≤ 24) : vp_nar .byte ((a >>> (nI s &&& 31)) : Int32).toInt8.toInt32 = bS (pB a s) := by
  rw [vp_nar_byte, Int8.toInt8_toInt32]
  unfold bS
  rw [← pB_s hs, Int32.toInt8_and, show (255 : Int32).toInt8 = -1 from by decide +kernel, Int8.and_neg_one]
theorem pB_lt (a : Int32) (s : Nat) : pB a s < 256 := Nat.mod_lt _ (by omega)
/-- one byte more, none if it is 0 -/
def pu (x : (Nat → Nat) × Nat) (b : Nat) : (Nat → Nat) × Nat := if b = 0 then x else (fun k => if k = x.2 then b else x.1 k, x.2 + 1)
def cn (b : Nat) : Nat := if b = 0 then 0 else 1
theorem pu_2 (x : (Nat → Nat) × Nat) (b : Nat) : (pu x b).2 = x.2 + cn b := by
  unfold pu cn
  split <;> rfl
def fB (a : Int32) : Nat := cn (pB a 24) + cn (pB a 16) + cn (pB a 8) + cn (pB a 0)
def p4 (x : (Nat → Nat) × Nat) (a : Int32) : (Nat → Nat) × Nat := pu (pu (pu (pu x (pB a 24)) (pB a 16)) (pB a 8)) (pB a 0)
theorem p4_2 (x : (Nat → Nat) × Nat) (a : Int32) : (p4 x a).2 = x.2 + fB a := by
  unfold p4 fB
  rw [pu_2, pu_2, pu_2, pu_2]
  omega
theorem fB_4 (a : Int32) : fB a ≤ 4 := by
  unfold fB cn
  split <;> split <;> split <;> split <;> omega
theorem pu_ok {x : (Nat → Nat) × Nat} {b : Nat} (h : OkT x.1 x.2) (hb : b < 256) (h2 : (pu x b).2 ≤ 240) : OkT (pu x b).1 (pu x b).2 := by
  refine ⟨h2, ?_⟩
  unfold pu
  split
  · exact h.2
  · intro k hk
    show 0 < (if k = x.2 then b else x.1 k) ∧ (if k = x.2 then b else x.1 k) < 256
    split
    · omega
    · exact h.2 k (by have : k < x.2 + 1 := hk; omega)
theorem c_add_s {x : (Nat → Nat) × Nat} {a : Int32} {s n : Nat} (hs : s ≤ 24) (h : TaC x.1 x.2 i) (hx : (pu x (pB a s)).2 ≤ 240) : ∃ i', fX10_add_3 (n + 1) a (nI s) i = fX10_add_3 n a (nI s + (-8)) i' ∧ TaC (pu x (pB a s)).1 (pu x (pB a s)).2 i' ∧ Fr [1, 2] i i' := by
  rw [pu_2] at hx
  have hl := pB_lt a s
  rw [fX10_add_3, pB_u (by omega)]
  unfold fX10_add_49
  rw [if_neg (by rw [q0, nI_ltI (by omega) (by omega)]; omega)]
  simp only [mz_lt]
  by_cases hb : pB a s = 0
  · rw [if_pos (by rw [hb]; rfl)]
    have e : pu x (pB a s) = x := if_pos hb
    rw [e]
    exact ⟨i, rfl, h, Fr_r _ _⟩
  · have e : pu x (pB a s) = (fun k => if k = x.2 then pB a s else x.1 k, x.2 + 1) := if_neg hb
    have hc : cn (pB a s) = 1 := if_neg hb
    rw [if_neg (by rw [q0, nI_eq (by omega) (by omega)]; exact hb), e]
    simp (disch := omega) only [↓mz_lt, ↓mz_b1, ↓mz_b2, ↓mz_b3, mz_b1, mz_b2, mz_b3, mz_lt, mz_o0, mz_o1, nI_add, mz_mul, mz_sub, nI_clamp, mz_in, mz_le, mz_ltp, mz_eq, mz_nm, mz_mn, mz_ml, mz_mlt, mz_nl, mz_mle, qNN, q0, q1, q2, q3, q4, q5, q6, q7, q8, q9, q10, q11, q12, q13, q14, q15, q16, q17, q18, q19, q20, q21, q22, q23, q24, q25, q26, q27, q28, q29, q30, q31, q32, q33, q34, q35, q36, q37, q38, q39, q40, q41, q42, q43, q44, q45, q46, q47, q48, q49, q50, q51, q52, q53, q54, q55, q56, q57, q58, q59, q60, q61, q62, q63, q64, q65, q66, q67, q68, q69, q70, q71, q72, q73, q74, q75, q76, q77, q78, q79, q80, q81, q82, q83, q84, q85, q86, q87, q88, q89, q90, q91, q92, q93, q94, q95, q96, q97, q98, q99, q100, q101, q102, q103, q104, q105, q106, q107, q108, q109, q110, q111, q112, q113, q114, q115, q116, q117, q118, q119, q120, q121, q122, q123, q124, q125, q126, q127, q128, q129, q130, q240, q255, q256, q296, q400, q600, q896, q960, q999, q1000, q11544, q11840, q1000000, q1000000000, ↓reduceIte, if_pos, if_neg, ↓reduceIte, u2r, u2e, u2n, cp2r, cp2s, h.1]
    refine ⟨_, rfl, ⟨?_, ?_⟩, Fr_t (Fr_w (by decide) Fr_u) (Fr_w (by decide) Fr_u)⟩
    · simp (disch := omega) only [↓mz_lt, ↓mz_b1, ↓mz_b2, ↓mz_b3, mz_b1, mz_b2, mz_b3, mz_lt, mz_o0, mz_o1, nI_add, mz_mul, mz_sub, nI_clamp, mz_in, mz_le, mz_ltp, mz_eq, mz_nm, mz_mn, mz_ml, mz_mlt, mz_nl, mz_mle, qNN, q0, q1, q2, q3, q4, q5, q6, q7, q8, q9, q10, q11, q12, q13, q14, q15, q16, q17, q18, q19, q20, q21, q22, q23, q24, q25, q26, q27, q28, q29, q30, q31, q32, q33, q34, q35, q36, q37, q38, q39, q40, q41, q42, q43, q44, q45, q46, q47, q48, q49, q50, q51, q52, q53, q54, q55, q56, q57, q58, q59, q60, q61, q62, q63, q64, q65, q66, q67, q68, q69, q70, q71, q72, q73, q74, q75, q76, q77, q78, q79, q80, q81, q82, q83, q84, q85, q86, q87, q88, q89, q90, q91, q92, q93, q94, q95, q96, q97, q98, q99, q100, q101, q102, q103, q104, q105, q106, q107, q108, q109, q110, q111, q112, q113, q114, q115, q116, q117, q118, q119, q120, q121, q122, q123, q124, q125, q126, q127, q128, q129, q130, q240, q255, q256, q296, q400, q600, q896, q960, q999, q1000, q11544, q11840, q1000000, q1000000000, ↓reduceIte, if_pos, if_neg, ↓reduceIte, u2r, u2e, u2n, cp2r, cp2s]
    · intro k hk
      have hk2 : k < x.2 + 1 := hk
      show _ = nI (if k = x.2 then pB a s else x.1 k)
      by_cases hk3 : k = x.2
      · subst hk3
        simp (disch := omega) only [↓mz_lt, ↓mz_b1, ↓mz_b2, ↓mz_b3, mz_b1, mz_b2, mz_b3, mz_lt, mz_o0, mz_o1, nI_add, mz_mul, mz_sub, nI_clamp, mz_in, mz_le, mz_ltp, mz_eq, mz_nm, mz_mn, mz_ml, mz_mlt, mz_nl, mz_mle, qNN, q0, q1, q2, q3, q4, q5, q6, q7, q8, q9, q10, q11, q12, q13, q14, q15, q16, q17, q18, q19, q20, q21, q22, q23, q24, q25, q26, q27, q28, q29, q30, q31, q32, q33, q34, q35, q36, q37, q38, q39, q40, q41, q42, q43, q44, q45, q46, q47, q48, q49, q50, q51, q52, q53, q54, q55, q56, q57, q58, q59, q60, q61, q62, q63, q64, q65, q66, q67, q68, q69, q70, q71, q72, q73, q74, q75, q76, q77, q78, q79, q80, q81, q82, q83, q84, q85, q86, q87, q88, q89, q90, q91, q92, q93, q94, q95, q96, q97, q98, q99, q100, q101, q102, q103, q104, q105, q106, q107, q108, q109, q110, q111, q112, q113, q114, q115, q116, q117, q118, q119, q120, q121, q122, q123, q124, q125, q126, q127, q128, q129, q130, q240, q255, q256, q296, q400, q600, q896, q960, q999, q1000, q11544, q11840, q1000000, q1000000000, ↓reduceIte, if_pos, if_neg, ↓reduceIte, u2r, u2e, u2n, cp2r, cp2s]
      · simp (disch := omega) only [↓mz_lt, ↓mz_b1, ↓mz_b2, ↓mz_b3, mz_b1, mz_b2, mz_b3, mz_lt, mz_o0, mz_o1, nI_add, mz_mul, mz_sub, nI_clamp, mz_in, mz_le, mz_ltp, mz_eq, mz_nm, mz_mn, mz_ml, mz_mlt, mz_nl, mz_mle, qNN, q0, q1, q2, q3, q4, q5, q6, q7, q8, q9, q10, q11, q12, q13, q14, q15, q16, q17, q18, q19, q20, q21, q22, q23, q24, q25, q26, q27, q28, q29, q30, q31, q32, q33, q34, q35, q36, q37, q38, q39, q40, q41, q42, q43, q44, q45, q46, q47, q48, q49, q50, q51, q52, q53, q54, q55, q56, q57, q58, q59, q60, q61, q62, q63, q64, q65, q66, q67, q68, q69, q70, q71, q72, q73, q74, q75, q76, q77, q78, q79, q80, q81, q82, q83, q84, q85, q86, q87, q88, q89, q90, q91, q92, q93, q94, q95, q96, q97, q98, q99, q100, q101, q102, q103, q104, q105, q106, q107, q108, q109, q110, q111, q112, q113, q114, q115, q116, q117, q118, q119, q120, q121, q122, q123, q124, q125, q126, q127, q128, q129, q130, q240, q255, q256, q296, q400, q600, q896, q960, q999, q1000, q11544, q11840, q1000000, q1000000000, ↓reduceIte, if_pos, if_neg, ↓reduceIte, u2r, u2e, u2n, cp2r, cp2s]
        exact h.2 k (by omega)
theorem c_add {x : (Nat → Nat) × Nat} {a : Int32} (h : TaC x.1 x.2 i) (hx : (p4 x a).2 ≤ 240) : ∃ i', fX10_add a i = some i' ∧ TaC (p4 x a).1 (p4 x a).2 i' ∧ Fr [1, 2] i i' := by
  have hx0 := hx
  unfold p4 at hx0
  have e1 := pu_2 (pu (pu (pu x (pB a 24)) (pB a 16)) (pB a 8)) (pB a 0)
  have e2 := pu_2 (pu (pu x (pB a 24)) (pB a 16)) (pB a 8)
  have e3 := pu_2 (pu x (pB a 24)) (pB a 16)
  obtain ⟨i1, f1, t1, r1⟩ := c_add_s (n := 29999) (s := 24) (by omega) h (a := a) (by omega)
  obtain ⟨i2, f2, t2, r2⟩ := c_add_s (n := 29998) (s := 16) (by omega) t1 (a := a) (by omega)
  obtain ⟨i3, f3, t3, r3⟩ := c_add_s (n := 29997) (s := 8) (by omega) t2 (a := a) (by omega)
  obtain ⟨i4, f4, t4, r4⟩ := c_add_s (n := 29996) (s := 0) (by omega) t3 (a := a) (by omega)
  refine ⟨i4, ?_, t4, Fr_t r1 (Fr_t r2 (Fr_t r3 r4))⟩
  show fX10_add_3 (29999 + 1) a (nI 24) i = _
  rw [f1, show nI 24 + -8 = nI 16 from rfl, f2, show nI 16 + -8 = nI 8 from rfl, f3, show nI 8 + -8 = nI 0 from rfl, f4, fX10_add_3, if_pos (by decide)]
theorem m_put_s {x : (Nat → Nat) × Nat} {a : Int32} {s n : Nat} (hs : s ≤ 24) (h : TaM x.1 x.2 j) (hx : (pu x (pB a s)).2 ≤ 240) : ∃ j', fX12_put_3 (n + 1) a (nI s) j = fX12_put_3 n a (nI s + (-8)) j' ∧ TaM (pu x (pB a s)).1 (pu x (pB a s)).2 j' ∧ Fr [50, 51] j j' ∧ F5 [0, 6] j j' := by
  rw [pu_2] at hx
  have hl := pB_lt a s
  rw [fX12_put_3, pB_s hs, pB_n hs]
  unfold fX12_put_43
  rw [if_neg (by rw [q0, nI_ltI (by omega) (by omega)]; omega)]
  simp only [mz_lt]
  by_cases hb : pB a s = 0
  · rw [if_pos (by rw [hb]; rfl)]
    have e : pu x (pB a s) = x := if_pos hb
    rw [e]
    exact ⟨j, rfl, h, Fr_r _ _, F5_r _ _⟩
  · have e : pu x (pB a s) = (fun k => if k = x.2 then pB a s else x.1 k, x.2 + 1) := if_neg hb
    have hc : cn (pB a s) = 1 := if_neg hb
    rw [if_neg (by rw [q0, nI_eq (by omega) (by omega)]; exact hb), e]
    simp (disch := omega) only [↓mz_lt, ↓mz_b1, ↓mz_b2, ↓mz_b3, mz_b1, mz_b2, mz_b3, mz_lt, mz_o0, mz_o1, nI_add, mz_mul, mz_sub, nI_clamp, mz_in, mz_le, mz_ltp, mz_eq, mz_nm, mz_mn, mz_ml, mz_mlt, mz_nl, mz_mle, qNN, q0, q1, q2, q3, q4, q5, q6, q7, q8, q9, q10, q11, q12, q13, q14, q15, q16, q17, q18, q19, q20, q21, q22, q23, q24, q25, q26, q27, q28, q29, q30, q31, q32, q33, q34, q35, q36, q37, q38, q39, q40, q41, q42, q43, q44, q45, q46, q47, q48, q49, q50, q51, q52, q53, q54, q55, q56, q57, q58, q59, q60, q61, q62, q63, q64, q65, q66, q67, q68, q69, q70, q71, q72, q73, q74, q75, q76, q77, q78, q79, q80, q81, q82, q83, q84, q85, q86, q87, q88, q89, q90, q91, q92, q93, q94, q95, q96, q97, q98, q99, q100, q101, q102, q103, q104, q105, q106, q107, q108, q109, q110, q111, q112, q113, q114, q115, q116, q117, q118, q119, q120, q121, q122, q123, q124, q125, q126, q127, q128, q129, q130, q240, q255, q256, q296, q400, q600, q896, q960, q999, q1000, q11544, q11840, q1000000, q1000000000, ↓reduceIte, if_pos, if_neg, ↓reduceIte, u2r, u2e, u2n, cp2r, cp2s, h.1]
    refine ⟨_, rfl, ⟨?_, ?_⟩, Fr_t (Fr_w (by decide) Fr_u) (Fr_w (by decide) Fr_u), fun k hk => ?_⟩
    · simp (disch := omega) only [↓mz_lt, ↓mz_b1, ↓mz_b2, ↓mz_b3, mz_b1, mz_b2, mz_b3, mz_lt, mz_o0, mz_o1, nI_add, mz_mul, mz_sub, nI_clamp, mz_in, mz_le, mz_ltp, mz_eq, mz_nm, mz_mn, mz_ml, mz_mlt, mz_nl, mz_mle, qNN, q0, q1, q2, q3, q4, q5, q6, q7, q8, q9, q10, q11, q12, q13, q14, q15, q16, q17, q18, q19, q20, q21, q22, q23, q24, q25, q26, q27, q28, q29, q30, q31, q32, q33, q34, q35, q36, q37, q38, q39, q40, q41, q42, q43, q44, q45, q46, q47, q48, q49, q50, q51, q52, q53, q54, q55, q56, q57, q58, q59, q60, q61, q62, q63, q64, q65, q66, q67, q68, q69, q70, q71, q72, q73, q74, q75, q76, q77, q78, q79, q80, q81, q82, q83, q84, q85, q86, q87, q88, q89, q90, q91, q92, q93, q94, q95, q96, q97, q98, q99, q100, q101, q102, q103, q104, q105, q106, q107, q108, q109, q110, q111, q112, q113, q114, q115, q116, q117, q118, q119, q120, q121, q122, q123, q124, q125, q126, q127, q128, q129, q130, q240, q255, q256, q296, q400, q600, q896, q960, q999, q1000, q11544, q11840, q1000000, q1000000000, ↓reduceIte, if_pos, if_neg, ↓reduceIte, u2r, u2e, u2n, cp2r, cp2s]
    · intro k hk
      have hk2 : k < x.2 + 1 := hk
      show _ = bS (if k = x.2 then pB a s else x.1 k)
      by_cases hk3 : k = x.2
      · subst hk3
        simp (disch := omega) only [↓mz_lt, ↓mz_b1, ↓mz_b2, ↓mz_b3, mz_b1, mz_b2, mz_b3, mz_lt, mz_o0, mz_o1, nI_add, mz_mul, mz_sub, nI_clamp, mz_in, mz_le, mz_ltp, mz_eq, mz_nm, mz_mn, mz_ml, mz_mlt, mz_nl, mz_mle, qNN, q0, q1, q2, q3, q4, q5, q6, q7, q8, q9, q10, q11, q12, q13, q14, q15, q16, q17, q18, q19, q20, q21, q22, q23, q24, q25, q26, q27, q28, q29, q30, q31, q32, q33, q34, q35, q36, q37, q38, q39, q40, q41, q42, q43, q44, q45, q46, q47, q48, q49, q50, q51, q52, q53, q54, q55, q56, q57, q58, q59, q60, q61, q62, q63, q64, q65, q66, q67, q68, q69, q70, q71, q72, q73, q74, q75, q76, q77, q78, q79, q80, q81, q82, q83, q84, q85, q86, q87, q88, q89, q90, q91, q92, q93, q94, q95, q96, q97, q98, q99, q100, q101, q102, q103, q104, q105, q106, q107, q108, q109, q110, q111, q112, q113, q114, q115, q116, q117, q118, q119, q120, q121, q122, q123, q124, q125, q126, q127, q128, q129, q130, q240, q255, q256, q296, q400, q600, q896, q960, q999, q1000, q11544, q11840, q1000000, q1000000000, ↓reduceIte, if_pos, if_neg, ↓reduceIte, u2r, u2e, u2n, cp2r, cp2s]
      · simp (disch := omega) only [↓mz_lt, ↓mz_b1, ↓mz_b2, ↓mz_b3, mz_b1, mz_b2, mz_b3, mz_lt, mz_o0, mz_o1, nI_add, mz_mul, mz_sub, nI_clamp, mz_in, mz_le, mz_ltp, mz_eq, mz_nm, mz_mn, mz_ml, mz_mlt, mz_nl, mz_mle, qNN, q0, q1, q2, q3, q4, q5, q6, q7, q8, q9, q10, q11, q12, q13, q14, q15, q16, q17, q18, q19, q20, q21, q22, q23, q24, q25, q26, q27, q28, q29, q30, q31, q32, q33, q34, q35, q36, q37, q38, q39, q40, q41, q42, q43, q44, q45, q46, q47, q48, q49, q50, q51, q52, q53, q54, q55, q56, q57, q58, q59, q60, q61, q62, q63, q64, q65, q66, q67, q68, q69, q70, q71, q72, q73, q74, q75, q76, q77, q78, q79, q80, q81, q82, q83, q84, q85, q86, q87, q88, q89, q90, q91, q92, q93, q94, q95, q96, q97, q98, q99, q100, q101, q102, q103, q104, q105, q106, q107, q108, q109, q110, q111, q112, q113, q114, q115, q116, q117, q118, q119, q120, q121, q122, q123, q124, q125, q126, q127, q128, q129, q130, q240, q255, q256, q296, q400, q600, q896, q960, q999, q1000, q11544, q11840, q1000000, q1000000000, ↓reduceIte, if_pos, if_neg, ↓reduceIte, u2r, u2e, u2n, cp2r, cp2s]
        exact h.2 k (by omega)
    · rw [u2n _ _ _ _ _ (fun e => hk (by simp [e])), u2r _ _ _ _ _ (by omega)]
theorem m_put {x : (Nat → Nat) × Nat} {a : Int32} (h : TaM x.1 x.2 j) (hx : (p4 x a).2 ≤ 240) : ∃ j', fX12_put a j = some j' ∧ TaM (p4 x a).1 (p4 x a).2 j' ∧ Fr [50, 51] j j' ∧ F5 [0, 6] j j' := by
  have hx0 := hx
  unfold p4 at hx0
  have e1 := pu_2 (pu (pu (pu x (pB a 24)) (pB a 16)) (pB a 8)) (pB a 0)
  have e2 := pu_2 (pu (pu x (pB a 24)) (pB a 16)) (pB a 8)
  have e3 := pu_2 (pu x (pB a 24)) (pB a 16)
  obtain ⟨i1, f1, t1, r1, s1⟩ := m_put_s (n := 29999) (s := 24) (by omega) h (a := a) (by omega)
  obtain ⟨i2, f2, t2, r2, s2⟩ := m_put_s (n := 29998) (s := 16) (by omega) t1 (a := a) (by omega)
  obtain ⟨i3, f3, t3, r3, s3⟩ := m_put_s (n := 29997) (s := 8) (by omega) t2 (a := a) (by omega)
  obtain ⟨i4, f4, t4, r4, s4⟩ := m_put_s (n := 29996) (s := 0) (by omega) t3 (a := a) (by omega)
  refine ⟨i4, ?_, t4, Fr_t r1 (Fr_t r2 (Fr_t r3 r4)), F5_t s1 (F5_t s2 (F5_t s3 s4))⟩
  show fX12_put_3 (29999 + 1) a (nI 24) j = _
  rw [f1, show nI 24 + -8 = nI 16 from rfl, f2, show nI 16 + -8 = nI 8 from rfl, f3, show nI 8 + -8 = nI 0 from rfl, f4, fX12_put_3, if_pos (by decide)]
theorem c_signs_s {a : Int32} {s n c : Nat} (hs : s ≤ 24) : fX10_signsIn_5 (n + 1) a (nI c) (nI s) = fX10_signsIn_5 n a (nI (c + cn (pB a s))) (nI s + (-8)) := by
  have hl := pB_lt a s
  rw [fX10_signsIn_5, pB_u (by omega)]
  unfold fX10_signsIn_22 cn
  rw [if_neg (by rw [q0, nI_ltI (by omega) (by omega)]; omega)]
  by_cases hb : pB a s = 0
  · rw [if_pos (by rw [hb]; rfl), if_pos hb]
    rfl
  · rw [if_neg (by rw [q0, nI_eq (by omega) (by omega)]; exact hb), if_neg hb]
    rw [q1, nI_add]
theorem c_signs (a : Int32) : fX10_signsIn a = some (nI (fB a)) := by
  show fX10_signsIn_5 (29999 + 1) a (nI 0) (nI 24) = _
  rw [c_signs_s (by omega), show nI 24 + -8 = nI 16 from rfl, c_signs_s (by omega), show nI 16 + -8 = nI 8 from rfl, c_signs_s (by omega), show nI 8 + -8 = nI 0 from rfl, c_signs_s (by omega), fX10_signsIn_5, if_pos (by decide)]
  unfold fB
  congr 2
  omega
theorem m_bytes_s {a : Int32} {s n c : Nat} (hs : s ≤ 24) : fX12_bytesIn_5 (n + 1) a (nI c) (nI s) = fX12_bytesIn_5 n a (nI (c + cn (pB a s))) (nI s + (-8)) := by
  have hl := pB_lt a s
  rw [fX12_bytesIn_5, pB_s hs]
  unfold fX12_bytesIn_25 cn
  rw [if_neg (by rw [q0, nI_ltI (by omega) (by omega)]; omega)]
  by_cases hb : pB a s = 0
  · rw [if_pos (by rw [hb]; rfl), if_pos hb]
    rw [q0, nI_add]
  · rw [if_neg (by rw [q0, nI_eq (by omega) (by omega)]; exact hb), if_neg hb]
    rw [q1, nI_add]
theorem m_bytes (a : Int32) : fX12_bytesIn a = some (nI (fB a)) := by
  show fX12_bytesIn_5 (29999 + 1) a (nI 0) (nI 24) = _
  rw [m_bytes_s (by omega), show nI 24 + -8 = nI 16 from rfl, m_bytes_s (by omega), show nI 16 + -8 = nI 8 from rfl, m_bytes_s (by omega), show nI 8 + -8 = nI 0 from rfl, m_bytes_s (by omega), fX12_bytesIn_5, if_pos (by decide)]
  unfold fB
  congr 2
  omega
theorem p4_ok {x : (Nat → Nat) × Nat} {a : Int32} (h : OkT x.1 x.2) (hx : (p4 x a).2 ≤ 240) : OkT (p4 x a).1 (p4 x a).2 := by
  have hx0 := hx
  unfold p4 at hx0
  have e1 := pu_2 (pu (pu (pu x (pB a 24)) (pB a 16)) (pB a 8)) (pB a 0)
  have e2 := pu_2 (pu (pu x (pB a 24)) (pB a 16)) (pB a 8)
  have e3 := pu_2 (pu x (pB a 24)) (pB a 16)
  exact pu_ok (pu_ok (pu_ok (pu_ok h (pB_lt _ _) (by omega)) (pB_lt _ _) (by omega)) (pB_lt _ _) (by omega)) (pB_lt _ _) hx
theorem R_feed {T : Nat → Nat} {L : Nat} (h : TaC T L i) (h' : TaM T L j) (ok : OkT T L) (a1 a2 a3 a4 a5 : Int32) : ∃ v i' j' T' L', fX11_feed a1 a2 a3 a4 a5 i = some (v, i') ∧ fX12_feed a1 a2 a3 a4 a5 j = some (v, j') ∧ TaC T' L' i' ∧ TaM T' L' j' ∧ OkT T' L' ∧ Fr [1, 2] i i' ∧ Fr [50, 51] j j' ∧ F5 [0, 6] j j' := by
  have hL := ok.1
  have b1 := fB_4 a1
  have b2 := fB_4 a2
  have b3 := fB_4 a3
  have b4 := fB_4 a4
  have b5 := fB_4 a5
  have h0 : TaM T L (u2 j 50 0 0) := ⟨by rw [u2n _ _ _ _ _ (by omega)]; exact h'.1, by rw [u2r _ _ _ _ _ (by omega)]; exact h'.2⟩
  have fr0 : Fr [50, 51] j (u2 j 50 0 0) := Fr_w (by decide) Fr_u
  have f50 : F5 [0, 6] j (u2 j 50 0 0) := F5_w (by decide) F5_u
  unfold fX11_feed fX12_feed fX10_size
  rw [c_signs, c_signs, c_signs, c_signs, c_signs]
  simp only [mz_lt, mz_b1, m_bytes, nI_add, h.1, h0.1, q240]
  simp (disch := omega) only [mz_le]
  by_cases hx : L + fB a1 + fB a2 + fB a3 + fB a4 + fB a5 ≤ 240
  · have e1 := p4_2 (T, L) a1
    have e2 := p4_2 (p4 (T, L) a1) a2
    have e3 := p4_2 (p4 (p4 (T, L) a1) a2) a3
    have e4 := p4_2 (p4 (p4 (p4 (T, L) a1) a2) a3) a4
    have e5 := p4_2 (p4 (p4 (p4 (p4 (T, L) a1) a2) a3) a4) a5
    simp only [] at e1
    obtain ⟨i1, f1, t1, r1⟩ := c_add (x := (T, L)) (a := a1) h (by omega)
    obtain ⟨i2, f2, t2, r2⟩ := c_add (a := a2) t1 (by omega)
    obtain ⟨i3, f3, t3, r3⟩ := c_add (a := a3) t2 (by omega)
    obtain ⟨i4, f4, t4, r4⟩ := c_add (a := a4) t3 (by omega)
    obtain ⟨i5, f5, t5, r5⟩ := c_add (a := a5) t4 (by omega)
    obtain ⟨j1, g1, u1, s1, w1⟩ := m_put (x := (T, L)) (a := a1) h0 (by omega)
    obtain ⟨j2, g2, u2', s2, w2⟩ := m_put (a := a2) u1 (by omega)
    obtain ⟨j3, g3, u3, s3, w3⟩ := m_put (a := a3) u2' (by omega)
    obtain ⟨j4, g4, u4, s4, w4⟩ := m_put (a := a4) u3 (by omega)
    obtain ⟨j5, g5, u5, s5, w5⟩ := m_put (a := a5) u4 (by omega)
    rw [if_pos (by omega), if_pos (by omega), f1, mz_b1, f2, mz_b1, f3, mz_b1, f4, mz_b1, f5, mz_b1, g1, mz_b1, g2, mz_b1, g3, mz_b1, g4, mz_b1, g5, mz_b1]
    refine ⟨_, i5, j5, _, _, rfl, ?_, t5, u5, ?_, Fr_t r1 (Fr_t r2 (Fr_t r3 (Fr_t r4 r5))), Fr_t fr0 (Fr_t s1 (Fr_t s2 (Fr_t s3 (Fr_t s4 s5)))), F5_t f50 (F5_t w1 (F5_t w2 (F5_t w3 (F5_t w4 w5))))⟩
    · rw [u5.1, t5.1]
    · exact p4_ok (p4_ok (p4_ok (p4_ok (p4_ok ok (by omega)) (by omega)) (by omega)) (by omega)) (by omega)
  · rw [if_neg (by omega), if_neg (by omega)]
    exact ⟨_, i, _, T, L, rfl, rfl, h, h0, ok, Fr_r _ _, fr0, f50⟩
theorem R_end {T : Nat → Nat} {L : Nat} (h : TaC T L i) (h' : TaM T L j) (ok : OkT T L) (a1 : Int32) : ∃ v i' j' L', fX11_end a1 i = some (v, i') ∧ fX12_end a1 j = some (v, j') ∧ TaC T L' i' ∧ TaM T L' j' ∧ OkT T L' ∧ Fr [1, 2] i i' ∧ Fr [50, 51] j j' ∧ F5 [0, 6] j j' := by
  have hL := ok.1
  have h0 : TaM T L (u2 j 50 0 (nI 0)) := ⟨by rw [u2n _ _ _ _ _ (by omega)]; exact h'.1, by rw [u2r _ _ _ _ _ (by omega)]; exact h'.2⟩
  have fr0 : Fr [50, 51] j (u2 j 50 0 (nI 0)) := Fr_w (by decide) Fr_u
  have f50 : F5 [0, 6] j (u2 j 50 0 (nI 0)) := F5_w (by decide) F5_u
  unfold fX11_end fX12_end fX10_size fX10_cut
  rcases mz_cases a1 with h1 | ⟨x, hx, rfl⟩
  · simp (disch := omega) only [↓mz_lt, ↓mz_b1, ↓mz_b2, ↓mz_b3, mz_b1, mz_b2, mz_b3, mz_lt, mz_o0, mz_o1, nI_add, mz_mul, mz_sub, nI_clamp, mz_in, mz_le, mz_ltp, mz_eq, mz_nm, mz_mn, mz_ml, mz_mlt, mz_nl, mz_mle, qNN, q0, q1, q2, q3, q4, q5, q6, q7, q8, q9, q10, q11, q12, q13, q14, q15, q16, q17, q18, q19, q20, q21, q22, q23, q24, q25, q26, q27, q28, q29, q30, q31, q32, q33, q34, q35, q36, q37, q38, q39, q40, q41, q42, q43, q44, q45, q46, q47, q48, q49, q50, q51, q52, q53, q54, q55, q56, q57, q58, q59, q60, q61, q62, q63, q64, q65, q66, q67, q68, q69, q70, q71, q72, q73, q74, q75, q76, q77, q78, q79, q80, q81, q82, q83, q84, q85, q86, q87, q88, q89, q90, q91, q92, q93, q94, q95, q96, q97, q98, q99, q100, q101, q102, q103, q104, q105, q106, q107, q108, q109, q110, q111, q112, q113, q114, q115, q116, q117, q118, q119, q120, q121, q122, q123, q124, q125, q126, q127, q128, q129, q130, q240, q255, q256, q296, q400, q600, q896, q960, q999, q1000, q11544, q11840, q1000000, q1000000000, ↓reduceIte, if_pos, if_neg, ↓reduceIte, u2r, u2e, u2n, cp2r, cp2s, h1, h.1]
    exact ⟨_, _, _, L, rfl, rfl, h, h0, ok, Fr_r _ _, fr0, f50⟩
  · by_cases h2 : x ≤ L
    · simp (disch := omega) only [↓mz_lt, ↓mz_b1, ↓mz_b2, ↓mz_b3, mz_b1, mz_b2, mz_b3, mz_lt, mz_o0, mz_o1, nI_add, mz_mul, mz_sub, nI_clamp, mz_in, mz_le, mz_ltp, mz_eq, mz_nm, mz_mn, mz_ml, mz_mlt, mz_nl, mz_mle, qNN, q0, q1, q2, q3, q4, q5, q6, q7, q8, q9, q10, q11, q12, q13, q14, q15, q16, q17, q18, q19, q20, q21, q22, q23, q24, q25, q26, q27, q28, q29, q30, q31, q32, q33, q34, q35, q36, q37, q38, q39, q40, q41, q42, q43, q44, q45, q46, q47, q48, q49, q50, q51, q52, q53, q54, q55, q56, q57, q58, q59, q60, q61, q62, q63, q64, q65, q66, q67, q68, q69, q70, q71, q72, q73, q74, q75, q76, q77, q78, q79, q80, q81, q82, q83, q84, q85, q86, q87, q88, q89, q90, q91, q92, q93, q94, q95, q96, q97, q98, q99, q100, q101, q102, q103, q104, q105, q106, q107, q108, q109, q110, q111, q112, q113, q114, q115, q116, q117, q118, q119, q120, q121, q122, q123, q124, q125, q126, q127, q128, q129, q130, q240, q255, q256, q296, q400, q600, q896, q960, q999, q1000, q11544, q11840, q1000000, q1000000000, ↓reduceIte, if_pos, if_neg, ↓reduceIte, u2r, u2e, u2n, cp2r, cp2s, h.1, h'.1]
      refine ⟨_, _, _, x, rfl, rfl, ⟨?_, ?_⟩, ⟨?_, ?_⟩, ⟨by omega, fun k hk => ok.2 k (by omega)⟩, Fr_w (by decide) Fr_u, Fr_t fr0 (Fr_w (by decide) Fr_u), F5_t f50 (F5_w (by decide) F5_u)⟩
      · simp (disch := omega) only [↓mz_lt, ↓mz_b1, ↓mz_b2, ↓mz_b3, mz_b1, mz_b2, mz_b3, mz_lt, mz_o0, mz_o1, nI_add, mz_mul, mz_sub, nI_clamp, mz_in, mz_le, mz_ltp, mz_eq, mz_nm, mz_mn, mz_ml, mz_mlt, mz_nl, mz_mle, qNN, q0, q1, q2, q3, q4, q5, q6, q7, q8, q9, q10, q11, q12, q13, q14, q15, q16, q17, q18, q19, q20, q21, q22, q23, q24, q25, q26, q27, q28, q29, q30, q31, q32, q33, q34, q35, q36, q37, q38, q39, q40, q41, q42, q43, q44, q45, q46, q47, q48, q49, q50, q51, q52, q53, q54, q55, q56, q57, q58, q59, q60, q61, q62, q63, q64, q65, q66, q67, q68, q69, q70, q71, q72, q73, q74, q75, q76, q77, q78, q79, q80, q81, q82, q83, q84, q85, q86, q87, q88, q89, q90, q91, q92, q93, q94, q95, q96, q97, q98, q99, q100, q101, q102, q103, q104, q105, q106, q107, q108, q109, q110, q111, q112, q113, q114, q115, q116, q117, q118, q119, q120, q121, q122, q123, q124, q125, q126, q127, q128, q129, q130, q240, q255, q256, q296, q400, q600, q896, q960, q999, q1000, q11544, q11840, q1000000, q1000000000, ↓reduceIte, if_pos, if_neg, ↓reduceIte, u2r, u2e, u2n, cp2r, cp2s]
      · simp (disch := omega) only [↓mz_lt, ↓mz_b1, ↓mz_b2, ↓mz_b3, mz_b1, mz_b2, mz_b3, mz_lt, mz_o0, mz_o1, nI_add, mz_mul, mz_sub, nI_clamp, mz_in, mz_le, mz_ltp, mz_eq, mz_nm, mz_mn, mz_ml, mz_mlt, mz_nl, mz_mle, qNN, q0, q1, q2, q3, q4, q5, q6, q7, q8, q9, q10, q11, q12, q13, q14, q15, q16, q17, q18, q19, q20, q21, q22, q23, q24, q25, q26, q27, q28, q29, q30, q31, q32, q33, q34, q35, q36, q37, q38, q39, q40, q41, q42, q43, q44, q45, q46, q47, q48, q49, q50, q51, q52, q53, q54, q55, q56, q57, q58, q59, q60, q61, q62, q63, q64, q65, q66, q67, q68, q69, q70, q71, q72, q73, q74, q75, q76, q77, q78, q79, q80, q81, q82, q83, q84, q85, q86, q87, q88, q89, q90, q91, q92, q93, q94, q95, q96, q97, q98, q99, q100, q101, q102, q103, q104, q105, q106, q107, q108, q109, q110, q111, q112, q113, q114, q115, q116, q117, q118, q119, q120, q121, q122, q123, q124, q125, q126, q127, q128, q129, q130, q240, q255, q256, q296, q400, q600, q896, q960, q999, q1000, q11544, q11840, q1000000, q1000000000, ↓reduceIte, if_pos, if_neg, ↓reduceIte, u2r, u2e, u2n, cp2r, cp2s]
        exact fun k hk => h.2 k (by omega)
      · simp (disch := omega) only [↓mz_lt, ↓mz_b1, ↓mz_b2, ↓mz_b3, mz_b1, mz_b2, mz_b3, mz_lt, mz_o0, mz_o1, nI_add, mz_mul, mz_sub, nI_clamp, mz_in, mz_le, mz_ltp, mz_eq, mz_nm, mz_mn, mz_ml, mz_mlt, mz_nl, mz_mle, qNN, q0, q1, q2, q3, q4, q5, q6, q7, q8, q9, q10, q11, q12, q13, q14, q15, q16, q17, q18, q19, q20, q21, q22, q23, q24, q25, q26, q27, q28, q29, q30, q31, q32, q33, q34, q35, q36, q37, q38, q39, q40, q41, q42, q43, q44, q45, q46, q47, q48, q49, q50, q51, q52, q53, q54, q55, q56, q57, q58, q59, q60, q61, q62, q63, q64, q65, q66, q67, q68, q69, q70, q71, q72, q73, q74, q75, q76, q77, q78, q79, q80, q81, q82, q83, q84, q85, q86, q87, q88, q89, q90, q91, q92, q93, q94, q95, q96, q97, q98, q99, q100, q101, q102, q103, q104, q105, q106, q107, q108, q109, q110, q111, q112, q113, q114, q115, q116, q117, q118, q119, q120, q121, q122, q123, q124, q125, q126, q127, q128, q129, q130, q240, q255, q256, q296, q400, q600, q896, q960, q999, q1000, q11544, q11840, q1000000, q1000000000, ↓reduceIte, if_pos, if_neg, ↓reduceIte, u2r, u2e, u2n, cp2r, cp2s]
      · simp (disch := omega) only [↓mz_lt, ↓mz_b1, ↓mz_b2, ↓mz_b3, mz_b1, mz_b2, mz_b3, mz_lt, mz_o0, mz_o1, nI_add, mz_mul, mz_sub, nI_clamp, mz_in, mz_le, mz_ltp, mz_eq, mz_nm, mz_mn, mz_ml, mz_mlt, mz_nl, mz_mle, qNN, q0, q1, q2, q3, q4, q5, q6, q7, q8, q9, q10, q11, q12, q13, q14, q15, q16, q17, q18, q19, q20, q21, q22, q23, q24, q25, q26, q27, q28, q29, q30, q31, q32, q33, q34, q35, q36, q37, q38, q39, q40, q41, q42, q43, q44, q45, q46, q47, q48, q49, q50, q51, q52, q53, q54, q55, q56, q57, q58, q59, q60, q61, q62, q63, q64, q65, q66, q67, q68, q69, q70, q71, q72, q73, q74, q75, q76, q77, q78, q79, q80, q81, q82, q83, q84, q85, q86, q87, q88, q89, q90, q91, q92, q93, q94, q95, q96, q97, q98, q99, q100, q101, q102, q103, q104, q105, q106, q107, q108, q109, q110, q111, q112, q113, q114, q115, q116, q117, q118, q119, q120, q121, q122, q123, q124, q125, q126, q127, q128, q129, q130, q240, q255, q256, q296, q400, q600, q896, q960, q999, q1000, q11544, q11840, q1000000, q1000000000, ↓reduceIte, if_pos, if_neg, ↓reduceIte, u2r, u2e, u2n, cp2r, cp2s]
        exact fun k hk => h'.2 k (by omega)
    · simp (disch := omega) only [↓mz_lt, ↓mz_b1, ↓mz_b2, ↓mz_b3, mz_b1, mz_b2, mz_b3, mz_lt, mz_o0, mz_o1, nI_add, mz_mul, mz_sub, nI_clamp, mz_in, mz_le, mz_ltp, mz_eq, mz_nm, mz_mn, mz_ml, mz_mlt, mz_nl, mz_mle, qNN, q0, q1, q2, q3, q4, q5, q6, q7, q8, q9, q10, q11, q12, q13, q14, q15, q16, q17, q18, q19, q20, q21, q22, q23, q24, q25, q26, q27, q28, q29, q30, q31, q32, q33, q34, q35, q36, q37, q38, q39, q40, q41, q42, q43, q44, q45, q46, q47, q48, q49, q50, q51, q52, q53, q54, q55, q56, q57, q58, q59, q60, q61, q62, q63, q64, q65, q66, q67, q68, q69, q70, q71, q72, q73, q74, q75, q76, q77, q78, q79, q80, q81, q82, q83, q84, q85, q86, q87, q88, q89, q90, q91, q92, q93, q94, q95, q96, q97, q98, q99, q100, q101, q102, q103, q104, q105, q106, q107, q108, q109, q110, q111, q112, q113, q114, q115, q116, q117, q118, q119, q120, q121, q122, q123, q124, q125, q126, q127, q128, q129, q130, q240, q255, q256, q296, q400, q600, q896, q960, q999, q1000, q11544, q11840, q1000000, q1000000000, ↓reduceIte, if_pos, if_neg, ↓reduceIte, u2r, u2e, u2n, cp2r, cp2s, h.1, h'.1]
      exact ⟨_, _, _, L, rfl, rfl, h, h0, ok, Fr_r _ _, fr0, f50⟩
end TP
