/-! acts by hand: say, lie, swap, move, wake -/
section ACT
variable {i i' i1 i2 i3 j j' j1 j2 : Tb} {rv rv' : Nat → Nat → Option Nat} {W : Option ((Nat → Nat) → Int)} {K g : Nat → Nat → Nat} {σ τ σ' : Nat → Nat} {q p o k b b' t w w0 v n r z c s re x ac nx B B' : Nat} {l l5 : List Nat} {d d' : Nat → Int32} {us : Nat → Nat → Nat}
/-- the class: an act that can't be -/
theorem C_act0 {kd a c : Int32} {i1 : Tb} (h7 : UnR K b B i j ac nx us) (hd : fX3_done 19 kd a c (cp2 i (i 20) 0 26 (nx * 56) 56) rv = some (NN, i1)) : fX11_act kd a c i rv = some (NN, i1) := by
  unfold fX11_act
  rw [C_note h7.2.1 h7.2.2.2.1, mz_b1, hd, mz_b2, if_pos (show NN = -1 from rfl)]
/-- the class: an act that is done, no border -/
theorem C_act1 {kd a c y : Int32} {i2 : Tb} (h7 : UnR K b B i j ac nx us) (hL : LawC W i rv) (hd : fX3_done 19 kd a c (cp2 i (i 20) 0 26 (nx * 56) 56) rv = some (y, i2)) (hy : y ≠ NN) (hkd : kd ≠ 5) (hf2 : FrL [20, 23, 24] rv (cp2 i (i 20) 0 26 (nx * 56) 56) i2) :
    ∃ i3, fX11_act kd a c i rv = some (y, i3) ∧ FrL [20, 23, 24, 25, 26, 27] rv i i3 ∧ i3 20 = i2 20 ∧ i3 26 = va_cpy (i 20) (i 26) 0 (nx * 56) 56 ∧ i3 25 4 = nI ((nx + 1) % 41) ∧ i3 25 5 = nI (min 40 (ac + 1)) ∧ i3 25 6 = i 25 6 ∧ i3 27 = i 27 := by
  have hfr : Fr [26] i (cp2 i (i 20) 0 26 (nx * 56) 56) := fun q hq => cp2r _ _ _ _ _ _ _ (fun e => hq (by simp [e]))
  have hL1 : LawC W (cp2 i (i 20) 0 26 (nx * 56) 56) rv := FrL_law hL (FrL_f hfr) (by decide)
  have row : ∀ q, q < 74 → q ∉ [20, 23, 24, 26] → q ≠ 6 → q ≠ 8 → i2 q = i q := fun q h1 h2 h3 h4 => by
    rw [FrL_row hL1 hf2 (fun e => h2 (by simp at e ⊢; omega)) h3 h4 h1, hfr q (fun e => h2 (by simp at e ⊢; omega))]
  have r26 : i2 26 = va_cpy (i 20) (i 26) 0 (nx * 56) 56 := by
    rw [FrL_row hL1 hf2 (by decide) (by omega) (by omega) (by omega)]
    exact cp2s _ _ _ _ _ _
  unfold fX11_act
  rw [C_note h7.2.1 h7.2.2.2.1, mz_b1, hd, mz_b2, if_neg (show ¬ y = -1 from hy), C_keep h7.2.1 h7.1 (by rw [row 25 (by omega) (by decide) (by omega) (by omega)]; exact h7.2.2.2.1) (by rw [row 25 (by omega) (by decide) (by omega) (by omega)]; exact h7.2.2.1), mz_b1, if_neg hkd]
  refine ⟨_, rfl, ?_, ?_, ?_, ?_, ?_, ?_, ?_⟩
  · exact FrL_t (FrL_f (Fr_w (by decide) hfr)) (FrL_t (FrL_w (by decide) hf2) (FrL_f (Fr_t (Fr_w (by decide) Fr_u) (Fr_w (by decide) Fr_u))))
  · rw [u2r _ _ _ _ _ (by omega), u2r _ _ _ _ _ (by omega)]
  · rw [u2r _ _ _ _ _ (by omega), u2r _ _ _ _ _ (by omega), r26]
  · rw [u2n _ _ _ _ _ (by omega), u2e]
  · rw [u2e]
  · rw [u2n _ _ _ _ _ (by omega), u2n _ _ _ _ _ (by omega), row 25 (by omega) (by decide) (by omega) (by omega)]
  · rw [u2r _ _ _ _ _ (by omega), u2r _ _ _ _ _ (by omega), row 27 (by omega) (by decide) (by omega) (by omega)]
/-! what the class's house does, by hand -/
theorem h_say (h : CarC 15 K i) (hK : OkK K) (hb : OkS K b σ) (hs : ScC σ (i (q + 1))) (a1 a2 : Int32) : (fX3_sayAnother q a1 a2 i = some (NN, i) ∧ ¬ ∃ p v, a1 = nI p ∧ a2 = nI v ∧ p < K 0 3 ∧ sv K p 5 = 0 ∧ 0 < sv K p 1 ∧ v ≤ 2 ∧ σ (18 + p) ≠ v) ∨ ∃ p v, a1 = nI p ∧ a2 = nI v ∧ p < K 0 3 ∧ sv K p 5 = 0 ∧ 0 < sv K p 1 ∧ v ≤ 2 ∧ σ (18 + p) ≠ v ∧ fX3_sayAnother q a1 a2 i = some (nI (σ (18 + p)), u2 i (q + 1) (18 + p) (nI v)) := by
  have hm := hK.1
  unfold fX3_sayAnother fX1_isLacking fX1_hasPaper
  rcases mz_cases a1 with c1 | ⟨p, hp, rfl⟩
  · rw [c_hasSleeper0 c1]
    refine Or.inl ⟨rfl, ?_⟩
    rintro ⟨p, v, e, _, hp, _⟩
    rw [e, nI_ltI (by omega) (by omega)] at c1
    omega
  by_cases h1 : p < K 0 3
  · have hl9 := hK.2.2.2.2.2.2.2.2.2.1 p 1 h1 (by omega)
    have hc1 := hK.2.2.2.2.2.2.2.2.2.2.1 p h1
    have hsd := (hb.2.2.2.2.2.1 p h1).1
    rw [c_hasSleeper h hK hp, q5, c_ofSleeper h (by omega) (by omega), q1, c_ofSleeper h (by omega) (by omega), s_saidFor hs (by omega)]
    by_cases h2 : sv K p 5 = 0
    · by_cases h3 : 0 < sv K p 1
      · rcases mz_cases a2 with c2 | ⟨v, hv, rfl⟩
        · refine Or.inl ⟨?_, ?_⟩
          · simp (disch := omega) only [↓mz_lt, ↓mz_b1, ↓mz_b2, ↓mz_b3, mz_b1, mz_b2, mz_b3, mz_lt, mz_o0, mz_o1, nI_add, mz_mul, mz_sub, nI_clamp, mz_in, mz_le, mz_ltp, mz_eq, mz_nm, mz_mn, mz_ml, mz_mlt, mz_nl, mz_mle, qNN, q0, q1, q2, q3, q4, q5, q6, q7, q8, q9, q10, q11, q12, q13, q14, q15, q16, q17, q18, q19, q20, q21, q22, q23, q24, q25, q26, q27, q28, q29, q30, q31, q32, q33, q34, q35, q36, q37, q38, q39, q40, q41, q42, q43, q44, q45, q46, q47, q48, q49, q50, q51, q52, q53, q54, q55, q56, q57, q58, q59, q60, q61, q62, q63, q64, q65, q66, q67, q68, q69, q70, q71, q72, q73, q74, q75, q76, q77, q78, q79, q80, q81, q82, q83, q84, q85, q86, q87, q88, q89, q90, q91, q92, q93, q94, q95, q96, q97, q98, q99, q100, q101, q102, q103, q104, q105, q106, q107, q108, q109, q110, q111, q112, q113, q114, q115, q116, q117, q118, q119, q120, q121, q122, q123, q124, q125, q126, q127, q128, q129, q130, q240, q255, q256, q296, q400, q600, q896, q960, q999, q1000, q11544, q11840, q1000000, q1000000000, ↓reduceIte, if_pos, if_neg, ↓reduceIte, u2r, u2e, u2n, cp2r, cp2s, c2]
          · rintro ⟨p', v, _, e, _, _, _, hv, _⟩
            rw [e, nI_ltI (by omega) (by omega)] at c2
            omega
        · by_cases h4 : v ≤ 2
          · by_cases h5 : σ (18 + p) = v
            · refine Or.inl ⟨?_, ?_⟩
              · simp (disch := omega) only [↓mz_lt, ↓mz_b1, ↓mz_b2, ↓mz_b3, mz_b1, mz_b2, mz_b3, mz_lt, mz_o0, mz_o1, nI_add, mz_mul, mz_sub, nI_clamp, mz_in, mz_le, mz_ltp, mz_eq, mz_nm, mz_mn, mz_ml, mz_mlt, mz_nl, mz_mle, qNN, q0, q1, q2, q3, q4, q5, q6, q7, q8, q9, q10, q11, q12, q13, q14, q15, q16, q17, q18, q19, q20, q21, q22, q23, q24, q25, q26, q27, q28, q29, q30, q31, q32, q33, q34, q35, q36, q37, q38, q39, q40, q41, q42, q43, q44, q45, q46, q47, q48, q49, q50, q51, q52, q53, q54, q55, q56, q57, q58, q59, q60, q61, q62, q63, q64, q65, q66, q67, q68, q69, q70, q71, q72, q73, q74, q75, q76, q77, q78, q79, q80, q81, q82, q83, q84, q85, q86, q87, q88, q89, q90, q91, q92, q93, q94, q95, q96, q97, q98, q99, q100, q101, q102, q103, q104, q105, q106, q107, q108, q109, q110, q111, q112, q113, q114, q115, q116, q117, q118, q119, q120, q121, q122, q123, q124, q125, q126, q127, q128, q129, q130, q240, q255, q256, q296, q400, q600, q896, q960, q999, q1000, q11544, q11840, q1000000, q1000000000, ↓reduceIte, if_pos, if_neg, ↓reduceIte, u2r, u2e, u2n, cp2r, cp2s]
              · rintro ⟨p', v', e1, e2, hp', _, _, hv', h6⟩
                rw [nI_eq (by omega) (by omega)] at e1 e2
                subst e1
                subst e2
                exact h6 h5
            · refine Or.inr ⟨p, v, rfl, rfl, h1, h2, h3, h4, h5, ?_⟩
              unfold fX8_putSaid
              simp (disch := omega) only [↓mz_lt, ↓mz_b1, ↓mz_b2, ↓mz_b3, mz_b1, mz_b2, mz_b3, mz_lt, mz_o0, mz_o1, nI_add, mz_mul, mz_sub, nI_clamp, mz_in, mz_le, mz_ltp, mz_eq, mz_nm, mz_mn, mz_ml, mz_mlt, mz_nl, mz_mle, qNN, q0, q1, q2, q3, q4, q5, q6, q7, q8, q9, q10, q11, q12, q13, q14, q15, q16, q17, q18, q19, q20, q21, q22, q23, q24, q25, q26, q27, q28, q29, q30, q31, q32, q33, q34, q35, q36, q37, q38, q39, q40, q41, q42, q43, q44, q45, q46, q47, q48, q49, q50, q51, q52, q53, q54, q55, q56, q57, q58, q59, q60, q61, q62, q63, q64, q65, q66, q67, q68, q69, q70, q71, q72, q73, q74, q75, q76, q77, q78, q79, q80, q81, q82, q83, q84, q85, q86, q87, q88, q89, q90, q91, q92, q93, q94, q95, q96, q97, q98, q99, q100, q101, q102, q103, q104, q105, q106, q107, q108, q109, q110, q111, q112, q113, q114, q115, q116, q117, q118, q119, q120, q121, q122, q123, q124, q125, q126, q127, q128, q129, q130, q240, q255, q256, q296, q400, q600, q896, q960, q999, q1000, q11544, q11840, q1000000, q1000000000, ↓reduceIte, if_pos, if_neg, ↓reduceIte, u2r, u2e, u2n, cp2r, cp2s]
          · refine Or.inl ⟨?_, ?_⟩
            · simp (disch := omega) only [↓mz_lt, ↓mz_b1, ↓mz_b2, ↓mz_b3, mz_b1, mz_b2, mz_b3, mz_lt, mz_o0, mz_o1, nI_add, mz_mul, mz_sub, nI_clamp, mz_in, mz_le, mz_ltp, mz_eq, mz_nm, mz_mn, mz_ml, mz_mlt, mz_nl, mz_mle, qNN, q0, q1, q2, q3, q4, q5, q6, q7, q8, q9, q10, q11, q12, q13, q14, q15, q16, q17, q18, q19, q20, q21, q22, q23, q24, q25, q26, q27, q28, q29, q30, q31, q32, q33, q34, q35, q36, q37, q38, q39, q40, q41, q42, q43, q44, q45, q46, q47, q48, q49, q50, q51, q52, q53, q54, q55, q56, q57, q58, q59, q60, q61, q62, q63, q64, q65, q66, q67, q68, q69, q70, q71, q72, q73, q74, q75, q76, q77, q78, q79, q80, q81, q82, q83, q84, q85, q86, q87, q88, q89, q90, q91, q92, q93, q94, q95, q96, q97, q98, q99, q100, q101, q102, q103, q104, q105, q106, q107, q108, q109, q110, q111, q112, q113, q114, q115, q116, q117, q118, q119, q120, q121, q122, q123, q124, q125, q126, q127, q128, q129, q130, q240, q255, q256, q296, q400, q600, q896, q960, q999, q1000, q11544, q11840, q1000000, q1000000000, ↓reduceIte, if_pos, if_neg, ↓reduceIte, u2r, u2e, u2n, cp2r, cp2s]
            · rintro ⟨p', v', e1, e2, hp', _, _, hv', h6⟩
              rw [nI_eq (by omega) (by omega)] at e2
              omega
      · refine Or.inl ⟨?_, ?_⟩
        · simp (disch := omega) only [↓mz_lt, ↓mz_b1, ↓mz_b2, ↓mz_b3, mz_b1, mz_b2, mz_b3, mz_lt, mz_o0, mz_o1, nI_add, mz_mul, mz_sub, nI_clamp, mz_in, mz_le, mz_ltp, mz_eq, mz_nm, mz_mn, mz_ml, mz_mlt, mz_nl, mz_mle, qNN, q0, q1, q2, q3, q4, q5, q6, q7, q8, q9, q10, q11, q12, q13, q14, q15, q16, q17, q18, q19, q20, q21, q22, q23, q24, q25, q26, q27, q28, q29, q30, q31, q32, q33, q34, q35, q36, q37, q38, q39, q40, q41, q42, q43, q44, q45, q46, q47, q48, q49, q50, q51, q52, q53, q54, q55, q56, q57, q58, q59, q60, q61, q62, q63, q64, q65, q66, q67, q68, q69, q70, q71, q72, q73, q74, q75, q76, q77, q78, q79, q80, q81, q82, q83, q84, q85, q86, q87, q88, q89, q90, q91, q92, q93, q94, q95, q96, q97, q98, q99, q100, q101, q102, q103, q104, q105, q106, q107, q108, q109, q110, q111, q112, q113, q114, q115, q116, q117, q118, q119, q120, q121, q122, q123, q124, q125, q126, q127, q128, q129, q130, q240, q255, q256, q296, q400, q600, q896, q960, q999, q1000, q11544, q11840, q1000000, q1000000000, ↓reduceIte, if_pos, if_neg, ↓reduceIte, u2r, u2e, u2n, cp2r, cp2s]
        · rintro ⟨p', v', e1, e2, hp', _, h6, hv', _⟩
          rw [nI_eq (by omega) (by omega)] at e1
          subst e1
          exact h3 h6
    · refine Or.inl ⟨?_, ?_⟩
      · simp (disch := omega) only [↓mz_lt, ↓mz_b1, ↓mz_b2, ↓mz_b3, mz_b1, mz_b2, mz_b3, mz_lt, mz_o0, mz_o1, nI_add, mz_mul, mz_sub, nI_clamp, mz_in, mz_le, mz_ltp, mz_eq, mz_nm, mz_mn, mz_ml, mz_mlt, mz_nl, mz_mle, qNN, q0, q1, q2, q3, q4, q5, q6, q7, q8, q9, q10, q11, q12, q13, q14, q15, q16, q17, q18, q19, q20, q21, q22, q23, q24, q25, q26, q27, q28, q29, q30, q31, q32, q33, q34, q35, q36, q37, q38, q39, q40, q41, q42, q43, q44, q45, q46, q47, q48, q49, q50, q51, q52, q53, q54, q55, q56, q57, q58, q59, q60, q61, q62, q63, q64, q65, q66, q67, q68, q69, q70, q71, q72, q73, q74, q75, q76, q77, q78, q79, q80, q81, q82, q83, q84, q85, q86, q87, q88, q89, q90, q91, q92, q93, q94, q95, q96, q97, q98, q99, q100, q101, q102, q103, q104, q105, q106, q107, q108, q109, q110, q111, q112, q113, q114, q115, q116, q117, q118, q119, q120, q121, q122, q123, q124, q125, q126, q127, q128, q129, q130, q240, q255, q256, q296, q400, q600, q896, q960, q999, q1000, q11544, q11840, q1000000, q1000000000, ↓reduceIte, if_pos, if_neg, ↓reduceIte, u2r, u2e, u2n, cp2r, cp2s]
      · rintro ⟨p', v', e1, e2, hp', h6, _, hv', _⟩
        rw [nI_eq (by omega) (by omega)] at e1
        subst e1
        exact h2 h6
  · refine Or.inl ⟨?_, ?_⟩
    · rw [c_hasSleeper h hK hp]
      simp (disch := omega) only [↓mz_lt, ↓mz_b1, ↓mz_b2, ↓mz_b3, mz_b1, mz_b2, mz_b3, mz_lt, mz_o0, mz_o1, nI_add, mz_mul, mz_sub, nI_clamp, mz_in, mz_le, mz_ltp, mz_eq, mz_nm, mz_mn, mz_ml, mz_mlt, mz_nl, mz_mle, qNN, q0, q1, q2, q3, q4, q5, q6, q7, q8, q9, q10, q11, q12, q13, q14, q15, q16, q17, q18, q19, q20, q21, q22, q23, q24, q25, q26, q27, q28, q29, q30, q31, q32, q33, q34, q35, q36, q37, q38, q39, q40, q41, q42, q43, q44, q45, q46, q47, q48, q49, q50, q51, q52, q53, q54, q55, q56, q57, q58, q59, q60, q61, q62, q63, q64, q65, q66, q67, q68, q69, q70, q71, q72, q73, q74, q75, q76, q77, q78, q79, q80, q81, q82, q83, q84, q85, q86, q87, q88, q89, q90, q91, q92, q93, q94, q95, q96, q97, q98, q99, q100, q101, q102, q103, q104, q105, q106, q107, q108, q109, q110, q111, q112, q113, q114, q115, q116, q117, q118, q119, q120, q121, q122, q123, q124, q125, q126, q127, q128, q129, q130, q240, q255, q256, q296, q400, q600, q896, q960, q999, q1000, q11544, q11840, q1000000, q1000000000, ↓reduceIte, if_pos, if_neg, ↓reduceIte, u2r, u2e, u2n, cp2r, cp2s]
    · rintro ⟨p', v', e1, e2, hp', h6, _, hv', _⟩
      rw [nI_eq (by omega) (by omega)] at e1
      omega
end ACT
