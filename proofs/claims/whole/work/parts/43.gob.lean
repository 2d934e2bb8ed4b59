/-! a border as the reference goes through it -/
def mB (K : Nat → Nat → Nat) (o : Nat) (σ : Nat → Nat) : Nat → Nat
  | 0 => 0
  | z + 1 => if 0 < sv K (σ (9 + z)) 1 then max (mB K o σ z) (dB K o σ z) else mB K o σ z
def laU (x : Option (Nat × Nat)) : Int32 := match x with
  | none => nI 0
  | some y => nI y.2
def RvM (rv rv' : Nat → Nat → Option Nat) : Prop := rv' = rv ∨ rv' = u2 rv 50 5 (some (100 + 52))
theorem RvM_t {a b c : Nat → Nat → Option Nat} (h : RvM a b) (h' : RvM b c) : RvM a c := by
  rcases h with rfl | rfl
  · exact h'
  · rcases h' with rfl | rfl
    · exact Or.inr rfl
    · refine Or.inr ?_
      funext q k
      simp only [u2]
      split
      · split <;> rfl
      · rfl
section GB
variable {i i' j j' : Tb} {rv : Nat → Nat → Option Nat} {W : Option ((Nat → Nat) → Int)} {K g : Nat → Nat → Nat} {σ τ : Nat → Nat} {q p o k b d t w v n r z c s re : Nat} {l l5 : List Nat}
theorem CarM_f (h : CarM K j) (hf : Fr l j j') (h5 : F5 l5 j j') (h1 : 55 ∉ l) (h2 : 57 ∉ l) (h3 : 59 ∉ l) (h6 : 26 ∉ l5) (h7 : 27 ∉ l5) (h8 : 28 ∉ l5) : CarM K j' := by
  unfold CarM at h ⊢
  rw [hf 55 h1, hf 57 h2, hf 59 h3, h5 26 h6, h5 27 h7, h5 28 h8]
  exact h
theorem LawM_f (h : LawM W j) (hf : Fr l j j') (h5 : F5 l5 j j') (h1 : 52 ∉ l) (h2 : 53 ∉ l) (h6 : 35 ∉ l5) : LawM W j' := by
  unfold LawM at h ⊢
  rw [hf 52 h1, hf 53 h2, h5 35 h6]
  exact h
theorem m_paperAt_2 (h' : CarM K j) (hK : OkK K) (hb : OkS K b σ) (hw : ScM K σ (j w)) (hz : z < K 0 5) : ∀ n r, r ≤ σ (9 + z) → σ (9 + z) - r < n → fX12_paperAt_2 w 296 n (nI z) (nI r) j = some (nI (σ (9 + z))) := by
  have hm := hK.1
  have h5 := hK.2.2.1
  have hp := OkS_dr hb z hz
  intro n
  induction n with
  | zero => intro r h1 h2; omega
  | succ n ih =>
    intro r h1 h2
    rw [fX12_paperAt_2]
    by_cases h3 : r = σ (9 + z)
    · subst h3
      simp (disch := omega) only [↓mz_lt, ↓mz_b1, ↓mz_b2, ↓mz_b3, mz_b1, mz_b2, mz_b3, mz_lt, mz_o0, mz_o1, nI_add, mz_mul, mz_sub, nI_clamp, mz_in, mz_le, mz_ltp, mz_eq, mz_nm, mz_mn, mz_ml, mz_mlt, mz_nl, mz_mle, qNN, q0, q1, q2, q3, q4, q5, q6, q7, q8, q9, q10, q11, q12, q13, q14, q15, q16, q17, q18, q19, q20, q21, q22, q23, q24, q25, q26, q27, q28, q29, q30, q31, q32, q33, q34, q35, q36, q37, q38, q39, q40, q41, q42, q43, q44, q45, q46, q47, q48, q49, q50, q51, q52, q53, q54, q55, q56, q57, q58, q59, q60, q61, q62, q63, q64, q65, q66, q67, q68, q69, q70, q71, q72, q73, q74, q75, q76, q77, q78, q79, q80, q81, q82, q83, q84, q85, q86, q87, q88, q89, q90, q91, q92, q93, q94, q95, q96, q97, q98, q99, q100, q101, q102, q103, q104, q105, q106, q107, q108, q109, q110, q111, q112, q113, q114, q115, q116, q117, q118, q119, q120, q121, q122, q123, q124, q125, q126, q127, q128, q129, q130, q240, q255, q256, q296, q400, q600, q896, q960, q999, q1000, q11544, q11840, q1000000, q1000000000, ↓reduceIte, if_pos, if_neg, ↓reduceIte, u2r, u2e, u2n, cp2r, cp2s, h'.1, hw.2.2.1 z hz]
    · have hch := hK.2.2.2.2.2.2.2.2.2.2.1 r (by omega)
      by_cases h4 : sv K r 5 = 1
      · simp (disch := omega) only [↓mz_lt, ↓mz_b1, ↓mz_b2, ↓mz_b3, mz_b1, mz_b2, mz_b3, mz_lt, mz_o0, mz_o1, nI_add, mz_mul, mz_sub, nI_clamp, mz_in, mz_le, mz_ltp, mz_eq, mz_nm, mz_mn, mz_ml, mz_mlt, mz_nl, mz_mle, qNN, q0, q1, q2, q3, q4, q5, q6, q7, q8, q9, q10, q11, q12, q13, q14, q15, q16, q17, q18, q19, q20, q21, q22, q23, q24, q25, q26, q27, q28, q29, q30, q31, q32, q33, q34, q35, q36, q37, q38, q39, q40, q41, q42, q43, q44, q45, q46, q47, q48, q49, q50, q51, q52, q53, q54, q55, q56, q57, q58, q59, q60, q61, q62, q63, q64, q65, q66, q67, q68, q69, q70, q71, q72, q73, q74, q75, q76, q77, q78, q79, q80, q81, q82, q83, q84, q85, q86, q87, q88, q89, q90, q91, q92, q93, q94, q95, q96, q97, q98, q99, q100, q101, q102, q103, q104, q105, q106, q107, q108, q109, q110, q111, q112, q113, q114, q115, q116, q117, q118, q119, q120, q121, q122, q123, q124, q125, q126, q127, q128, q129, q130, q240, q255, q256, q296, q400, q600, q896, q960, q999, q1000, q11544, q11840, q1000000, q1000000000, ↓reduceIte, if_pos, if_neg, ↓reduceIte, u2r, u2e, u2n, cp2r, cp2s, h'.1, hw.2.1 r (by omega) h4]
        exact ih (r + 1) (by omega) (by omega)
      · obtain ⟨y, hy, hy2⟩ := hb.2.2.2.2.1 r (by omega) (by omega)
        have e := hw.2.2.1 y hy
        rw [hy2] at e
        have hne : ¬ y = z := fun e => h3 (by rw [← hy2, e])
        simp (disch := omega) only [↓mz_lt, ↓mz_b1, ↓mz_b2, ↓mz_b3, mz_b1, mz_b2, mz_b3, mz_lt, mz_o0, mz_o1, nI_add, mz_mul, mz_sub, nI_clamp, mz_in, mz_le, mz_ltp, mz_eq, mz_nm, mz_mn, mz_ml, mz_mlt, mz_nl, mz_mle, qNN, q0, q1, q2, q3, q4, q5, q6, q7, q8, q9, q10, q11, q12, q13, q14, q15, q16, q17, q18, q19, q20, q21, q22, q23, q24, q25, q26, q27, q28, q29, q30, q31, q32, q33, q34, q35, q36, q37, q38, q39, q40, q41, q42, q43, q44, q45, q46, q47, q48, q49, q50, q51, q52, q53, q54, q55, q56, q57, q58, q59, q60, q61, q62, q63, q64, q65, q66, q67, q68, q69, q70, q71, q72, q73, q74, q75, q76, q77, q78, q79, q80, q81, q82, q83, q84, q85, q86, q87, q88, q89, q90, q91, q92, q93, q94, q95, q96, q97, q98, q99, q100, q101, q102, q103, q104, q105, q106, q107, q108, q109, q110, q111, q112, q113, q114, q115, q116, q117, q118, q119, q120, q121, q122, q123, q124, q125, q126, q127, q128, q129, q130, q240, q255, q256, q296, q400, q600, q896, q960, q999, q1000, q11544, q11840, q1000000, q1000000000, ↓reduceIte, if_pos, if_neg, ↓reduceIte, u2r, u2e, u2n, cp2r, cp2s, h'.1, e]
        exact ih (r + 1) (by omega) (by omega)
theorem m_paperAt (h' : CarM K j) (hK : OkK K) (hb : OkS K b σ) (hw : ScM K σ (j w)) (hz : z < K 0 5) : fX12_paperAt w 296 (nI z) j = some (nI (σ (9 + z))) := m_paperAt_2 h' hK hb hw hz fuel 0 (by omega) (by have hm := hK.1; have hp := OkS_dr hb z hz; show σ (9 + z) - 0 < 30000; omega)
theorem m_turnOf (h' : CarM K j) (hK : OkK K) (hb : OkS K b σ) (hw : ScM K σ (j w)) (hp : p < K 0 3) (ho : o < K 0 4) : fX12_turnOf w 296 (nI p) (nI o) j = some (nI (turnS K σ p o)) := by
  have hm := hK.1
  have hm4 := hK.2.1
  have h1 := hK.2.2.2.2.2.2.2.2.2.2.2.2 o ho
  have h2 := (hb.2.2.2.2.2.2.1 p (by omega)).1
  have e1 : j 59 (4 * o + 1) = nI (ov K o 1) := h'.2.2.2.2.2 _ (by omega)
  have e2 : j 59 (4 * o + 2) = nI (ov K o 2) := h'.2.2.2.2.2 _ (by omega)
  have e3 : j 57 (6 * p) = nI (sv K p 0) := h'.2.2.2.2.1 _ (by omega)
  have e4 := h'.2.2.2.1 3 (by omega)
  unfold fX12_turnOf turnS
  simp (disch := omega) only [↓mz_lt, ↓mz_b1, ↓mz_b2, ↓mz_b3, mz_b1, mz_b2, mz_b3, mz_lt, mz_o0, mz_o1, nI_add, mz_mul, mz_sub, nI_clamp, mz_in, mz_le, mz_ltp, mz_eq, mz_nm, mz_mn, mz_ml, mz_mlt, mz_nl, mz_mle, qNN, q0, q1, q2, q3, q4, q5, q6, q7, q8, q9, q10, q11, q12, q13, q14, q15, q16, q17, q18, q19, q20, q21, q22, q23, q24, q25, q26, q27, q28, q29, q30, q31, q32, q33, q34, q35, q36, q37, q38, q39, q40, q41, q42, q43, q44, q45, q46, q47, q48, q49, q50, q51, q52, q53, q54, q55, q56, q57, q58, q59, q60, q61, q62, q63, q64, q65, q66, q67, q68, q69, q70, q71, q72, q73, q74, q75, q76, q77, q78, q79, q80, q81, q82, q83, q84, q85, q86, q87, q88, q89, q90, q91, q92, q93, q94, q95, q96, q97, q98, q99, q100, q101, q102, q103, q104, q105, q106, q107, q108, q109, q110, q111, q112, q113, q114, q115, q116, q117, q118, q119, q120, q121, q122, q123, q124, q125, q126, q127, q128, q129, q130, q240, q255, q256, q296, q400, q600, q896, q960, q999, q1000, q11544, q11840, q1000000, q1000000000, ↓reduceIte, if_pos, if_neg, ↓reduceIte, u2r, u2e, u2n, cp2r, cp2s, e1, e2, e3, e4, (hw.1 p hp).2.2.1]
  by_cases h3 : ov K o 1 = 1
  · by_cases h4 : σ (27 + p) = 1
    · simp (disch := omega) only [↓mz_lt, ↓mz_b1, ↓mz_b2, ↓mz_b3, mz_b1, mz_b2, mz_b3, mz_lt, mz_o0, mz_o1, nI_add, mz_mul, mz_sub, nI_clamp, mz_in, mz_le, mz_ltp, mz_eq, mz_nm, mz_mn, mz_ml, mz_mlt, mz_nl, mz_mle, qNN, q0, q1, q2, q3, q4, q5, q6, q7, q8, q9, q10, q11, q12, q13, q14, q15, q16, q17, q18, q19, q20, q21, q22, q23, q24, q25, q26, q27, q28, q29, q30, q31, q32, q33, q34, q35, q36, q37, q38, q39, q40, q41, q42, q43, q44, q45, q46, q47, q48, q49, q50, q51, q52, q53, q54, q55, q56, q57, q58, q59, q60, q61, q62, q63, q64, q65, q66, q67, q68, q69, q70, q71, q72, q73, q74, q75, q76, q77, q78, q79, q80, q81, q82, q83, q84, q85, q86, q87, q88, q89, q90, q91, q92, q93, q94, q95, q96, q97, q98, q99, q100, q101, q102, q103, q104, q105, q106, q107, q108, q109, q110, q111, q112, q113, q114, q115, q116, q117, q118, q119, q120, q121, q122, q123, q124, q125, q126, q127, q128, q129, q130, q240, q255, q256, q296, q400, q600, q896, q960, q999, q1000, q11544, q11840, q1000000, q1000000000, ↓reduceIte, if_pos, if_neg, ↓reduceIte, u2r, u2e, u2n, cp2r, cp2s, Nat.add_assoc]
    · simp (disch := omega) only [↓mz_lt, ↓mz_b1, ↓mz_b2, ↓mz_b3, mz_b1, mz_b2, mz_b3, mz_lt, mz_o0, mz_o1, nI_add, mz_mul, mz_sub, nI_clamp, mz_in, mz_le, mz_ltp, mz_eq, mz_nm, mz_mn, mz_ml, mz_mlt, mz_nl, mz_mle, qNN, q0, q1, q2, q3, q4, q5, q6, q7, q8, q9, q10, q11, q12, q13, q14, q15, q16, q17, q18, q19, q20, q21, q22, q23, q24, q25, q26, q27, q28, q29, q30, q31, q32, q33, q34, q35, q36, q37, q38, q39, q40, q41, q42, q43, q44, q45, q46, q47, q48, q49, q50, q51, q52, q53, q54, q55, q56, q57, q58, q59, q60, q61, q62, q63, q64, q65, q66, q67, q68, q69, q70, q71, q72, q73, q74, q75, q76, q77, q78, q79, q80, q81, q82, q83, q84, q85, q86, q87, q88, q89, q90, q91, q92, q93, q94, q95, q96, q97, q98, q99, q100, q101, q102, q103, q104, q105, q106, q107, q108, q109, q110, q111, q112, q113, q114, q115, q116, q117, q118, q119, q120, q121, q122, q123, q124, q125, q126, q127, q128, q129, q130, q240, q255, q256, q296, q400, q600, q896, q960, q999, q1000, q11544, q11840, q1000000, q1000000000, ↓reduceIte, if_pos, if_neg, ↓reduceIte, u2r, u2e, u2n, cp2r, cp2s, Nat.add_assoc]
  · simp (disch := omega) only [↓mz_lt, ↓mz_b1, ↓mz_b2, ↓mz_b3, mz_b1, mz_b2, mz_b3, mz_lt, mz_o0, mz_o1, nI_add, mz_mul, mz_sub, nI_clamp, mz_in, mz_le, mz_ltp, mz_eq, mz_nm, mz_mn, mz_ml, mz_mlt, mz_nl, mz_mle, qNN, q0, q1, q2, q3, q4, q5, q6, q7, q8, q9, q10, q11, q12, q13, q14, q15, q16, q17, q18, q19, q20, q21, q22, q23, q24, q25, q26, q27, q28, q29, q30, q31, q32, q33, q34, q35, q36, q37, q38, q39, q40, q41, q42, q43, q44, q45, q46, q47, q48, q49, q50, q51, q52, q53, q54, q55, q56, q57, q58, q59, q60, q61, q62, q63, q64, q65, q66, q67, q68, q69, q70, q71, q72, q73, q74, q75, q76, q77, q78, q79, q80, q81, q82, q83, q84, q85, q86, q87, q88, q89, q90, q91, q92, q93, q94, q95, q96, q97, q98, q99, q100, q101, q102, q103, q104, q105, q106, q107, q108, q109, q110, q111, q112, q113, q114, q115, q116, q117, q118, q119, q120, q121, q122, q123, q124, q125, q126, q127, q128, q129, q130, q240, q255, q256, q296, q400, q600, q896, q960, q999, q1000, q11544, q11840, q1000000, q1000000000, ↓reduceIte, if_pos, if_neg, ↓reduceIte, u2r, u2e, u2n, cp2r, cp2s, Nat.add_assoc]
    rfl
theorem m_waitOf (h' : CarM K j) (hK : OkK K) (hw : ScM K σ (j w)) (hp : p < K 0 3) (ho : o < K 0 4) (hs : σ (18 + p) ≤ 2) : fX12_waitOf w 296 (nI p) (nI o) (if 0 < c then 1 else 0) j = some (nI (waitS K p o (σ (18 + p)) c)) := by
  have hm := hK.1
  have hm4 := hK.2.1
  have h1 := hK.2.2.2.2.2.2.2.2.2.2.2.2 o ho
  have h2 := hK.2.2.2.2.2.2.2.2.2.1 p 1 hp (by omega)
  have h3 := hK.2.2.2.2.2.2.2.2.2.2.2.1 o 3 ho (by omega)
  have e1 : j 59 (4 * o + 1) = nI (ov K o 1) := h'.2.2.2.2.2 _ (by omega)
  have e2 : j 59 (4 * o + 3) = nI (ov K o 3) := h'.2.2.2.2.2 _ (by omega)
  have e3 : j 57 (6 * p + 1) = nI (sv K p 1) := h'.2.2.2.2.1 _ (by omega)
  unfold fX12_waitOf waitS
  simp (disch := omega) only [q6, q1, q2, q3, q4, mz_mul, nI_add, mz_in, nI_clamp, ↓reduceIte, e1, e2, e3, (hw.1 p hp).2.1]
  simp only [↓mz_lt]
  by_cases h4 : σ (18 + p) = 1
  · by_cases h5 : ov K o 1 = 1
    · simp (disch := omega) only [↓mz_lt, ↓mz_b1, ↓mz_b2, ↓mz_b3, mz_b1, mz_b2, mz_b3, mz_lt, mz_o0, mz_o1, nI_add, mz_mul, mz_sub, nI_clamp, mz_in, mz_le, mz_ltp, mz_eq, mz_nm, mz_mn, mz_ml, mz_mlt, mz_nl, mz_mle, qNN, q0, q1, q2, q3, q4, q5, q6, q7, q8, q9, q10, q11, q12, q13, q14, q15, q16, q17, q18, q19, q20, q21, q22, q23, q24, q25, q26, q27, q28, q29, q30, q31, q32, q33, q34, q35, q36, q37, q38, q39, q40, q41, q42, q43, q44, q45, q46, q47, q48, q49, q50, q51, q52, q53, q54, q55, q56, q57, q58, q59, q60, q61, q62, q63, q64, q65, q66, q67, q68, q69, q70, q71, q72, q73, q74, q75, q76, q77, q78, q79, q80, q81, q82, q83, q84, q85, q86, q87, q88, q89, q90, q91, q92, q93, q94, q95, q96, q97, q98, q99, q100, q101, q102, q103, q104, q105, q106, q107, q108, q109, q110, q111, q112, q113, q114, q115, q116, q117, q118, q119, q120, q121, q122, q123, q124, q125, q126, q127, q128, q129, q130, q240, q255, q256, q296, q400, q600, q896, q960, q999, q1000, q11544, q11840, q1000000, q1000000000, ↓reduceIte, if_pos, if_neg, ↓reduceIte, u2r, u2e, u2n, cp2r, cp2s]
    · simp (disch := omega) only [↓mz_lt, ↓mz_b1, ↓mz_b2, ↓mz_b3, mz_b1, mz_b2, mz_b3, mz_lt, mz_o0, mz_o1, nI_add, mz_mul, mz_sub, nI_clamp, mz_in, mz_le, mz_ltp, mz_eq, mz_nm, mz_mn, mz_ml, mz_mlt, mz_nl, mz_mle, qNN, q0, q1, q2, q3, q4, q5, q6, q7, q8, q9, q10, q11, q12, q13, q14, q15, q16, q17, q18, q19, q20, q21, q22, q23, q24, q25, q26, q27, q28, q29, q30, q31, q32, q33, q34, q35, q36, q37, q38, q39, q40, q41, q42, q43, q44, q45, q46, q47, q48, q49, q50, q51, q52, q53, q54, q55, q56, q57, q58, q59, q60, q61, q62, q63, q64, q65, q66, q67, q68, q69, q70, q71, q72, q73, q74, q75, q76, q77, q78, q79, q80, q81, q82, q83, q84, q85, q86, q87, q88, q89, q90, q91, q92, q93, q94, q95, q96, q97, q98, q99, q100, q101, q102, q103, q104, q105, q106, q107, q108, q109, q110, q111, q112, q113, q114, q115, q116, q117, q118, q119, q120, q121, q122, q123, q124, q125, q126, q127, q128, q129, q130, q240, q255, q256, q296, q400, q600, q896, q960, q999, q1000, q11544, q11840, q1000000, q1000000000, ↓reduceIte, if_pos, if_neg, ↓reduceIte, u2r, u2e, u2n, cp2r, cp2s, mz_div]
  · by_cases h5 : σ (18 + p) = 2
    · by_cases h6 : 0 < c
      · simp (disch := omega) only [q6, q0, q2, q1, mz_mul, mz_eq, if_pos, if_neg, ↓reduceIte]
        exact congrArg some (mz_sub0 (by omega) (by omega))
      · simp (disch := omega) only [↓mz_lt, ↓mz_b1, ↓mz_b2, ↓mz_b3, mz_b1, mz_b2, mz_b3, mz_lt, mz_o0, mz_o1, nI_add, mz_mul, mz_sub, nI_clamp, mz_in, mz_le, mz_ltp, mz_eq, mz_nm, mz_mn, mz_ml, mz_mlt, mz_nl, mz_mle, qNN, q0, q1, q2, q3, q4, q5, q6, q7, q8, q9, q10, q11, q12, q13, q14, q15, q16, q17, q18, q19, q20, q21, q22, q23, q24, q25, q26, q27, q28, q29, q30, q31, q32, q33, q34, q35, q36, q37, q38, q39, q40, q41, q42, q43, q44, q45, q46, q47, q48, q49, q50, q51, q52, q53, q54, q55, q56, q57, q58, q59, q60, q61, q62, q63, q64, q65, q66, q67, q68, q69, q70, q71, q72, q73, q74, q75, q76, q77, q78, q79, q80, q81, q82, q83, q84, q85, q86, q87, q88, q89, q90, q91, q92, q93, q94, q95, q96, q97, q98, q99, q100, q101, q102, q103, q104, q105, q106, q107, q108, q109, q110, q111, q112, q113, q114, q115, q116, q117, q118, q119, q120, q121, q122, q123, q124, q125, q126, q127, q128, q129, q130, q240, q255, q256, q296, q400, q600, q896, q960, q999, q1000, q11544, q11840, q1000000, q1000000000, ↓reduceIte, if_pos, if_neg, ↓reduceIte, u2r, u2e, u2n, cp2r, cp2s]
    · simp (disch := omega) only [↓mz_lt, ↓mz_b1, ↓mz_b2, ↓mz_b3, mz_b1, mz_b2, mz_b3, mz_lt, mz_o0, mz_o1, nI_add, mz_mul, mz_sub, nI_clamp, mz_in, mz_le, mz_ltp, mz_eq, mz_nm, mz_mn, mz_ml, mz_mlt, mz_nl, mz_mle, qNN, q0, q1, q2, q3, q4, q5, q6, q7, q8, q9, q10, q11, q12, q13, q14, q15, q16, q17, q18, q19, q20, q21, q22, q23, q24, q25, q26, q27, q28, q29, q30, q31, q32, q33, q34, q35, q36, q37, q38, q39, q40, q41, q42, q43, q44, q45, q46, q47, q48, q49, q50, q51, q52, q53, q54, q55, q56, q57, q58, q59, q60, q61, q62, q63, q64, q65, q66, q67, q68, q69, q70, q71, q72, q73, q74, q75, q76, q77, q78, q79, q80, q81, q82, q83, q84, q85, q86, q87, q88, q89, q90, q91, q92, q93, q94, q95, q96, q97, q98, q99, q100, q101, q102, q103, q104, q105, q106, q107, q108, q109, q110, q111, q112, q113, q114, q115, q116, q117, q118, q119, q120, q121, q122, q123, q124, q125, q126, q127, q128, q129, q130, q240, q255, q256, q296, q400, q600, q896, q960, q999, q1000, q11544, q11840, q1000000, q1000000000, ↓reduceIte, if_pos, if_neg, ↓reduceIte, u2r, u2e, u2n, cp2r, cp2s]
theorem M_wakes (h' : CarM K j) (hK : OkK K) (hb : OkS K b σ) (hb2 : b ≤ 100000) (hw : ScM K σ (j w)) (hw6 : w = 63 ∨ w = 64) (hL : LawM W j) (hp : p < K 0 3) (ht : t ≤ 100000) (ho : o ≤ 9) : ∃ j' rv', fX12_wakes w 296 (nI p) (nI t) (nI o) j rv = some (nI (lossN K W σ p t o), j', rv') ∧ Fr [50, 54, w] j j' ∧ F5 l17 j j' ∧ RvM rv rv' ∧ ScM K (rsS σ p (lossN K W σ p t o)) (j' w) ∧ ∀ k, 54 ≤ k → j' w k = j w k := by
  have hm := hK.1
  obtain ⟨j1, rv1, e, hf, h5, hr⟩ := M_loss (rv := rv) h' hK hb hb2 hw hw6 hL hp ht ho
  have er : j1 w = j w := hf w (by simp; omega)
  have hw1 : ScM K σ (j1 w) := by rw [er]; exact hw
  unfold fX12_wakes
  rw [e]
  simp (disch := omega) only [q6, q3, q4, q5, q0, q1, mz_mul, nI_add, mz_in, nI_clamp, ↓reduceIte, mz_b3]
  simp only [↓mz_lt]
  simp (disch := omega) only [mz_in, nI_clamp, ↓reduceIte, u2n, (hw1.1 p hp).2.2.2.1, (hw1.1 p hp).2.2.2.2, nI_add]
  refine ⟨_, rv1, rfl, ?_, ?_, hr, ScM_rs hK hb hw1 hp, fun k hk => ?_⟩
  · exact Fr_t (Fr_w (by simp) hf) (Fr_t (Fr_w (by simp) Fr_u) (Fr_t (Fr_w (by simp) Fr_u) (Fr_w (by simp) Fr_u)))
  · intro k hk
    simp (disch := omega) only [u2r]
    exact h5 k hk
  · simp (disch := omega) only [u2n]
    rw [er]
end GB
