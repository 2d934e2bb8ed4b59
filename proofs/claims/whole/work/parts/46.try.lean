/-! borders that are only tried: time, slack, longest, tonight -/
section TR
variable {i i' j j' : Tb} {rv rv' : Nat → Nat → Option Nat} {W : Option ((Nat → Nat) → Int)} {K g : Nat → Nat → Nat} {σ τ : Nat → Nat} {q p o k b d t w w0 v n r z c s re x : Nat} {l l5 : List Nat} {v' : Int32}
theorem ScM_e {u u' : Nat → Int32} (hK : OkK K) (hb : OkS K b σ) (h : ScM K σ u) (he : ∀ k, k < 55 → u' k = u k) : ScM K σ u' := by
  have hm := hK.1
  refine ⟨fun p hp => ?_, fun p hp hc => ?_, fun q hq => ?_, ?_⟩
  · rw [he _ (by omega), he _ (by omega), he _ (by omega), he _ (by omega), he _ (by omega)]
    exact h.1 p hp
  · rw [he _ (by omega)]
    exact h.2.1 p hp hc
  · have := OkS_dr hb q hq
    rw [he _ (by omega)]
    exact h.2.2.1 q hq
  · rw [he _ (by omega)]
    exact h.2.2.2
theorem LgM_e {u u' : Nat → Int32} {dd : Nat → Int32} (h : LgM dd n u) (he : ∀ k, 55 ≤ k → k < 56 + 4 * min 60 n → u' k = u k) : LgM dd n u' := by
  refine ⟨?_, fun a c ha hc => ?_⟩
  · rw [he _ (by omega) (by omega)]
    exact h.1
  · rw [he _ (by omega) (by omega)]
    exact h.2 a c ha hc
theorem m_copy_l (hx : x ≤ 296) (hw : w0 ≠ w) : ∀ n k j', k ≤ x → x - k < n → Fr [w] j j' → (∀ z, z < k → j' w z = j w0 z) → ∃ j'', fX12_copy_12 w0 296 w 296 n (nI x) (nI k) j' = some j'' ∧ Fr [w] j j'' ∧ ∀ z, z < x → j'' w z = j w0 z := by
  intro n
  induction n with
  | zero => intro k j' h1 h2; omega
  | succ n ih =>
    intro k j' h1 h2 hf hz
    rw [fX12_copy_12]
    by_cases h3 : k = x
    · subst h3
      rw [if_pos (nI_le (by omega) (by omega))]
      exact ⟨j', rfl, hf, hz⟩
    · simp (disch := omega) only [↓mz_lt, ↓mz_b1, ↓mz_b2, ↓mz_b3, mz_b1, mz_b2, mz_b3, mz_lt, mz_o0, mz_o1, nI_add, mz_mul, mz_sub, nI_clamp, mz_in, mz_le, mz_ltp, mz_eq, mz_nm, mz_mn, mz_ml, mz_mlt, mz_nl, mz_mle, qNN, q0, q1, q2, q3, q4, q5, q6, q7, q8, q9, q10, q11, q12, q13, q14, q15, q16, q17, q18, q19, q20, q21, q22, q23, q24, q25, q26, q27, q28, q29, q30, q31, q32, q33, q34, q35, q36, q37, q38, q39, q40, q41, q42, q43, q44, q45, q46, q47, q48, q49, q50, q51, q52, q53, q54, q55, q56, q57, q58, q59, q60, q61, q62, q63, q64, q65, q66, q67, q68, q69, q70, q71, q72, q73, q74, q75, q76, q77, q78, q79, q80, q81, q82, q83, q84, q85, q86, q87, q88, q89, q90, q91, q92, q93, q94, q95, q96, q97, q98, q99, q100, q101, q102, q103, q104, q105, q106, q107, q108, q109, q110, q111, q112, q113, q114, q115, q116, q117, q118, q119, q120, q121, q122, q123, q124, q125, q126, q127, q128, q129, q130, q240, q255, q256, q296, q400, q600, q896, q960, q999, q1000, q11544, q11840, q1000000, q1000000000, ↓reduceIte, if_pos, if_neg, ↓reduceIte, u2r, u2e, u2n, cp2r, cp2s]
      refine ih (k + 1) _ (by omega) (by omega) (Fr_t hf Fr_u) (fun z hz2 => ?_)
      by_cases h4 : z = k
      · subst h4
        rw [u2e, hf w0 (by simp; omega)]
      · rw [u2n _ _ _ _ _ h4]
        exact hz z (by omega)
theorem m_copy (hw : w0 ≠ w) (hx : x ≤ 60) (h55 : j w0 55 = nI x) : ∃ j', fX12_copy w0 296 w 296 j = some j' ∧ Fr [w] j j' ∧ ∀ z, z < 56 + 4 * x → j' w z = j w0 z := by
  unfold fX12_copy
  obtain ⟨fu, hfu, hfu2⟩ := fuel_g
  rw [hfu]
  simp (disch := omega) only [↓mz_lt, ↓mz_b1, ↓mz_b2, ↓mz_b3, mz_b1, mz_b2, mz_b3, mz_lt, mz_o0, mz_o1, nI_add, mz_mul, mz_sub, nI_clamp, mz_in, mz_le, mz_ltp, mz_eq, mz_nm, mz_mn, mz_ml, mz_mlt, mz_nl, mz_mle, qNN, q0, q1, q2, q3, q4, q5, q6, q7, q8, q9, q10, q11, q12, q13, q14, q15, q16, q17, q18, q19, q20, q21, q22, q23, q24, q25, q26, q27, q28, q29, q30, q31, q32, q33, q34, q35, q36, q37, q38, q39, q40, q41, q42, q43, q44, q45, q46, q47, q48, q49, q50, q51, q52, q53, q54, q55, q56, q57, q58, q59, q60, q61, q62, q63, q64, q65, q66, q67, q68, q69, q70, q71, q72, q73, q74, q75, q76, q77, q78, q79, q80, q81, q82, q83, q84, q85, q86, q87, q88, q89, q90, q91, q92, q93, q94, q95, q96, q97, q98, q99, q100, q101, q102, q103, q104, q105, q106, q107, q108, q109, q110, q111, q112, q113, q114, q115, q116, q117, q118, q119, q120, q121, q122, q123, q124, q125, q126, q127, q128, q129, q130, q240, q255, q256, q296, q400, q600, q896, q960, q999, q1000, q11544, q11840, q1000000, q1000000000, ↓reduceIte, if_pos, if_neg, ↓reduceIte, u2r, u2e, u2n, cp2r, cp2s, h55]
  exact m_copy_l (by omega) hw fu 0 j (by omega) (by omega) (Fr_r _ _) (fun z hz => by omega)
/-- what the class's questions about borders need -/
def WC (K : Nat → Nat → Nat) (W : Option ((Nat → Nat) → Int)) (σ : Nat → Nat) (i : Tb) (rv : Nat → Nat → Option Nat) : Prop := CarC 15 K i ∧ ScC σ (i 20) ∧ LawC W i rv
def WM (K : Nat → Nat → Nat) (W : Option ((Nat → Nat) → Int)) (σ : Nat → Nat) (j : Tb) : Prop := CarM K j ∧ ScM K σ (j 63) ∧ LawM W j ∧ ∃ x, x ≤ 60 ∧ j 63 55 = nI x
theorem WC_f (h : WC K W σ i rv) (hf : FrL l rv i i') (hl : ∀ x, x ∈ l → 20 < x ∧ x < 74) : WC K W σ i' rv := by
  refine ⟨CarC_L h.1 h.2.2 hf (fun q h1 h2 h3 => by have := hl q h3; omega), ?_, FrL_law h.2.2 hf (fun x hx => by have := hl x hx; omega)⟩
  rw [FrL_row h.2.2 hf (fun h3 => by have := hl 20 h3; omega) (by omega) (by omega) (by omega)]
  exact h.2.1
theorem WM_f (h : WM K W σ j) (hf : Fr l j j') (h5 : F5 l5 j j') (h1 : 52 ∉ l ∧ 53 ∉ l ∧ 55 ∉ l ∧ 57 ∉ l ∧ 59 ∉ l ∧ 63 ∉ l) (h2 : 26 ∉ l5 ∧ 27 ∉ l5 ∧ 28 ∉ l5 ∧ 35 ∉ l5) : WM K W σ j' := by
  refine ⟨CarM_f h.1 hf h5 h1.2.2.1 h1.2.2.2.1 h1.2.2.2.2.1 h2.1 h2.2.1 h2.2.2.1, ?_, LawM_f h.2.2.1 hf h5 h1.1 h1.2.1 h2.2.2.2, ?_⟩
  · rw [hf 63 h1.2.2.2.2.2]
    exact h.2.1
  · rw [hf 63 h1.2.2.2.2.2]
    exact h.2.2.2
theorem WM_0 (h : WM K W σ j) : WM K W σ (u2 j 50 0 v') := WM_f h Fr_u F5_u (by decide) (by decide)
theorem C_try (h : WC K W σ i rv) (hK : OkK K) (hb : OkS K b σ) (hb2 : b < 100000) (ho : o < K 0 4) : ∃ i', fX3_pass 19 (nI o) 0 i rv = some (nI (oB K o σ (K 0 5)), i') ∧ FrL [23, 24] rv i i' ∧ i' 23 3 = nI (lB K W o σ (K 0 5)) ∧ i' 23 4 = laW (laB K o σ (K 0 5)) := by
  obtain ⟨i', h1, h2, h3, h4, h5, _⟩ := C_pass (q := 19) (re := 0) h.1 hK hb hb2 h.2.1 (Or.inl rfl) h.2.2 ho (by omega)
  refine ⟨i', h1, fun a c ha hc => ?_, h3, h4⟩
  by_cases e : a = 20
  · subst e
    exact congrFun (h5 rfl) c
  · exact h2 a c (fun e2 => by
      simp only [List.mem_cons, List.mem_nil_iff, or_false] at e2 ha
      omega) hc
theorem M_try (h : WM K W σ j) (hK : OkK K) (hb : OkS K b σ) (hb2 : b < 100000) (ho : o < K 0 4) : ∃ j' rv', fX12_tryBorder (nI o) j rv = some (j', rv') ∧ Fr [50, 54, 64] j j' ∧ F5 l41 j j' ∧ RvM rv rv' ∧ j' 50 37 = nI (oB K o σ (K 0 5)) ∧ j' 50 38 = nI (lB K W o σ (K 0 5)) ∧ j' 50 39 = laW (laB K o σ (K 0 5)) := by
  obtain ⟨h1, h2, h3, x, hx, h4⟩ := h
  obtain ⟨j1, e1, f1, g1⟩ := m_copy (w0 := 63) (w := 64) (by omega) hx h4
  have f5 : F5 ([] : List Nat) j j1 := fun k _ => by rw [f1 50 (by decide)]
  have hs1 : ScM K σ (j1 64) := ScM_e hK hb h2 (fun k hk => g1 k (by omega))
  obtain ⟨j2, rv2, e2, f2, f52, r2, _, _, a1, a2, a3⟩ := M_gob (rv := rv) (w := 64) (CarM_f h1 f1 f5 (by decide) (by decide) (by decide) (by decide) (by decide) (by decide)) hK hb hb2 hs1 (Or.inr rfl) (LawM_f h3 f1 f5 (by decide) (by decide) (by decide)) ho
  unfold fX12_tryBorder
  rw [e1, mz_b1, e2]
  exact ⟨j2, rv2, rfl, Fr_t (Fr_w (by decide) f1) f2, F5_t (F5_w (by decide) f5) f52, r2, a1, a2, a3⟩
/-- 21: time -/
theorem R_time (h : WC K W σ i rv) (h' : WM K W σ j) (hK : OkK K) (hb : OkS K b σ) (hb2 : b < 100000) (a1 a2 : Int32) : ∃ v i' j' rv2, fX11_time a1 a2 i rv = some (v, i') ∧ fX12_time a1 a2 j rv' = some (v, j', rv2) ∧ FrL [23, 24] rv i i' ∧ Fr [50, 54, 64] j j' ∧ F5 (0 :: l41) j j' ∧ RvM rv' rv2 := by
  have fr0 : Fr [50, 54, 64] j (u2 j 50 0 0) := Fr_w (by decide) Fr_u
  have f50 : F5 (0 :: l41) j (u2 j 50 0 0) := F5_w (by decide) F5_u
  have h0 := WM_0 (v' := 0) h'
  unfold fX11_time fX12_time
  simp only [mz_lt]
  rcases mz_cases a1 with c1 | ⟨o, ho, rfl⟩
  · rw [c_hasOfficer0 c1, m_isOfficer0 c1]
    exact ⟨_, _, _, _, rfl, rfl, fun _ _ _ _ => rfl, fr0, f50, Or.inl rfl⟩
  rw [c_hasOfficer h.1 hK ho, m_isOfficer h0.1 hK ho]
  by_cases h2 : o < K 0 4
  · obtain ⟨i1, p1, p2, p3, p4⟩ := C_try h hK hb hb2 h2
    obtain ⟨j1, rv1, s1, s2, s3, s4, s5, s6, s7⟩ := M_try (rv := rv') h0 hK hb hb2 h2
    rcases mz_cases a2 with c2 | ⟨x, hx, rfl⟩
    · rw [L0, mz_isG (by omega) c2]
      simp (disch := omega) only [↓mz_lt, ↓mz_b1, ↓mz_b2, ↓mz_b3, mz_b1, mz_b2, mz_b3, mz_lt, mz_o0, mz_o1, nI_add, mz_mul, mz_sub, nI_clamp, mz_in, mz_le, mz_ltp, mz_eq, mz_nm, mz_mn, mz_ml, mz_mlt, mz_nl, mz_mle, qNN, q0, q1, q2, q3, q4, q5, q6, q7, q8, q9, q10, q11, q12, q13, q14, q15, q16, q17, q18, q19, q20, q21, q22, q23, q24, q25, q26, q27, q28, q29, q30, q31, q32, q33, q34, q35, q36, q37, q38, q39, q40, q41, q42, q43, q44, q45, q46, q47, q48, q49, q50, q51, q52, q53, q54, q55, q56, q57, q58, q59, q60, q61, q62, q63, q64, q65, q66, q67, q68, q69, q70, q71, q72, q73, q74, q75, q76, q77, q78, q79, q80, q81, q82, q83, q84, q85, q86, q87, q88, q89, q90, q91, q92, q93, q94, q95, q96, q97, q98, q99, q100, q101, q102, q103, q104, q105, q106, q107, q108, q109, q110, q111, q112, q113, q114, q115, q116, q117, q118, q119, q120, q121, q122, q123, q124, q125, q126, q127, q128, q129, q130, q240, q255, q256, q296, q400, q600, q896, q960, q999, q1000, q11544, q11840, q1000000, q1000000000, ↓reduceIte, if_pos, if_neg, ↓reduceIte, u2r, u2e, u2n, cp2r, cp2s, c2]
      exact ⟨_, _, _, _, rfl, rfl, fun _ _ _ _ => rfl, fr0, f50, Or.inl rfl⟩
    · rw [L0, L1, mz_isN (by omega) (by omega) (by omega)]
      by_cases h3 : x ≤ 1
      · rw [p1, s1]
        unfold fX3_sleepLost
        by_cases h4 : x = 0
        · simp (disch := omega) only [↓mz_lt, ↓mz_b1, ↓mz_b2, ↓mz_b3, mz_b1, mz_b2, mz_b3, mz_lt, mz_o0, mz_o1, nI_add, mz_mul, mz_sub, nI_clamp, mz_in, mz_le, mz_ltp, mz_eq, mz_nm, mz_mn, mz_ml, mz_mlt, mz_nl, mz_mle, qNN, q0, q1, q2, q3, q4, q5, q6, q7, q8, q9, q10, q11, q12, q13, q14, q15, q16, q17, q18, q19, q20, q21, q22, q23, q24, q25, q26, q27, q28, q29, q30, q31, q32, q33, q34, q35, q36, q37, q38, q39, q40, q41, q42, q43, q44, q45, q46, q47, q48, q49, q50, q51, q52, q53, q54, q55, q56, q57, q58, q59, q60, q61, q62, q63, q64, q65, q66, q67, q68, q69, q70, q71, q72, q73, q74, q75, q76, q77, q78, q79, q80, q81, q82, q83, q84, q85, q86, q87, q88, q89, q90, q91, q92, q93, q94, q95, q96, q97, q98, q99, q100, q101, q102, q103, q104, q105, q106, q107, q108, q109, q110, q111, q112, q113, q114, q115, q116, q117, q118, q119, q120, q121, q122, q123, q124, q125, q126, q127, q128, q129, q130, q240, q255, q256, q296, q400, q600, q896, q960, q999, q1000, q11544, q11840, q1000000, q1000000000, ↓reduceIte, if_pos, if_neg, ↓reduceIte, u2r, u2e, u2n, cp2r, cp2s, s5]
          exact ⟨_, _, _, _, rfl, rfl, p2, Fr_t fr0 s2, F5_t f50 (F5_w (by decide) s3), s4⟩
        · simp (disch := omega) only [↓mz_lt, ↓mz_b1, ↓mz_b2, ↓mz_b3, mz_b1, mz_b2, mz_b3, mz_lt, mz_o0, mz_o1, nI_add, mz_mul, mz_sub, nI_clamp, mz_in, mz_le, mz_ltp, mz_eq, mz_nm, mz_mn, mz_ml, mz_mlt, mz_nl, mz_mle, qNN, q0, q1, q2, q3, q4, q5, q6, q7, q8, q9, q10, q11, q12, q13, q14, q15, q16, q17, q18, q19, q20, q21, q22, q23, q24, q25, q26, q27, q28, q29, q30, q31, q32, q33, q34, q35, q36, q37, q38, q39, q40, q41, q42, q43, q44, q45, q46, q47, q48, q49, q50, q51, q52, q53, q54, q55, q56, q57, q58, q59, q60, q61, q62, q63, q64, q65, q66, q67, q68, q69, q70, q71, q72, q73, q74, q75, q76, q77, q78, q79, q80, q81, q82, q83, q84, q85, q86, q87, q88, q89, q90, q91, q92, q93, q94, q95, q96, q97, q98, q99, q100, q101, q102, q103, q104, q105, q106, q107, q108, q109, q110, q111, q112, q113, q114, q115, q116, q117, q118, q119, q120, q121, q122, q123, q124, q125, q126, q127, q128, q129, q130, q240, q255, q256, q296, q400, q600, q896, q960, q999, q1000, q11544, q11840, q1000000, q1000000000, ↓reduceIte, if_pos, if_neg, ↓reduceIte, u2r, u2e, u2n, cp2r, cp2s, s6, p3]
          exact ⟨_, _, _, _, rfl, rfl, p2, Fr_t fr0 s2, F5_t f50 (F5_w (by decide) s3), s4⟩
      · simp (disch := omega) only [↓mz_lt, ↓mz_b1, ↓mz_b2, ↓mz_b3, mz_b1, mz_b2, mz_b3, mz_lt, mz_o0, mz_o1, nI_add, mz_mul, mz_sub, nI_clamp, mz_in, mz_le, mz_ltp, mz_eq, mz_nm, mz_mn, mz_ml, mz_mlt, mz_nl, mz_mle, qNN, q0, q1, q2, q3, q4, q5, q6, q7, q8, q9, q10, q11, q12, q13, q14, q15, q16, q17, q18, q19, q20, q21, q22, q23, q24, q25, q26, q27, q28, q29, q30, q31, q32, q33, q34, q35, q36, q37, q38, q39, q40, q41, q42, q43, q44, q45, q46, q47, q48, q49, q50, q51, q52, q53, q54, q55, q56, q57, q58, q59, q60, q61, q62, q63, q64, q65, q66, q67, q68, q69, q70, q71, q72, q73, q74, q75, q76, q77, q78, q79, q80, q81, q82, q83, q84, q85, q86, q87, q88, q89, q90, q91, q92, q93, q94, q95, q96, q97, q98, q99, q100, q101, q102, q103, q104, q105, q106, q107, q108, q109, q110, q111, q112, q113, q114, q115, q116, q117, q118, q119, q120, q121, q122, q123, q124, q125, q126, q127, q128, q129, q130, q240, q255, q256, q296, q400, q600, q896, q960, q999, q1000, q11544, q11840, q1000000, q1000000000, ↓reduceIte, if_pos, if_neg, ↓reduceIte, u2r, u2e, u2n, cp2r, cp2s]
        exact ⟨_, _, _, _, rfl, rfl, fun _ _ _ _ => rfl, fr0, f50, Or.inl rfl⟩
  · simp (disch := omega) only [↓mz_lt, ↓mz_b1, ↓mz_b2, ↓mz_b3, mz_b1, mz_b2, mz_b3, mz_lt, mz_o0, mz_o1, nI_add, mz_mul, mz_sub, nI_clamp, mz_in, mz_le, mz_ltp, mz_eq, mz_nm, mz_mn, mz_ml, mz_mlt, mz_nl, mz_mle, qNN, q0, q1, q2, q3, q4, q5, q6, q7, q8, q9, q10, q11, q12, q13, q14, q15, q16, q17, q18, q19, q20, q21, q22, q23, q24, q25, q26, q27, q28, q29, q30, q31, q32, q33, q34, q35, q36, q37, q38, q39, q40, q41, q42, q43, q44, q45, q46, q47, q48, q49, q50, q51, q52, q53, q54, q55, q56, q57, q58, q59, q60, q61, q62, q63, q64, q65, q66, q67, q68, q69, q70, q71, q72, q73, q74, q75, q76, q77, q78, q79, q80, q81, q82, q83, q84, q85, q86, q87, q88, q89, q90, q91, q92, q93, q94, q95, q96, q97, q98, q99, q100, q101, q102, q103, q104, q105, q106, q107, q108, q109, q110, q111, q112, q113, q114, q115, q116, q117, q118, q119, q120, q121, q122, q123, q124, q125, q126, q127, q128, q129, q130, q240, q255, q256, q296, q400, q600, q896, q960, q999, q1000, q11544, q11840, q1000000, q1000000000, ↓reduceIte, if_pos, if_neg, ↓reduceIte, u2r, u2e, u2n, cp2r, cp2s]
    exact ⟨_, _, _, _, rfl, rfl, fun _ _ _ _ => rfl, fr0, f50, Or.inl rfl⟩
/-- 40: slack -/
theorem R_slack (h : WC K W σ i rv) (h' : WM K W σ j) (hK : OkK K) (hb : OkS K b σ) (hb2 : b < 100000) (a1 : Int32) : ∃ v i' j' rv2, fX11_slack a1 i rv = some (v, i') ∧ fX12_slack a1 j rv' = some (v, j', rv2) ∧ FrL [23, 24] rv i i' ∧ Fr [50, 54, 64] j j' ∧ F5 (0 :: l41) j j' ∧ RvM rv' rv2 := by
  have fr0 : Fr [50, 54, 64] j (u2 j 50 0 0) := Fr_w (by decide) Fr_u
  have f50 : F5 (0 :: l41) j (u2 j 50 0 0) := F5_w (by decide) F5_u
  have h0 := WM_0 (v' := 0) h'
  unfold fX11_slack fX12_slack
  simp only [mz_lt]
  rcases mz_cases a1 with c1 | ⟨o, ho, rfl⟩
  · rw [c_hasOfficer0 c1, m_isOfficer0 c1]
    exact ⟨_, _, _, _, rfl, rfl, fun _ _ _ _ => rfl, fr0, f50, Or.inl rfl⟩
  rw [c_hasOfficer h.1 hK ho, m_isOfficer h0.1 hK ho]
  by_cases h2 : o < K 0 4
  · obtain ⟨i1, p1, p2, p3, p4⟩ := C_try h hK hb hb2 h2
    obtain ⟨j1, rv1, s1, s2, s3, s4, s5, s6, s7⟩ := M_try (rv := rv') h0 hK hb hb2 h2
    have e55 : j1 55 0 = nI (K 1 0) := by
      rw [s2 55 (by decide)]
      exact h0.1.2.2.2.1 0 (by omega)
    have e16 : i 16 0 = nI (K 1 0) := h.1.2.2.2.1 0 (by omega)
    unfold fX1_allowedTens
    rw [p1, s1]
    simp (disch := omega) only [q1, q0, q6, mz_eq, if_pos, if_neg, ↓reduceIte, mz_b1, mz_b2, mz_in, nI_clamp, s5, e55, e16]
    exact ⟨_, _, _, _, rfl, rfl, p2, Fr_t fr0 s2, F5_t f50 (F5_w (by decide) s3), s4⟩
  · simp (disch := omega) only [↓mz_lt, ↓mz_b1, ↓mz_b2, ↓mz_b3, mz_b1, mz_b2, mz_b3, mz_lt, mz_o0, mz_o1, nI_add, mz_mul, mz_sub, nI_clamp, mz_in, mz_le, mz_ltp, mz_eq, mz_nm, mz_mn, mz_ml, mz_mlt, mz_nl, mz_mle, qNN, q0, q1, q2, q3, q4, q5, q6, q7, q8, q9, q10, q11, q12, q13, q14, q15, q16, q17, q18, q19, q20, q21, q22, q23, q24, q25, q26, q27, q28, q29, q30, q31, q32, q33, q34, q35, q36, q37, q38, q39, q40, q41, q42, q43, q44, q45, q46, q47, q48, q49, q50, q51, q52, q53, q54, q55, q56, q57, q58, q59, q60, q61, q62, q63, q64, q65, q66, q67, q68, q69, q70, q71, q72, q73, q74, q75, q76, q77, q78, q79, q80, q81, q82, q83, q84, q85, q86, q87, q88, q89, q90, q91, q92, q93, q94, q95, q96, q97, q98, q99, q100, q101, q102, q103, q104, q105, q106, q107, q108, q109, q110, q111, q112, q113, q114, q115, q116, q117, q118, q119, q120, q121, q122, q123, q124, q125, q126, q127, q128, q129, q130, q240, q255, q256, q296, q400, q600, q896, q960, q999, q1000, q11544, q11840, q1000000, q1000000000, ↓reduceIte, if_pos, if_neg, ↓reduceIte, u2r, u2e, u2n, cp2r, cp2s]
    exact ⟨_, _, _, _, rfl, rfl, fun _ _ _ _ => rfl, fr0, f50, Or.inl rfl⟩
/-- 41: longest -/
theorem R_longest (h : WC K W σ i rv) (h' : WM K W σ j) (hK : OkK K) (hb : OkS K b σ) (hb2 : b < 100000) (a1 : Int32) : ∃ v i' j' rv2, fX11_longest a1 i rv = some (v, i') ∧ fX12_longest a1 j rv' = some (v, j', rv2) ∧ FrL [23, 24] rv i i' ∧ Fr [50, 54, 64] j j' ∧ F5 (0 :: l41) j j' ∧ RvM rv' rv2 := by
  have fr0 : Fr [50, 54, 64] j (u2 j 50 0 0) := Fr_w (by decide) Fr_u
  have f50 : F5 (0 :: l41) j (u2 j 50 0 0) := F5_w (by decide) F5_u
  have h0 := WM_0 (v' := 0) h'
  unfold fX11_longest fX12_longest
  simp only [mz_lt]
  rcases mz_cases a1 with c1 | ⟨o, ho, rfl⟩
  · rw [c_hasOfficer0 c1, m_isOfficer0 c1]
    exact ⟨_, _, _, _, rfl, rfl, fun _ _ _ _ => rfl, fr0, f50, Or.inl rfl⟩
  rw [c_hasOfficer h.1 hK ho, m_isOfficer h0.1 hK ho]
  by_cases h2 : o < K 0 4
  · obtain ⟨i1, p1, p2, p3, p4⟩ := C_try h hK hb hb2 h2
    obtain ⟨j1, rv1, s1, s2, s3, s4, s5, s6, s7⟩ := M_try (rv := rv') h0 hK hb hb2 h2
    unfold fX3_lastFetched
    rw [p1, s1]
    simp (disch := omega) only [q1, q0, mz_eq, if_pos, if_neg, ↓reduceIte, mz_b1, mz_b2, s7, p4]
    exact ⟨_, _, _, _, rfl, rfl, p2, Fr_t fr0 s2, F5_t f50 (F5_w (by decide) s3), s4⟩
  · simp (disch := omega) only [↓mz_lt, ↓mz_b1, ↓mz_b2, ↓mz_b3, mz_b1, mz_b2, mz_b3, mz_lt, mz_o0, mz_o1, nI_add, mz_mul, mz_sub, nI_clamp, mz_in, mz_le, mz_ltp, mz_eq, mz_nm, mz_mn, mz_ml, mz_mlt, mz_nl, mz_mle, qNN, q0, q1, q2, q3, q4, q5, q6, q7, q8, q9, q10, q11, q12, q13, q14, q15, q16, q17, q18, q19, q20, q21, q22, q23, q24, q25, q26, q27, q28, q29, q30, q31, q32, q33, q34, q35, q36, q37, q38, q39, q40, q41, q42, q43, q44, q45, q46, q47, q48, q49, q50, q51, q52, q53, q54, q55, q56, q57, q58, q59, q60, q61, q62, q63, q64, q65, q66, q67, q68, q69, q70, q71, q72, q73, q74, q75, q76, q77, q78, q79, q80, q81, q82, q83, q84, q85, q86, q87, q88, q89, q90, q91, q92, q93, q94, q95, q96, q97, q98, q99, q100, q101, q102, q103, q104, q105, q106, q107, q108, q109, q110, q111, q112, q113, q114, q115, q116, q117, q118, q119, q120, q121, q122, q123, q124, q125, q126, q127, q128, q129, q130, q240, q255, q256, q296, q400, q600, q896, q960, q999, q1000, q11544, q11840, q1000000, q1000000000, ↓reduceIte, if_pos, if_neg, ↓reduceIte, u2r, u2e, u2n, cp2r, cp2s]
    exact ⟨_, _, _, _, rfl, rfl, fun _ _ _ _ => rfl, fr0, f50, Or.inl rfl⟩
end TR
