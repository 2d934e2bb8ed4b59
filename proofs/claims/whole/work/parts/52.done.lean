/-! the six acts: when they can be, what they answer, what they leave -/
def actR (K : Nat → Nat → Nat) (W : Option ((Nat → Nat) → Int)) (σ : Nat → Nat) (kd : Nat) (a1 a2 y : Int32) (σ' : Nat → Nat) : Prop :=
  (kd = 0 ∧ ∃ r q, r < K 0 5 ∧ q < K 0 5 ∧ r ≠ q ∧ a1 = nI (σ (9 + r)) ∧ a2 = nI q ∧ y = nI r ∧ σ' = mvS σ r q) ∨
  (kd = 1 ∧ ∃ p v, p < K 0 3 ∧ sv K p 5 = 0 ∧ 0 < sv K p 1 ∧ v ≤ 2 ∧ σ (18 + p) ≠ v ∧ a1 = nI p ∧ a2 = nI v ∧ y = nI (σ (18 + p)) ∧ σ' = up σ (18 + p) v) ∨
  (kd = 2 ∧ ∃ p, p < K 0 3 ∧ σ (27 + p) = 1 ∧ a1 = nI p ∧ y = nI (lossN K W σ p 0 9) ∧ σ' = rsS σ p (lossN K W σ p 0 9)) ∨
  (kd = 3 ∧ ∃ p, p < K 0 3 ∧ σ (27 + p) = 0 ∧ a1 = nI p ∧ y = nI (sumTo (fun z => up σ (27 + p) 1 (27 + z)) 9) ∧ σ' = up σ (27 + p) 1) ∨
  (kd = 4 ∧ ∃ p o, p < K 0 3 ∧ o < K 0 3 ∧ p ≠ o ∧ a1 = nI p ∧ a2 = nI o ∧ y = nI 0 ∧ σ' = swS σ p o) ∨
  (kd = 5 ∧ ∃ o, o < K 0 4 ∧ a1 = nI o ∧ y = nI (oB K o σ (K 0 5)) ∧ σ' = up (sB K W o σ (K 0 5)) 54 (cB σ (K 0 5)))
section DN
variable {i i' i1 i2 i3 j j' j1 j2 : Tb} {rv rv' : Nat → Nat → Option Nat} {W : Option ((Nat → Nat) → Int)} {K g : Nat → Nat → Nat} {σ τ σ' : Nat → Nat} {q p o k b b' t w w0 v n r z c s re x ac nx B B' kd : Nat} {l l5 : List Nat} {d d' : Nat → Int32} {us : Nat → Nat → Nat} {a1 a2 y : Int32}
theorem nI_inj {a c : Nat} (h : nI a = nI c) (ha : a < 2 ^ 31) (hc : c < 2 ^ 31) : a = c := (nI_eq ha hc).mp h
theorem nI_nn {a : Nat} (h : nI a < nI 0) (ha : a < 2 ^ 31) : False := by
  rw [nI_ltI ha (by omega)] at h
  omega
theorem s9_le (hb : OkS K b σ) (f : Nat → Nat) (h : ∀ z, z < 9 → f z ≤ 1) : sumTo f 9 ≤ 9 := sumTo_le h
theorem actR_ok (hK : OkK K) (hb : OkS K b σ) (h : actR K W σ kd a1 a2 y σ') : OkS K (b + 1) σ' ∧ σ' 55 = σ 55 ∧ y ≠ NN := by
  have hm := hK.1
  have h5 := hK.2.2.1
  have nn : ∀ a, a < 2 ^ 31 → nI a ≠ NN := fun a ha e => by rw [mz_nm ha] at e; exact e
  rcases h with ⟨_, r, q, hr, hq, _, _, _, hy, rfl⟩ | ⟨_, p, v, hp, hc, hl, hv, _, _, _, hy, rfl⟩ | ⟨_, p, hp, _, _, hy, rfl⟩ | ⟨_, p, hp, _, _, hy, rfl⟩ | ⟨_, p, o, hp, ho, _, _, _, hy, rfl⟩ | ⟨_, o, ho, _, hy, rfl⟩
  · exact ⟨OkS_up (OkS_mv hK hb hr hq) (by omega), mvS_o (by omega), by rw [hy]; exact nn _ (by omega)⟩
  · exact ⟨OkS_up (OkS_say hK hb hp hc hl hv) (by omega), upn _ _ _ _ (by omega), by rw [hy]; exact nn _ (by have := (hb.2.2.2.2.2.1 p hp).1; omega)⟩
  · have := (hb.2.2.2.2.2.2.1 p (by omega)).2.1
    refine ⟨OkS_rs hK (OkS_up hb (by omega)) hp (by omega) lossN_le, ?_, ?_⟩
    · unfold rsS
      rw [upn _ _ _ _ (by omega), upn _ _ _ _ (by omega), upn _ _ _ _ (by omega)]
    · rw [hy]
      exact nn _ (by have := lossN_le (K := K) (W := W) (σ := σ) (p := p) (t := 0) (o := 9); omega)
  · refine ⟨OkS_up (OkS_lie hK hb hp (by omega)) (by omega), upn _ _ _ _ (by omega), ?_⟩
    rw [hy]
    have := s9_le hb (fun z => up σ (27 + p) 1 (27 + z)) (fun z hz => ((OkS_lie hK hb hp (v := 1) (by omega)).2.2.2.2.2.2.1 z hz).1)
    exact nn _ (by omega)
  · refine ⟨OkS_up (OkS_sw hK hb hp ho) (by omega), ?_, by rw [hy]; exact nn _ (by omega)⟩
    unfold swS
    rw [upn _ _ _ _ (by omega), upn _ _ _ _ (by omega)]
  · refine ⟨OkS_cof hK (sB_ok hK hb _ (by omega)) (cB_le hb), ?_, ?_⟩
    · rw [upn _ _ _ _ (by omega), sB_q hK hb (by omega) (by omega)]
    · rw [hy]
      exact nn _ (by have := oB_le hK hb ho (K 0 5) (by omega); omega)
/-! the class -/
theorem d_say (h : CarC 15 K i) (hK : OkK K) (hb : OkS K b σ) (hs : ScC σ (i (q + 1))) : (fX3_sayAnother q a1 a2 i = some (NN, i) ∧ ¬ ∃ y σ', actR K W σ 1 a1 a2 y σ') ∨ ∃ y σ' i', actR K W σ 1 a1 a2 y σ' ∧ fX3_sayAnother q a1 a2 i = some (y, i') ∧ ScC σ' (i' (q + 1)) ∧ FrL [q + 1, 23, 24] rv i i' := by
  rcases h_say h hK hb hs a1 a2 with ⟨e, hn⟩ | ⟨p, v, e1, e2, hp, hc, hl, hv, hne, e⟩
  · refine Or.inl ⟨e, ?_⟩
    rintro ⟨y, σ', hA⟩
    rcases hA with ⟨h0, _⟩ | ⟨_, p, v, hp, hc, hl, hv, hne, f1, f2, _, _⟩ | ⟨h0, _⟩ | ⟨h0, _⟩ | ⟨h0, _⟩ | ⟨h0, _⟩
    · omega
    · exact hn ⟨p, v, f1, f2, hp, hc, hl, hv, hne⟩
    · omega
    · omega
    · omega
    · omega
  · exact Or.inr ⟨_, _, _, Or.inr (Or.inl ⟨rfl, p, v, hp, hc, hl, hv, hne, e1, e2, rfl, rfl⟩), e, ScC_u hs rfl, FrL_f (Fr_w (by simp) Fr_u)⟩
theorem d_move (h : CarC 15 K i) (hK : OkK K) (hb : OkS K b σ) (hs : ScC σ (i (q + 1))) : (fX3_movePaper q a1 a2 i = some (NN, i) ∧ ¬ ∃ y σ', actR K W σ 0 a1 a2 y σ') ∨ ∃ y σ' i', actR K W σ 0 a1 a2 y σ' ∧ fX3_movePaper q a1 a2 i = some (y, i') ∧ ScC σ' (i' (q + 1)) ∧ FrL [q + 1, 23, 24] rv i i' := by
  have hm := hK.1
  have h5 := hK.2.2.1
  have no : (∀ r q, r < K 0 5 → q < K 0 5 → r ≠ q → a1 = nI (σ (9 + r)) → a2 = nI q → False) → ¬ ∃ y σ', actR K W σ 0 a1 a2 y σ' := by
    rintro hn ⟨y, σ', hA⟩
    rcases hA with ⟨_, r, q, h1, h2, h3, h4, h5, _⟩ | ⟨h0, _⟩ | ⟨h0, _⟩ | ⟨h0, _⟩ | ⟨h0, _⟩ | ⟨h0, _⟩
    · exact hn r q h1 h2 h3 h4 h5
    · omega
    · omega
    · omega
    · omega
    · omega
  unfold fX3_movePaper fX1_papers
  rcases mz_cases a1 with c1 | ⟨p, hp, rfl⟩
  · refine Or.inl ⟨?_, no (fun r q hr _ _ e _ => ?_)⟩
    · unfold fX1_hasPaper
      rw [c_hasSleeper0 c1]
      rfl
    · rw [e] at c1
      exact nI_nn c1 (by have := OkS_dr hb r hr; omega)
  by_cases h1 : p < K 0 3
  · have hc1 := hK.2.2.2.2.2.2.2.2.2.2.1 p h1
    rw [c_hasPaper h hK h1, h.2.2.1]
    by_cases h2 : sv K p 5 = 0
    · obtain ⟨r, hr, hr2⟩ := hb.2.2.2.2.1 p h1 h2
      rcases mz_cases a2 with c2 | ⟨z, hz, rfl⟩
      · refine Or.inl ⟨?_, no (fun r q _ hq _ _ e => ?_)⟩
        · simp (disch := omega) only [↓mz_lt, ↓mz_b1, ↓mz_b2, ↓mz_b3, mz_b1, mz_b2, mz_b3, mz_lt, mz_o0, mz_o1, nI_add, mz_mul, mz_sub, nI_clamp, mz_in, mz_le, mz_ltp, mz_eq, mz_nm, mz_mn, mz_ml, mz_mlt, mz_nl, mz_mle, qNN, q0, q1, q2, q3, q4, q5, q6, q7, q8, q9, q10, q11, q12, q13, q14, q15, q16, q17, q18, q19, q20, q21, q22, q23, q24, q25, q26, q27, q28, q29, q30, q31, q32, q33, q34, q35, q36, q37, q38, q39, q40, q41, q42, q43, q44, q45, q46, q47, q48, q49, q50, q51, q52, q53, q54, q55, q56, q57, q58, q59, q60, q61, q62, q63, q64, q65, q66, q67, q68, q69, q70, q71, q72, q73, q74, q75, q76, q77, q78, q79, q80, q81, q82, q83, q84, q85, q86, q87, q88, q89, q90, q91, q92, q93, q94, q95, q96, q97, q98, q99, q100, q101, q102, q103, q104, q105, q106, q107, q108, q109, q110, q111, q112, q113, q114, q115, q116, q117, q118, q119, q120, q121, q122, q123, q124, q125, q126, q127, q128, q129, q130, q240, q255, q256, q296, q400, q600, q896, q960, q999, q1000, q11544, q11840, q1000000, q1000000000, ↓reduceIte, if_pos, if_neg, ↓reduceIte, u2r, u2e, u2n, cp2r, cp2s, c2]
        · rw [e] at c2
          exact nI_nn c2 (by omega)
      · by_cases h3 : z < K 0 5
        · subst hr2
          simp only [mz_b1]
          rw [s_placeOf hs hb hK hr]
          by_cases h4 : r = z
          · refine Or.inl ⟨?_, no (fun r' q hr' hq hne e e' => ?_)⟩
            · simp (disch := omega) only [↓mz_lt, ↓mz_b1, ↓mz_b2, ↓mz_b3, mz_b1, mz_b2, mz_b3, mz_lt, mz_o0, mz_o1, nI_add, mz_mul, mz_sub, nI_clamp, mz_in, mz_le, mz_ltp, mz_eq, mz_nm, mz_mn, mz_ml, mz_mlt, mz_nl, mz_mle, qNN, q0, q1, q2, q3, q4, q5, q6, q7, q8, q9, q10, q11, q12, q13, q14, q15, q16, q17, q18, q19, q20, q21, q22, q23, q24, q25, q26, q27, q28, q29, q30, q31, q32, q33, q34, q35, q36, q37, q38, q39, q40, q41, q42, q43, q44, q45, q46, q47, q48, q49, q50, q51, q52, q53, q54, q55, q56, q57, q58, q59, q60, q61, q62, q63, q64, q65, q66, q67, q68, q69, q70, q71, q72, q73, q74, q75, q76, q77, q78, q79, q80, q81, q82, q83, q84, q85, q86, q87, q88, q89, q90, q91, q92, q93, q94, q95, q96, q97, q98, q99, q100, q101, q102, q103, q104, q105, q106, q107, q108, q109, q110, q111, q112, q113, q114, q115, q116, q117, q118, q119, q120, q121, q122, q123, q124, q125, q126, q127, q128, q129, q130, q240, q255, q256, q296, q400, q600, q896, q960, q999, q1000, q11544, q11840, q1000000, q1000000000, ↓reduceIte, if_pos, if_neg, ↓reduceIte, u2r, u2e, u2n, cp2r, cp2s]
            · have e1 := nI_inj e (by have := OkS_dr hb r hr; omega) (by have := OkS_dr hb r' hr'; omega)
              have e2 := nI_inj e' (by omega) (by omega)
              have := hb.2.2.2.1 r r' hr hr' e1
              omega
          · obtain ⟨i', k1, k2, k3⟩ := c_shift (r := r) (q := z) (p := q) (by omega) (by omega) hs
            refine Or.inr ⟨_, _, i', Or.inl ⟨rfl, r, z, hr, h3, h4, rfl, rfl, rfl, rfl⟩, ?_, k2, FrL_f (Fr_w (by simp) k3)⟩
            simp (disch := omega) only [↓mz_lt, ↓mz_b1, ↓mz_b2, ↓mz_b3, mz_b1, mz_b2, mz_b3, mz_lt, mz_o0, mz_o1, nI_add, mz_mul, mz_sub, nI_clamp, mz_in, mz_le, mz_ltp, mz_eq, mz_nm, mz_mn, mz_ml, mz_mlt, mz_nl, mz_mle, qNN, q0, q1, q2, q3, q4, q5, q6, q7, q8, q9, q10, q11, q12, q13, q14, q15, q16, q17, q18, q19, q20, q21, q22, q23, q24, q25, q26, q27, q28, q29, q30, q31, q32, q33, q34, q35, q36, q37, q38, q39, q40, q41, q42, q43, q44, q45, q46, q47, q48, q49, q50, q51, q52, q53, q54, q55, q56, q57, q58, q59, q60, q61, q62, q63, q64, q65, q66, q67, q68, q69, q70, q71, q72, q73, q74, q75, q76, q77, q78, q79, q80, q81, q82, q83, q84, q85, q86, q87, q88, q89, q90, q91, q92, q93, q94, q95, q96, q97, q98, q99, q100, q101, q102, q103, q104, q105, q106, q107, q108, q109, q110, q111, q112, q113, q114, q115, q116, q117, q118, q119, q120, q121, q122, q123, q124, q125, q126, q127, q128, q129, q130, q240, q255, q256, q296, q400, q600, q896, q960, q999, q1000, q11544, q11840, q1000000, q1000000000, ↓reduceIte, if_pos, if_neg, ↓reduceIte, u2r, u2e, u2n, cp2r, cp2s, k1]
        · refine Or.inl ⟨?_, no (fun r' q hr' hq hne e e' => ?_)⟩
          · simp (disch := omega) only [↓mz_lt, ↓mz_b1, ↓mz_b2, ↓mz_b3, mz_b1, mz_b2, mz_b3, mz_lt, mz_o0, mz_o1, nI_add, mz_mul, mz_sub, nI_clamp, mz_in, mz_le, mz_ltp, mz_eq, mz_nm, mz_mn, mz_ml, mz_mlt, mz_nl, mz_mle, qNN, q0, q1, q2, q3, q4, q5, q6, q7, q8, q9, q10, q11, q12, q13, q14, q15, q16, q17, q18, q19, q20, q21, q22, q23, q24, q25, q26, q27, q28, q29, q30, q31, q32, q33, q34, q35, q36, q37, q38, q39, q40, q41, q42, q43, q44, q45, q46, q47, q48, q49, q50, q51, q52, q53, q54, q55, q56, q57, q58, q59, q60, q61, q62, q63, q64, q65, q66, q67, q68, q69, q70, q71, q72, q73, q74, q75, q76, q77, q78, q79, q80, q81, q82, q83, q84, q85, q86, q87, q88, q89, q90, q91, q92, q93, q94, q95, q96, q97, q98, q99, q100, q101, q102, q103, q104, q105, q106, q107, q108, q109, q110, q111, q112, q113, q114, q115, q116, q117, q118, q119, q120, q121, q122, q123, q124, q125, q126, q127, q128, q129, q130, q240, q255, q256, q296, q400, q600, q896, q960, q999, q1000, q11544, q11840, q1000000, q1000000000, ↓reduceIte, if_pos, if_neg, ↓reduceIte, u2r, u2e, u2n, cp2r, cp2s]
          · have e2 := nI_inj e' (by omega) (by omega)
            omega
    · refine Or.inl ⟨?_, no (fun r' q hr' hq hne e e' => ?_)⟩
      · simp (disch := omega) only [↓mz_lt, ↓mz_b1, ↓mz_b2, ↓mz_b3, mz_b1, mz_b2, mz_b3, mz_lt, mz_o0, mz_o1, nI_add, mz_mul, mz_sub, nI_clamp, mz_in, mz_le, mz_ltp, mz_eq, mz_nm, mz_mn, mz_ml, mz_mlt, mz_nl, mz_mle, qNN, q0, q1, q2, q3, q4, q5, q6, q7, q8, q9, q10, q11, q12, q13, q14, q15, q16, q17, q18, q19, q20, q21, q22, q23, q24, q25, q26, q27, q28, q29, q30, q31, q32, q33, q34, q35, q36, q37, q38, q39, q40, q41, q42, q43, q44, q45, q46, q47, q48, q49, q50, q51, q52, q53, q54, q55, q56, q57, q58, q59, q60, q61, q62, q63, q64, q65, q66, q67, q68, q69, q70, q71, q72, q73, q74, q75, q76, q77, q78, q79, q80, q81, q82, q83, q84, q85, q86, q87, q88, q89, q90, q91, q92, q93, q94, q95, q96, q97, q98, q99, q100, q101, q102, q103, q104, q105, q106, q107, q108, q109, q110, q111, q112, q113, q114, q115, q116, q117, q118, q119, q120, q121, q122, q123, q124, q125, q126, q127, q128, q129, q130, q240, q255, q256, q296, q400, q600, q896, q960, q999, q1000, q11544, q11840, q1000000, q1000000000, ↓reduceIte, if_pos, if_neg, ↓reduceIte, u2r, u2e, u2n, cp2r, cp2s]
      · have e1 := nI_inj e (by omega) (by have := OkS_dr hb r' hr'; omega)
        have := (hb.2.2.1 r' hr').2
        rw [← e1] at this
        exact h2 this
  · refine Or.inl ⟨?_, no (fun r' q hr' hq hne e e' => ?_)⟩
    · unfold fX1_hasPaper
      rw [c_hasSleeper h hK hp]
      simp (disch := omega) only [↓mz_lt, ↓mz_b1, ↓mz_b2, ↓mz_b3, mz_b1, mz_b2, mz_b3, mz_lt, mz_o0, mz_o1, nI_add, mz_mul, mz_sub, nI_clamp, mz_in, mz_le, mz_ltp, mz_eq, mz_nm, mz_mn, mz_ml, mz_mlt, mz_nl, mz_mle, qNN, q0, q1, q2, q3, q4, q5, q6, q7, q8, q9, q10, q11, q12, q13, q14, q15, q16, q17, q18, q19, q20, q21, q22, q23, q24, q25, q26, q27, q28, q29, q30, q31, q32, q33, q34, q35, q36, q37, q38, q39, q40, q41, q42, q43, q44, q45, q46, q47, q48, q49, q50, q51, q52, q53, q54, q55, q56, q57, q58, q59, q60, q61, q62, q63, q64, q65, q66, q67, q68, q69, q70, q71, q72, q73, q74, q75, q76, q77, q78, q79, q80, q81, q82, q83, q84, q85, q86, q87, q88, q89, q90, q91, q92, q93, q94, q95, q96, q97, q98, q99, q100, q101, q102, q103, q104, q105, q106, q107, q108, q109, q110, q111, q112, q113, q114, q115, q116, q117, q118, q119, q120, q121, q122, q123, q124, q125, q126, q127, q128, q129, q130, q240, q255, q256, q296, q400, q600, q896, q960, q999, q1000, q11544, q11840, q1000000, q1000000000, ↓reduceIte, if_pos, if_neg, ↓reduceIte, u2r, u2e, u2n, cp2r, cp2s]
    · have := OkS_dr hb r' hr'
      have e1 := nI_inj e (by omega) (by omega)
      omega
theorem d_wake (h : CarC 15 K i) (hK : OkK K) (hb : OkS K b σ) (hb2 : b < 100000) (hs : ScC σ (i (q + 1))) (hq : q = 19 ∨ q = 21) (hL : LawC W i rv) : (fX3_wakeByHand q a1 i rv = some (NN, i) ∧ ¬ ∃ y σ', actR K W σ 2 a1 a2 y σ') ∨ ∃ y σ' i', actR K W σ 2 a1 a2 y σ' ∧ fX3_wakeByHand q a1 i rv = some (y, i') ∧ ScC σ' (i' (q + 1)) ∧ FrL [q + 1, 23, 24] rv i i' := by
  have hm := hK.1
  have no : (∀ p, p < K 0 3 → σ (27 + p) = 1 → a1 = nI p → False) → ¬ ∃ y σ', actR K W σ 2 a1 a2 y σ' := by
    rintro hn ⟨y, σ', hA⟩
    rcases hA with ⟨h0, _⟩ | ⟨h0, _⟩ | ⟨_, p, h1, h2, h3, _⟩ | ⟨h0, _⟩ | ⟨h0, _⟩ | ⟨h0, _⟩
    · omega
    · omega
    · exact hn p h1 h2 h3
    · omega
    · omega
    · omega
  unfold fX3_wakeByHand
  rcases mz_cases a1 with c1 | ⟨p, hp, rfl⟩
  · refine Or.inl ⟨by rw [c_hasSleeper0 c1]; rfl, no (fun p hp _ e => ?_)⟩
    rw [e] at c1
    exact nI_nn c1 (by omega)
  rw [c_hasSleeper h hK hp]
  by_cases h1 : p < K 0 3
  · have ha := (hb.2.2.2.2.2.2.1 p (by omega)).1
    rw [s_isAsleep hs hb (by omega)]
    by_cases h2 : σ (27 + p) = 1
    · obtain ⟨i2, k1, k2⟩ := c_lossByHand h hK hb (by omega) hs hq hL h1
      have e20 : i2 (q + 1) = i (q + 1) := FrL_row hL k2 (by simp; omega) (by omega) (by omega) (by omega)
      obtain ⟨i3, g1, g2, g3⟩ := c_rouse (q := q) (p := p) (v := lossN K W σ p 0 9) (i := i2) (σ := σ) (by rw [e20]; exact hs) (by omega)
      refine Or.inr ⟨_, _, i3, Or.inr (Or.inr (Or.inl ⟨rfl, p, h1, h2, rfl, rfl, rfl⟩)), ?_, g2, FrL_t (FrL_w (by simp) k2) (FrL_f (Fr_w (by simp) g3))⟩
      rw [k1]
      simp (disch := omega) only [↓mz_lt, ↓mz_b1, ↓mz_b2, ↓mz_b3, mz_b1, mz_b2, mz_b3, mz_lt, mz_o0, mz_o1, nI_add, mz_mul, mz_sub, nI_clamp, mz_in, mz_le, mz_ltp, mz_eq, mz_nm, mz_mn, mz_ml, mz_mlt, mz_nl, mz_mle, qNN, q0, q1, q2, q3, q4, q5, q6, q7, q8, q9, q10, q11, q12, q13, q14, q15, q16, q17, q18, q19, q20, q21, q22, q23, q24, q25, q26, q27, q28, q29, q30, q31, q32, q33, q34, q35, q36, q37, q38, q39, q40, q41, q42, q43, q44, q45, q46, q47, q48, q49, q50, q51, q52, q53, q54, q55, q56, q57, q58, q59, q60, q61, q62, q63, q64, q65, q66, q67, q68, q69, q70, q71, q72, q73, q74, q75, q76, q77, q78, q79, q80, q81, q82, q83, q84, q85, q86, q87, q88, q89, q90, q91, q92, q93, q94, q95, q96, q97, q98, q99, q100, q101, q102, q103, q104, q105, q106, q107, q108, q109, q110, q111, q112, q113, q114, q115, q116, q117, q118, q119, q120, q121, q122, q123, q124, q125, q126, q127, q128, q129, q130, q240, q255, q256, q296, q400, q600, q896, q960, q999, q1000, q11544, q11840, q1000000, q1000000000, ↓reduceIte, if_pos, if_neg, ↓reduceIte, u2r, u2e, u2n, cp2r, cp2s, g1]
    · refine Or.inl ⟨?_, no (fun p' hp' h' e => ?_)⟩
      · simp (disch := omega) only [↓mz_lt, ↓mz_b1, ↓mz_b2, ↓mz_b3, mz_b1, mz_b2, mz_b3, mz_lt, mz_o0, mz_o1, nI_add, mz_mul, mz_sub, nI_clamp, mz_in, mz_le, mz_ltp, mz_eq, mz_nm, mz_mn, mz_ml, mz_mlt, mz_nl, mz_mle, qNN, q0, q1, q2, q3, q4, q5, q6, q7, q8, q9, q10, q11, q12, q13, q14, q15, q16, q17, q18, q19, q20, q21, q22, q23, q24, q25, q26, q27, q28, q29, q30, q31, q32, q33, q34, q35, q36, q37, q38, q39, q40, q41, q42, q43, q44, q45, q46, q47, q48, q49, q50, q51, q52, q53, q54, q55, q56, q57, q58, q59, q60, q61, q62, q63, q64, q65, q66, q67, q68, q69, q70, q71, q72, q73, q74, q75, q76, q77, q78, q79, q80, q81, q82, q83, q84, q85, q86, q87, q88, q89, q90, q91, q92, q93, q94, q95, q96, q97, q98, q99, q100, q101, q102, q103, q104, q105, q106, q107, q108, q109, q110, q111, q112, q113, q114, q115, q116, q117, q118, q119, q120, q121, q122, q123, q124, q125, q126, q127, q128, q129, q130, q240, q255, q256, q296, q400, q600, q896, q960, q999, q1000, q11544, q11840, q1000000, q1000000000, ↓reduceIte, if_pos, if_neg, ↓reduceIte, u2r, u2e, u2n, cp2r, cp2s]
      · have := nI_inj e (by omega) (by omega)
        subst this
        exact h2 h'
  · refine Or.inl ⟨?_, no (fun p' hp' h' e => ?_)⟩
    · simp (disch := omega) only [↓mz_lt, ↓mz_b1, ↓mz_b2, ↓mz_b3, mz_b1, mz_b2, mz_b3, mz_lt, mz_o0, mz_o1, nI_add, mz_mul, mz_sub, nI_clamp, mz_in, mz_le, mz_ltp, mz_eq, mz_nm, mz_mn, mz_ml, mz_mlt, mz_nl, mz_mle, qNN, q0, q1, q2, q3, q4, q5, q6, q7, q8, q9, q10, q11, q12, q13, q14, q15, q16, q17, q18, q19, q20, q21, q22, q23, q24, q25, q26, q27, q28, q29, q30, q31, q32, q33, q34, q35, q36, q37, q38, q39, q40, q41, q42, q43, q44, q45, q46, q47, q48, q49, q50, q51, q52, q53, q54, q55, q56, q57, q58, q59, q60, q61, q62, q63, q64, q65, q66, q67, q68, q69, q70, q71, q72, q73, q74, q75, q76, q77, q78, q79, q80, q81, q82, q83, q84, q85, q86, q87, q88, q89, q90, q91, q92, q93, q94, q95, q96, q97, q98, q99, q100, q101, q102, q103, q104, q105, q106, q107, q108, q109, q110, q111, q112, q113, q114, q115, q116, q117, q118, q119, q120, q121, q122, q123, q124, q125, q126, q127, q128, q129, q130, q240, q255, q256, q296, q400, q600, q896, q960, q999, q1000, q11544, q11840, q1000000, q1000000000, ↓reduceIte, if_pos, if_neg, ↓reduceIte, u2r, u2e, u2n, cp2r, cp2s]
    · have := nI_inj e (by omega) (by omega)
      omega
theorem d_lie (h : CarC 15 K i) (hK : OkK K) (hb : OkS K b σ) (hs : ScC σ (i (q + 1))) : (fX3_lieDown q a1 i = some (NN, i) ∧ ¬ ∃ y σ', actR K W σ 3 a1 a2 y σ') ∨ ∃ y σ' i', actR K W σ 3 a1 a2 y σ' ∧ fX3_lieDown q a1 i = some (y, i') ∧ ScC σ' (i' (q + 1)) ∧ FrL [q + 1, 23, 24] rv i i' := by
  have hm := hK.1
  have no : (∀ p, p < K 0 3 → σ (27 + p) = 0 → a1 = nI p → False) → ¬ ∃ y σ', actR K W σ 3 a1 a2 y σ' := by
    rintro hn ⟨y, σ', hA⟩
    rcases hA with ⟨h0, _⟩ | ⟨h0, _⟩ | ⟨h0, _⟩ | ⟨_, p, h1, h2, h3, _⟩ | ⟨h0, _⟩ | ⟨h0, _⟩
    · omega
    · omega
    · omega
    · exact hn p h1 h2 h3
    · omega
    · omega
  unfold fX3_lieDown
  rcases mz_cases a1 with c1 | ⟨p, hp, rfl⟩
  · refine Or.inl ⟨by rw [c_hasSleeper0 c1]; rfl, no (fun p hp _ e => ?_)⟩
    rw [e] at c1
    exact nI_nn c1 (by omega)
  rw [c_hasSleeper h hK hp]
  by_cases h1 : p < K 0 3
  · have ha := (hb.2.2.2.2.2.2.1 p (by omega)).1
    rw [s_isAsleep hs hb (by omega)]
    by_cases h2 : σ (27 + p) = 0
    · refine Or.inr ⟨_, _, u2 i (q + 1) (27 + p) (nI 1), Or.inr (Or.inr (Or.inr (Or.inl ⟨rfl, p, h1, h2, rfl, rfl, rfl⟩))), ?_, ScC_u hs rfl, FrL_f (Fr_w (by simp) Fr_u)⟩
      unfold fX8_layDown
      simp (disch := omega) only [↓mz_lt, ↓mz_b1, ↓mz_b2, ↓mz_b3, mz_b1, mz_b2, mz_b3, mz_lt, mz_o0, mz_o1, nI_add, mz_mul, mz_sub, nI_clamp, mz_in, mz_le, mz_ltp, mz_eq, mz_nm, mz_mn, mz_ml, mz_mlt, mz_nl, mz_mle, qNN, q0, q1, q2, q3, q4, q5, q6, q7, q8, q9, q10, q11, q12, q13, q14, q15, q16, q17, q18, q19, q20, q21, q22, q23, q24, q25, q26, q27, q28, q29, q30, q31, q32, q33, q34, q35, q36, q37, q38, q39, q40, q41, q42, q43, q44, q45, q46, q47, q48, q49, q50, q51, q52, q53, q54, q55, q56, q57, q58, q59, q60, q61, q62, q63, q64, q65, q66, q67, q68, q69, q70, q71, q72, q73, q74, q75, q76, q77, q78, q79, q80, q81, q82, q83, q84, q85, q86, q87, q88, q89, q90, q91, q92, q93, q94, q95, q96, q97, q98, q99, q100, q101, q102, q103, q104, q105, q106, q107, q108, q109, q110, q111, q112, q113, q114, q115, q116, q117, q118, q119, q120, q121, q122, q123, q124, q125, q126, q127, q128, q129, q130, q240, q255, q256, q296, q400, q600, q896, q960, q999, q1000, q11544, q11840, q1000000, q1000000000, ↓reduceIte, if_pos, if_neg, ↓reduceIte, u2r, u2e, u2n, cp2r, cp2s]
      rw [s_asleepInAll (ScC_u hs rfl), mz_b1]
    · refine Or.inl ⟨?_, no (fun p' hp' h' e => ?_)⟩
      · simp (disch := omega) only [↓mz_lt, ↓mz_b1, ↓mz_b2, ↓mz_b3, mz_b1, mz_b2, mz_b3, mz_lt, mz_o0, mz_o1, nI_add, mz_mul, mz_sub, nI_clamp, mz_in, mz_le, mz_ltp, mz_eq, mz_nm, mz_mn, mz_ml, mz_mlt, mz_nl, mz_mle, qNN, q0, q1, q2, q3, q4, q5, q6, q7, q8, q9, q10, q11, q12, q13, q14, q15, q16, q17, q18, q19, q20, q21, q22, q23, q24, q25, q26, q27, q28, q29, q30, q31, q32, q33, q34, q35, q36, q37, q38, q39, q40, q41, q42, q43, q44, q45, q46, q47, q48, q49, q50, q51, q52, q53, q54, q55, q56, q57, q58, q59, q60, q61, q62, q63, q64, q65, q66, q67, q68, q69, q70, q71, q72, q73, q74, q75, q76, q77, q78, q79, q80, q81, q82, q83, q84, q85, q86, q87, q88, q89, q90, q91, q92, q93, q94, q95, q96, q97, q98, q99, q100, q101, q102, q103, q104, q105, q106, q107, q108, q109, q110, q111, q112, q113, q114, q115, q116, q117, q118, q119, q120, q121, q122, q123, q124, q125, q126, q127, q128, q129, q130, q240, q255, q256, q296, q400, q600, q896, q960, q999, q1000, q11544, q11840, q1000000, q1000000000, ↓reduceIte, if_pos, if_neg, ↓reduceIte, u2r, u2e, u2n, cp2r, cp2s]
      · have := nI_inj e (by omega) (by omega)
        subst this
        exact h2 h'
  · refine Or.inl ⟨?_, no (fun p' hp' h' e => ?_)⟩
    · simp (disch := omega) only [↓mz_lt, ↓mz_b1, ↓mz_b2, ↓mz_b3, mz_b1, mz_b2, mz_b3, mz_lt, mz_o0, mz_o1, nI_add, mz_mul, mz_sub, nI_clamp, mz_in, mz_le, mz_ltp, mz_eq, mz_nm, mz_mn, mz_ml, mz_mlt, mz_nl, mz_mle, qNN, q0, q1, q2, q3, q4, q5, q6, q7, q8, q9, q10, q11, q12, q13, q14, q15, q16, q17, q18, q19, q20, q21, q22, q23, q24, q25, q26, q27, q28, q29, q30, q31, q32, q33, q34, q35, q36, q37, q38, q39, q40, q41, q42, q43, q44, q45, q46, q47, q48, q49, q50, q51, q52, q53, q54, q55, q56, q57, q58, q59, q60, q61, q62, q63, q64, q65, q66, q67, q68, q69, q70, q71, q72, q73, q74, q75, q76, q77, q78, q79, q80, q81, q82, q83, q84, q85, q86, q87, q88, q89, q90, q91, q92, q93, q94, q95, q96, q97, q98, q99, q100, q101, q102, q103, q104, q105, q106, q107, q108, q109, q110, q111, q112, q113, q114, q115, q116, q117, q118, q119, q120, q121, q122, q123, q124, q125, q126, q127, q128, q129, q130, q240, q255, q256, q296, q400, q600, q896, q960, q999, q1000, q11544, q11840, q1000000, q1000000000, ↓reduceIte, if_pos, if_neg, ↓reduceIte, u2r, u2e, u2n, cp2r, cp2s]
    · have := nI_inj e (by omega) (by omega)
      omega
theorem d_swap (h : CarC 15 K i) (hK : OkK K) (hb : OkS K b σ) (hs : ScC σ (i (q + 1))) : (fX3_swapBerths q a1 a2 i = some (NN, i) ∧ ¬ ∃ y σ', actR K W σ 4 a1 a2 y σ') ∨ ∃ y σ' i', actR K W σ 4 a1 a2 y σ' ∧ fX3_swapBerths q a1 a2 i = some (y, i') ∧ ScC σ' (i' (q + 1)) ∧ FrL [q + 1, 23, 24] rv i i' := by
  have hm := hK.1
  have no : (∀ p o, p < K 0 3 → o < K 0 3 → p ≠ o → a1 = nI p → a2 = nI o → False) → ¬ ∃ y σ', actR K W σ 4 a1 a2 y σ' := by
    rintro hn ⟨y, σ', hA⟩
    rcases hA with ⟨h0, _⟩ | ⟨h0, _⟩ | ⟨h0, _⟩ | ⟨h0, _⟩ | ⟨_, p, o, h1, h2, h3, h4, h5, _⟩ | ⟨h0, _⟩
    · omega
    · omega
    · omega
    · omega
    · exact hn p o h1 h2 h3 h4 h5
    · omega
  unfold fX3_swapBerths
  rcases mz_cases a1 with c1 | ⟨p, hp, rfl⟩
  · refine Or.inl ⟨by rw [c_hasSleeper0 c1]; rfl, no (fun p o hp _ _ e _ => ?_)⟩
    rw [e] at c1
    exact nI_nn c1 (by omega)
  rw [c_hasSleeper h hK hp]
  by_cases h1 : p < K 0 3
  · rcases mz_cases a2 with c2 | ⟨o, ho, rfl⟩
    · refine Or.inl ⟨?_, no (fun p o _ ho _ _ e => ?_)⟩
      · rw [c_hasSleeper0 c2]
        simp (disch := omega) only [↓mz_lt, ↓mz_b1, ↓mz_b2, ↓mz_b3, mz_b1, mz_b2, mz_b3, mz_lt, mz_o0, mz_o1, nI_add, mz_mul, mz_sub, nI_clamp, mz_in, mz_le, mz_ltp, mz_eq, mz_nm, mz_mn, mz_ml, mz_mlt, mz_nl, mz_mle, qNN, q0, q1, q2, q3, q4, q5, q6, q7, q8, q9, q10, q11, q12, q13, q14, q15, q16, q17, q18, q19, q20, q21, q22, q23, q24, q25, q26, q27, q28, q29, q30, q31, q32, q33, q34, q35, q36, q37, q38, q39, q40, q41, q42, q43, q44, q45, q46, q47, q48, q49, q50, q51, q52, q53, q54, q55, q56, q57, q58, q59, q60, q61, q62, q63, q64, q65, q66, q67, q68, q69, q70, q71, q72, q73, q74, q75, q76, q77, q78, q79, q80, q81, q82, q83, q84, q85, q86, q87, q88, q89, q90, q91, q92, q93, q94, q95, q96, q97, q98, q99, q100, q101, q102, q103, q104, q105, q106, q107, q108, q109, q110, q111, q112, q113, q114, q115, q116, q117, q118, q119, q120, q121, q122, q123, q124, q125, q126, q127, q128, q129, q130, q240, q255, q256, q296, q400, q600, q896, q960, q999, q1000, q11544, q11840, q1000000, q1000000000, ↓reduceIte, if_pos, if_neg, ↓reduceIte, u2r, u2e, u2n, cp2r, cp2s]
      · rw [e] at c2
        exact nI_nn c2 (by omega)
    · rw [c_hasSleeper h hK ho]
      by_cases h2 : o < K 0 3
      · by_cases h3 : p = o
        · refine Or.inl ⟨?_, no (fun p' o' hp' ho' hne e e' => ?_)⟩
          · simp (disch := omega) only [↓mz_lt, ↓mz_b1, ↓mz_b2, ↓mz_b3, mz_b1, mz_b2, mz_b3, mz_lt, mz_o0, mz_o1, nI_add, mz_mul, mz_sub, nI_clamp, mz_in, mz_le, mz_ltp, mz_eq, mz_nm, mz_mn, mz_ml, mz_mlt, mz_nl, mz_mle, qNN, q0, q1, q2, q3, q4, q5, q6, q7, q8, q9, q10, q11, q12, q13, q14, q15, q16, q17, q18, q19, q20, q21, q22, q23, q24, q25, q26, q27, q28, q29, q30, q31, q32, q33, q34, q35, q36, q37, q38, q39, q40, q41, q42, q43, q44, q45, q46, q47, q48, q49, q50, q51, q52, q53, q54, q55, q56, q57, q58, q59, q60, q61, q62, q63, q64, q65, q66, q67, q68, q69, q70, q71, q72, q73, q74, q75, q76, q77, q78, q79, q80, q81, q82, q83, q84, q85, q86, q87, q88, q89, q90, q91, q92, q93, q94, q95, q96, q97, q98, q99, q100, q101, q102, q103, q104, q105, q106, q107, q108, q109, q110, q111, q112, q113, q114, q115, q116, q117, q118, q119, q120, q121, q122, q123, q124, q125, q126, q127, q128, q129, q130, q240, q255, q256, q296, q400, q600, q896, q960, q999, q1000, q11544, q11840, q1000000, q1000000000, ↓reduceIte, if_pos, if_neg, ↓reduceIte, u2r, u2e, u2n, cp2r, cp2s]
          · have := nI_inj e (by omega) (by omega)
            have := nI_inj e' (by omega) (by omega)
            omega
        · refine Or.inr ⟨_, _, u2 (u2 i (q + 1) p (nI (σ o))) (q + 1) o (nI (σ p)), Or.inr (Or.inr (Or.inr (Or.inr (Or.inl ⟨rfl, p, o, h1, h2, h3, rfl, rfl, rfl, rfl⟩)))), ?_, ScC_u (ScC_u hs rfl) rfl, FrL_f (Fr_t (Fr_w (by simp) Fr_u) (Fr_w (by simp) Fr_u))⟩
          unfold fX8_exchange
          simp (disch := omega) only [↓mz_lt, ↓mz_b1, ↓mz_b2, ↓mz_b3, mz_b1, mz_b2, mz_b3, mz_lt, mz_o0, mz_o1, nI_add, mz_mul, mz_sub, nI_clamp, mz_in, mz_le, mz_ltp, mz_eq, mz_nm, mz_mn, mz_ml, mz_mlt, mz_nl, mz_mle, qNN, q0, q1, q2, q3, q4, q5, q6, q7, q8, q9, q10, q11, q12, q13, q14, q15, q16, q17, q18, q19, q20, q21, q22, q23, q24, q25, q26, q27, q28, q29, q30, q31, q32, q33, q34, q35, q36, q37, q38, q39, q40, q41, q42, q43, q44, q45, q46, q47, q48, q49, q50, q51, q52, q53, q54, q55, q56, q57, q58, q59, q60, q61, q62, q63, q64, q65, q66, q67, q68, q69, q70, q71, q72, q73, q74, q75, q76, q77, q78, q79, q80, q81, q82, q83, q84, q85, q86, q87, q88, q89, q90, q91, q92, q93, q94, q95, q96, q97, q98, q99, q100, q101, q102, q103, q104, q105, q106, q107, q108, q109, q110, q111, q112, q113, q114, q115, q116, q117, q118, q119, q120, q121, q122, q123, q124, q125, q126, q127, q128, q129, q130, q240, q255, q256, q296, q400, q600, q896, q960, q999, q1000, q11544, q11840, q1000000, q1000000000, ↓reduceIte, if_pos, if_neg, ↓reduceIte, u2r, u2e, u2n, cp2r, cp2s, Nat.zero_add, hs _ _]
      · refine Or.inl ⟨?_, no (fun p' o' hp' ho' hne e e' => ?_)⟩
        · simp (disch := omega) only [↓mz_lt, ↓mz_b1, ↓mz_b2, ↓mz_b3, mz_b1, mz_b2, mz_b3, mz_lt, mz_o0, mz_o1, nI_add, mz_mul, mz_sub, nI_clamp, mz_in, mz_le, mz_ltp, mz_eq, mz_nm, mz_mn, mz_ml, mz_mlt, mz_nl, mz_mle, qNN, q0, q1, q2, q3, q4, q5, q6, q7, q8, q9, q10, q11, q12, q13, q14, q15, q16, q17, q18, q19, q20, q21, q22, q23, q24, q25, q26, q27, q28, q29, q30, q31, q32, q33, q34, q35, q36, q37, q38, q39, q40, q41, q42, q43, q44, q45, q46, q47, q48, q49, q50, q51, q52, q53, q54, q55, q56, q57, q58, q59, q60, q61, q62, q63, q64, q65, q66, q67, q68, q69, q70, q71, q72, q73, q74, q75, q76, q77, q78, q79, q80, q81, q82, q83, q84, q85, q86, q87, q88, q89, q90, q91, q92, q93, q94, q95, q96, q97, q98, q99, q100, q101, q102, q103, q104, q105, q106, q107, q108, q109, q110, q111, q112, q113, q114, q115, q116, q117, q118, q119, q120, q121, q122, q123, q124, q125, q126, q127, q128, q129, q130, q240, q255, q256, q296, q400, q600, q896, q960, q999, q1000, q11544, q11840, q1000000, q1000000000, ↓reduceIte, if_pos, if_neg, ↓reduceIte, u2r, u2e, u2n, cp2r, cp2s]
        · have := nI_inj e' (by omega) (by omega)
          omega
  · refine Or.inl ⟨?_, no (fun p' o' hp' ho' hne e e' => ?_)⟩
    · simp (disch := omega) only [↓mz_lt, ↓mz_b1, ↓mz_b2, ↓mz_b3, mz_b1, mz_b2, mz_b3, mz_lt, mz_o0, mz_o1, nI_add, mz_mul, mz_sub, nI_clamp, mz_in, mz_le, mz_ltp, mz_eq, mz_nm, mz_mn, mz_ml, mz_mlt, mz_nl, mz_mle, qNN, q0, q1, q2, q3, q4, q5, q6, q7, q8, q9, q10, q11, q12, q13, q14, q15, q16, q17, q18, q19, q20, q21, q22, q23, q24, q25, q26, q27, q28, q29, q30, q31, q32, q33, q34, q35, q36, q37, q38, q39, q40, q41, q42, q43, q44, q45, q46, q47, q48, q49, q50, q51, q52, q53, q54, q55, q56, q57, q58, q59, q60, q61, q62, q63, q64, q65, q66, q67, q68, q69, q70, q71, q72, q73, q74, q75, q76, q77, q78, q79, q80, q81, q82, q83, q84, q85, q86, q87, q88, q89, q90, q91, q92, q93, q94, q95, q96, q97, q98, q99, q100, q101, q102, q103, q104, q105, q106, q107, q108, q109, q110, q111, q112, q113, q114, q115, q116, q117, q118, q119, q120, q121, q122, q123, q124, q125, q126, q127, q128, q129, q130, q240, q255, q256, q296, q400, q600, q896, q960, q999, q1000, q11544, q11840, q1000000, q1000000000, ↓reduceIte, if_pos, if_neg, ↓reduceIte, u2r, u2e, u2n, cp2r, cp2s]
    · have := nI_inj e (by omega) (by omega)
      omega
theorem C_done (h : CarC 15 K i) (hK : OkK K) (hb : OkS K b σ) (hb2 : b < 100000) (hs : ScC σ (i (q + 1))) (hq : q = 19 ∨ q = 21) (hL : LawC W i rv) (hkd : kd < 6) : (fX3_done q (nI kd) a1 a2 i rv = some (NN, i) ∧ ¬ ∃ y σ', actR K W σ kd a1 a2 y σ') ∨ ∃ y σ' i', actR K W σ kd a1 a2 y σ' ∧ fX3_done q (nI kd) a1 a2 i rv = some (y, i') ∧ ScC σ' (i' (q + 1)) ∧ FrL [q + 1, 23, 24] rv i i' ∧ (kd = 5 → ∀ o, a1 = nI o → o < K 0 4 → i' 23 3 = nI (lB K W o σ (K 0 5))) := by
  have hm4 := hK.2.1
  unfold fX3_done
  have hk6 : kd = 0 ∨ kd = 1 ∨ kd = 2 ∨ kd = 3 ∨ kd = 4 ∨ kd = 5 := by omega
  rcases hk6 with rfl | rfl | rfl | rfl | rfl | rfl
  · rcases d_move (W := W) (rv := rv) (a1 := a1) (a2 := a2) h hK hb hs with ⟨e, hn⟩ | ⟨y, σ', i', hA, e, e2, e3⟩
    · exact Or.inl ⟨by rw [if_pos (by decide), e]; rfl, hn⟩
    · exact Or.inr ⟨y, σ', i', hA, by rw [if_pos (by decide), e]; rfl, e2, e3, fun h0 => by omega⟩
  · rcases d_say (W := W) (rv := rv) (a1 := a1) (a2 := a2) h hK hb hs with ⟨e, hn⟩ | ⟨y, σ', i', hA, e, e2, e3⟩
    · exact Or.inl ⟨by rw [if_neg (by decide), if_pos (by decide), e]; rfl, hn⟩
    · exact Or.inr ⟨y, σ', i', hA, by rw [if_neg (by decide), if_pos (by decide), e]; rfl, e2, e3, fun h0 => by omega⟩
  · rcases d_wake (W := W) (rv := rv) (a1 := a1) (a2 := a2) h hK hb hb2 hs hq hL with ⟨e, hn⟩ | ⟨y, σ', i', hA, e, e2, e3⟩
    · exact Or.inl ⟨by rw [if_neg (by decide), if_neg (by decide), if_pos (by decide), e]; rfl, hn⟩
    · exact Or.inr ⟨y, σ', i', hA, by rw [if_neg (by decide), if_neg (by decide), if_pos (by decide), e]; rfl, e2, e3, fun h0 => by omega⟩
  · rcases d_lie (W := W) (rv := rv) (a1 := a1) (a2 := a2) h hK hb hs with ⟨e, hn⟩ | ⟨y, σ', i', hA, e, e2, e3⟩
    · exact Or.inl ⟨by rw [if_neg (by decide), if_neg (by decide), if_neg (by decide), if_pos (by decide), e]; rfl, hn⟩
    · exact Or.inr ⟨y, σ', i', hA, by rw [if_neg (by decide), if_neg (by decide), if_neg (by decide), if_pos (by decide), e]; rfl, e2, e3, fun h0 => by omega⟩
  · rcases d_swap (W := W) (rv := rv) (a1 := a1) (a2 := a2) h hK hb hs with ⟨e, hn⟩ | ⟨y, σ', i', hA, e, e2, e3⟩
    · exact Or.inl ⟨by rw [if_neg (by decide), if_neg (by decide), if_neg (by decide), if_neg (by decide), if_pos (by decide), e]; rfl, hn⟩
    · exact Or.inr ⟨y, σ', i', hA, by rw [if_neg (by decide), if_neg (by decide), if_neg (by decide), if_neg (by decide), if_pos (by decide), e]; rfl, e2, e3, fun h0 => by omega⟩
  · have no : (∀ o, o < K 0 4 → a1 = nI o → False) → ¬ ∃ y σ', actR K W σ 5 a1 a2 y σ' := by
      rintro hn ⟨y, σ', hA⟩
      rcases hA with ⟨h0, _⟩ | ⟨h0, _⟩ | ⟨h0, _⟩ | ⟨h0, _⟩ | ⟨h0, _⟩ | ⟨_, o, h1, h2, _⟩
      · omega
      · omega
      · omega
      · omega
      · omega
      · exact hn o h1 h2
    rw [if_neg (by decide), if_neg (by decide), if_neg (by decide), if_neg (by decide), if_neg (by decide), if_pos (by decide)]
    rcases mz_cases a1 with c1 | ⟨o, ho, rfl⟩
    · refine Or.inl ⟨by rw [c_hasOfficer0 c1]; rfl, no (fun o ho e => ?_)⟩
      rw [e] at c1
      exact nI_nn c1 (by omega)
    rw [c_hasOfficer h hK ho]
    by_cases h1 : o < K 0 4
    · obtain ⟨i', k1, k2, k3, k4, _, k5⟩ := C_pass (re := 1) h hK hb hb2 hs hq hL h1 (by omega)
      refine Or.inr ⟨_, _, i', Or.inr (Or.inr (Or.inr (Or.inr (Or.inr ⟨rfl, o, h1, rfl, rfl, rfl⟩)))), ?_, k5 rfl, FrL_w (by simp) k2, fun _ o' e ho' => ?_⟩
      · rw [q1, k1]
        simp (disch := omega) only [↓mz_lt, ↓mz_b1, ↓mz_b2, ↓mz_b3, mz_b1, mz_b2, mz_b3, mz_lt, mz_o0, mz_o1, nI_add, mz_mul, mz_sub, nI_clamp, mz_in, mz_le, mz_ltp, mz_eq, mz_nm, mz_mn, mz_ml, mz_mlt, mz_nl, mz_mle, qNN, q0, q1, q2, q3, q4, q5, q6, q7, q8, q9, q10, q11, q12, q13, q14, q15, q16, q17, q18, q19, q20, q21, q22, q23, q24, q25, q26, q27, q28, q29, q30, q31, q32, q33, q34, q35, q36, q37, q38, q39, q40, q41, q42, q43, q44, q45, q46, q47, q48, q49, q50, q51, q52, q53, q54, q55, q56, q57, q58, q59, q60, q61, q62, q63, q64, q65, q66, q67, q68, q69, q70, q71, q72, q73, q74, q75, q76, q77, q78, q79, q80, q81, q82, q83, q84, q85, q86, q87, q88, q89, q90, q91, q92, q93, q94, q95, q96, q97, q98, q99, q100, q101, q102, q103, q104, q105, q106, q107, q108, q109, q110, q111, q112, q113, q114, q115, q116, q117, q118, q119, q120, q121, q122, q123, q124, q125, q126, q127, q128, q129, q130, q240, q255, q256, q296, q400, q600, q896, q960, q999, q1000, q11544, q11840, q1000000, q1000000000, ↓reduceIte, if_pos, if_neg, ↓reduceIte, u2r, u2e, u2n, cp2r, cp2s]
      · have := nI_inj e (by omega) (by omega)
        subst this
        exact k3
    · refine Or.inl ⟨?_, no (fun o' ho' e => ?_)⟩
      · simp (disch := omega) only [↓mz_lt, ↓mz_b1, ↓mz_b2, ↓mz_b3, mz_b1, mz_b2, mz_b3, mz_lt, mz_o0, mz_o1, nI_add, mz_mul, mz_sub, nI_clamp, mz_in, mz_le, mz_ltp, mz_eq, mz_nm, mz_mn, mz_ml, mz_mlt, mz_nl, mz_mle, qNN, q0, q1, q2, q3, q4, q5, q6, q7, q8, q9, q10, q11, q12, q13, q14, q15, q16, q17, q18, q19, q20, q21, q22, q23, q24, q25, q26, q27, q28, q29, q30, q31, q32, q33, q34, q35, q36, q37, q38, q39, q40, q41, q42, q43, q44, q45, q46, q47, q48, q49, q50, q51, q52, q53, q54, q55, q56, q57, q58, q59, q60, q61, q62, q63, q64, q65, q66, q67, q68, q69, q70, q71, q72, q73, q74, q75, q76, q77, q78, q79, q80, q81, q82, q83, q84, q85, q86, q87, q88, q89, q90, q91, q92, q93, q94, q95, q96, q97, q98, q99, q100, q101, q102, q103, q104, q105, q106, q107, q108, q109, q110, q111, q112, q113, q114, q115, q116, q117, q118, q119, q120, q121, q122, q123, q124, q125, q126, q127, q128, q129, q130, q240, q255, q256, q296, q400, q600, q896, q960, q999, q1000, q11544, q11840, q1000000, q1000000000, ↓reduceIte, if_pos, if_neg, ↓reduceIte, u2r, u2e, u2n, cp2r, cp2s]
      · have := nI_inj e (by omega) (by omega)
        omega
end DN
