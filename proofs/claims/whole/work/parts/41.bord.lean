/-! a border, place by place, out of the scene as it was -/
def turnS (K : Nat → Nat → Nat) (σ : Nat → Nat) (p o : Nat) : Nat := sv K p 0 + (if ov K o 1 = 1 then ov K o 2 + (if σ (27 + p) = 1 then K 1 3 else 0) else 0)
def waitS (K : Nat → Nat → Nat) (p o s c : Nat) : Nat := if s = 1 then (if ov K o 1 = 1 then 2 * (6 * sv K p 1) else 6 * sv K p 1 / 2) else if s = 2 ∧ 0 < c then 6 * sv K p 1 - 6 * ov K o 3 else 6 * sv K p 1
def tB (K : Nat → Nat → Nat) (o : Nat) (σ : Nat → Nat) (z : Nat) : Nat := sumTo (fun y => turnS K σ (σ (9 + y)) o) z
def cB (σ : Nat → Nat) (z : Nat) : Nat := σ 54 - sumTo (fun y => if σ (18 + σ (9 + y)) = 2 then 1 else 0) z
def dB (K : Nat → Nat → Nat) (o : Nat) (σ : Nat → Nat) (z : Nat) : Nat := tB K o σ (z + 1) + waitS K (σ (9 + z)) o (σ (18 + σ (9 + z))) (cB σ z)
def oB (K : Nat → Nat → Nat) (o : Nat) (σ : Nat → Nat) : Nat → Nat
  | 0 => 0
  | z + 1 => max (oB K o σ z) (dB K o σ z)
def lsB (K : Nat → Nat → Nat) (W : Option ((Nat → Nat) → Int)) (o : Nat) (σ : Nat → Nat) (z : Nat) : Nat := if ov K o 1 = 1 ∧ σ (27 + σ (9 + z)) = 1 then lossN K W σ (σ (9 + z)) (tB K o σ z) o else 0
def lB (K : Nat → Nat → Nat) (W : Option ((Nat → Nat) → Int)) (o : Nat) (σ : Nat → Nat) (z : Nat) : Nat := sumTo (lsB K W o σ) z
def laL (x : Option (Nat × Nat)) (d : Nat) : Bool := match x with
  | none => true
  | some y => decide (y.2 < d)
def laB (K : Nat → Nat → Nat) (o : Nat) (σ : Nat → Nat) : Nat → Option (Nat × Nat)
  | 0 => none
  | z + 1 => if 0 < sv K (σ (9 + z)) 1 ∧ laL (laB K o σ z) (dB K o σ z) = true then some (σ (9 + z), dB K o σ z) else laB K o σ z
def sB (K : Nat → Nat → Nat) (W : Option ((Nat → Nat) → Int)) (o : Nat) (σ : Nat → Nat) : Nat → (Nat → Nat)
  | 0 => σ
  | z + 1 => if ov K o 1 = 1 ∧ σ (27 + σ (9 + z)) = 1 then rsS (sB K W o σ z) (σ (9 + z)) (lsB K W o σ z) else sB K W o σ z
def laT (x : Option (Nat × Nat)) : Int32 := match x with
  | none => NN
  | some y => nI y.2
def laW (x : Option (Nat × Nat)) : Int32 := match x with
  | none => NN
  | some y => nI y.1
theorem tB_0 (K : Nat → Nat → Nat) (o : Nat) (σ : Nat → Nat) : tB K o σ 0 = 0 := rfl
theorem oB_0 (K : Nat → Nat → Nat) (o : Nat) (σ : Nat → Nat) : oB K o σ 0 = 0 := rfl
theorem cB_0 (σ : Nat → Nat) : cB σ 0 = σ 54 := Nat.sub_zero _
theorem lB_0 (K : Nat → Nat → Nat) (W : Option ((Nat → Nat) → Int)) (o : Nat) (σ : Nat → Nat) : lB K W o σ 0 = 0 := rfl
theorem laB_0 (K : Nat → Nat → Nat) (o : Nat) (σ : Nat → Nat) : laB K o σ 0 = none := rfl
theorem laT_0 : laT none = NN := rfl
theorem laW_0 : laW none = NN := rfl
section BD
variable {i i' j : Tb} {rv : Nat → Nat → Option Nat} {W : Option ((Nat → Nat) → Int)} {K g : Nat → Nat → Nat} {σ τ : Nat → Nat} {q p o k b d t w v n r z c s : Nat}
theorem turnS_le (hK : OkK K) (hp : p < K 0 3) (ho : o < K 0 4) : turnS K σ p o ≤ 27 := by
  have h1 := hK.2.2.2.2.2.2.2.2.2.1 p 0 hp (by omega)
  have h2 := hK.2.2.2.2.2.2.2.2.2.2.2.1 o 2 ho (by omega)
  have h3 := hK.2.2.2.2.2.2.2.2.1
  unfold turnS
  split
  · split <;> omega
  · omega
theorem waitS_le (hK : OkK K) (hp : p < K 0 3) : waitS K p o s c ≤ 108 := by
  have h1 := hK.2.2.2.2.2.2.2.2.2.1 p 1 hp (by omega)
  unfold waitS
  repeat' split
  all_goals omega
theorem waitS_0 (h : sv K p 1 = 0) : waitS K p o s c = 0 := by
  unfold waitS
  rw [h]
  repeat' split
  all_goals omega
theorem tB_le (hK : OkK K) (hb : OkS K b σ) (ho : o < K 0 4) (hz : z ≤ K 0 5) : tB K o σ z ≤ 27 * z := by
  have := sumTo_le (f := fun y => turnS K σ (σ (9 + y)) o) (m := 27) (n := z) (fun y hy => turnS_le hK (OkS_dr hb y (by omega)) ho)
  unfold tB
  omega
theorem dB_le (hK : OkK K) (hb : OkS K b σ) (ho : o < K 0 4) (hz : z < K 0 5) : dB K o σ z ≤ 400 := by
  have h1 := tB_le hK hb ho (z := z + 1) (by omega)
  have h2 := waitS_le (o := o) (s := σ (18 + σ (9 + z))) (c := cB σ z) hK (OkS_dr hb z hz)
  have h3 := hK.1
  have h4 := hK.2.2.1
  unfold dB
  omega
theorem oB_le (hK : OkK K) (hb : OkS K b σ) (ho : o < K 0 4) : ∀ z, z ≤ K 0 5 → oB K o σ z ≤ 400 := by
  intro z
  induction z with
  | zero => intro _; exact Nat.zero_le _
  | succ z ih =>
    intro hz
    have := ih (by omega)
    have := dB_le hK hb ho (z := z) (by omega)
    unfold oB
    omega
theorem cB_le (hb : OkS K b σ) : cB σ z ≤ 9 := by
  have := hb.2.2.2.2.2.2.2.2.1
  unfold cB
  omega
theorem cB_s : cB σ (z + 1) = cB σ z - (if σ (18 + σ (9 + z)) = 2 then 1 else 0) := by
  unfold cB
  show σ 54 - (sumTo _ z + (if σ (18 + σ (9 + z)) = 2 then 1 else 0)) = _
  omega
theorem clp_le (v : Int) : clp v ≤ 99 := by
  unfold clp
  omega
theorem lossN_le : lossN K W σ p t o ≤ 99 := clp_le _
theorem lsB_le : lsB K W o σ z ≤ 99 := by
  unfold lsB
  split
  · exact lossN_le
  · omega
theorem lB_le (hz : z ≤ 9) : lB K W o σ z ≤ 891 := by
  have := sumTo_le (f := lsB K W o σ) (m := 99) (n := z) (fun y hy => lsB_le)
  unfold lB
  omega
theorem laB_ok (hK : OkK K) (hb : OkS K b σ) (ho : o < K 0 4) : ∀ z, z ≤ K 0 5 → ∀ x, laB K o σ z = some x → x.1 < K 0 3 ∧ x.2 ≤ 400 := by
  intro z
  induction z with
  | zero => intro _ x h; cases h
  | succ z ih =>
    intro hz x h
    unfold laB at h
    split at h
    · cases h
      exact ⟨OkS_dr hb z (by omega), dB_le hK hb ho (by omega)⟩
    · exact ih (by omega) x h
/-- what waking others leaves as it was -/
theorem sB_o : ∀ z, k < 27 ∨ 54 ≤ k ∨ (∀ y, y < z → k ≠ 27 + σ (9 + y) ∧ k ≠ 36 + σ (9 + y) ∧ k ≠ 45 + σ (9 + y)) → (∀ y, y < z → σ (9 + y) < 9) → sB K W o σ z k = σ k := by
  intro z
  induction z with
  | zero => intro _ _; rfl
  | succ z ih =>
    intro h h9
    have e := ih (by
      rcases h with h | h | h
      · exact Or.inl h
      · exact Or.inr (Or.inl h)
      · exact Or.inr (Or.inr (fun y hy => h y (by omega)))) (fun y hy => h9 y (by omega))
    have h10 := h9 z (by omega)
    have h11 : k ≠ 27 + σ (9 + z) ∧ k ≠ 36 + σ (9 + z) ∧ k ≠ 45 + σ (9 + z) := by
      rcases h with h | h | h
      · omega
      · omega
      · exact h z (by omega)
    unfold sB
    split
    · unfold rsS
      rw [upn _ _ _ _ h11.2.2, upn _ _ _ _ h11.2.1, upn _ _ _ _ h11.1]
      exact e
    · exact e
theorem sB_p (hK : OkK K) (hb : OkS K b σ) (hz : z < K 0 5) (hk : k = 27 ∨ k = 36 ∨ k = 45) : sB K W o σ z (k + σ (9 + z)) = σ (k + σ (9 + z)) := by
  have hm := hK.1
  have h0 := OkS_dr hb z hz
  refine sB_o z (Or.inr (Or.inr (fun y hy => ?_))) (fun y hy => by have := OkS_dr hb y (by omega); omega)
  have h1 := OkS_dr hb y (by omega)
  have h2 : σ (9 + z) ≠ σ (9 + y) := fun e => by have := hb.2.2.2.1 z y hz (by omega) e; omega
  omega
theorem sB_q (hK : OkK K) (hb : OkS K b σ) (hz : z ≤ K 0 5) (hk : k < 27 ∨ 54 ≤ k) : sB K W o σ z k = σ k := by
  have hm := hK.1
  exact sB_o z (by omega) (fun y hy => by have := OkS_dr hb y (by omega); omega)
theorem sB_ok (hK : OkK K) (hb : OkS K b σ) : ∀ z, z ≤ K 0 5 → OkS K (b + 1) (sB K W o σ z) := by
  intro z
  induction z with
  | zero => intro _; exact OkS_up hb (by omega)
  | succ z ih =>
    intro hz
    have h1 := ih (by omega)
    have h2 := OkS_dr hb z (by omega)
    have hm := hK.1
    have h3 := (hb.2.2.2.2.2.2.1 (σ (9 + z)) (by omega)).2.1
    unfold sB
    split
    · exact OkS_rs hK h1 h2 (by rw [sB_p hK hb (by omega) (by omega)]; omega) lsB_le
    · exact h1
theorem lossN_c (h1 : ∀ k, k < K 0 3 → τ k = σ k) (h2 : τ (36 + p) = σ (36 + p)) (hp : p < K 0 3) : lossN K W τ p t o = lossN K W σ p t o := by
  have e : snr K τ p = snr K σ p := sumTo_congr (fun z hz => by rw [h1 z hz, h1 p hp])
  unfold lossN ltr
  rw [e, h2]
/-! the class's turn and wait -/
theorem c_looks (h : CarC 15 K i) (hK : OkK K) (ho : o < K 0 4) : fX1_looksAtFaces 15 (nI o) i = some (nI (ov K o 1)) := by
  have hm := hK.2.1
  have h1 := hK.2.2.2.2.2.2.2.2.2.2.2.2 o ho
  unfold fX1_looksAtFaces
  rw [q1, c_ofOfficer h (by omega) (by omega)]
  by_cases h2 : ov K o 1 = 1
  · simp (disch := omega) only [↓mz_lt, ↓mz_b1, ↓mz_b2, ↓mz_b3, mz_b1, mz_b2, mz_b3, mz_lt, mz_o0, mz_o1, nI_add, mz_mul, mz_sub, nI_clamp, mz_in, mz_le, mz_ltp, mz_eq, mz_nm, mz_mn, mz_ml, mz_mlt, mz_nl, mz_mle, qNN, q0, q1, q2, q3, q4, q5, q6, q7, q8, q9, q10, q11, q12, q13, q14, q15, q16, q17, q18, q19, q20, q21, q22, q23, q24, q25, q26, q27, q28, q29, q30, q31, q32, q33, q34, q35, q36, q37, q38, q39, q40, q41, q42, q43, q44, q45, q46, q47, q48, q49, q50, q51, q52, q53, q54, q55, q56, q57, q58, q59, q60, q61, q62, q63, q64, q65, q66, q67, q68, q69, q70, q71, q72, q73, q74, q75, q76, q77, q78, q79, q80, q81, q82, q83, q84, q85, q86, q87, q88, q89, q90, q91, q92, q93, q94, q95, q96, q97, q98, q99, q100, q101, q102, q103, q104, q105, q106, q107, q108, q109, q110, q111, q112, q113, q114, q115, q116, q117, q118, q119, q120, q121, q122, q123, q124, q125, q126, q127, q128, q129, q130, q240, q255, q256, q296, q400, q600, q896, q960, q999, q1000, q11544, q11840, q1000000, q1000000000, ↓reduceIte, if_pos, if_neg, ↓reduceIte, u2r, u2e, u2n, cp2r, cp2s, h2]
  · have h3 : ov K o 1 = 0 := by omega
    simp (disch := omega) only [↓mz_lt, ↓mz_b1, ↓mz_b2, ↓mz_b3, mz_b1, mz_b2, mz_b3, mz_lt, mz_o0, mz_o1, nI_add, mz_mul, mz_sub, nI_clamp, mz_in, mz_le, mz_ltp, mz_eq, mz_nm, mz_mn, mz_ml, mz_mlt, mz_nl, mz_mle, qNN, q0, q1, q2, q3, q4, q5, q6, q7, q8, q9, q10, q11, q12, q13, q14, q15, q16, q17, q18, q19, q20, q21, q22, q23, q24, q25, q26, q27, q28, q29, q30, q31, q32, q33, q34, q35, q36, q37, q38, q39, q40, q41, q42, q43, q44, q45, q46, q47, q48, q49, q50, q51, q52, q53, q54, q55, q56, q57, q58, q59, q60, q61, q62, q63, q64, q65, q66, q67, q68, q69, q70, q71, q72, q73, q74, q75, q76, q77, q78, q79, q80, q81, q82, q83, q84, q85, q86, q87, q88, q89, q90, q91, q92, q93, q94, q95, q96, q97, q98, q99, q100, q101, q102, q103, q104, q105, q106, q107, q108, q109, q110, q111, q112, q113, q114, q115, q116, q117, q118, q119, q120, q121, q122, q123, q124, q125, q126, q127, q128, q129, q130, q240, q255, q256, q296, q400, q600, q896, q960, q999, q1000, q11544, q11840, q1000000, q1000000000, ↓reduceIte, if_pos, if_neg, ↓reduceIte, u2r, u2e, u2n, cp2r, cp2s, h3]
theorem c_wakes (h : CarC 15 K i) (hK : OkK K) (hb : OkS K b σ) (hs : ScC σ (i (q + 1))) (hp : p < K 0 3) (ho : o < K 0 4) : fX3_wakes q (nI p) (nI o) i = some (if ov K o 1 = 1 ∧ σ (27 + p) = 1 then 1 else 0) := by
  have hm := hK.1
  have h1 := hK.2.2.2.2.2.2.2.2.2.2.2.2 o ho
  have h2 := (hb.2.2.2.2.2.2.1 p (by omega)).1
  unfold fX3_wakes
  rw [c_looks h hK ho, s_isAsleep hs hb (by omega)]
  by_cases h3 : ov K o 1 = 1
  · by_cases h4 : σ (27 + p) = 1
    · simp (disch := omega) only [↓mz_lt, ↓mz_b1, ↓mz_b2, ↓mz_b3, mz_b1, mz_b2, mz_b3, mz_lt, mz_o0, mz_o1, nI_add, mz_mul, mz_sub, nI_clamp, mz_in, mz_le, mz_ltp, mz_eq, mz_nm, mz_mn, mz_ml, mz_mlt, mz_nl, mz_mle, qNN, q0, q1, q2, q3, q4, q5, q6, q7, q8, q9, q10, q11, q12, q13, q14, q15, q16, q17, q18, q19, q20, q21, q22, q23, q24, q25, q26, q27, q28, q29, q30, q31, q32, q33, q34, q35, q36, q37, q38, q39, q40, q41, q42, q43, q44, q45, q46, q47, q48, q49, q50, q51, q52, q53, q54, q55, q56, q57, q58, q59, q60, q61, q62, q63, q64, q65, q66, q67, q68, q69, q70, q71, q72, q73, q74, q75, q76, q77, q78, q79, q80, q81, q82, q83, q84, q85, q86, q87, q88, q89, q90, q91, q92, q93, q94, q95, q96, q97, q98, q99, q100, q101, q102, q103, q104, q105, q106, q107, q108, q109, q110, q111, q112, q113, q114, q115, q116, q117, q118, q119, q120, q121, q122, q123, q124, q125, q126, q127, q128, q129, q130, q240, q255, q256, q296, q400, q600, q896, q960, q999, q1000, q11544, q11840, q1000000, q1000000000, ↓reduceIte, if_pos, if_neg, ↓reduceIte, u2r, u2e, u2n, cp2r, cp2s]
    · simp (disch := omega) only [↓mz_lt, ↓mz_b1, ↓mz_b2, ↓mz_b3, mz_b1, mz_b2, mz_b3, mz_lt, mz_o0, mz_o1, nI_add, mz_mul, mz_sub, nI_clamp, mz_in, mz_le, mz_ltp, mz_eq, mz_nm, mz_mn, mz_ml, mz_mlt, mz_nl, mz_mle, qNN, q0, q1, q2, q3, q4, q5, q6, q7, q8, q9, q10, q11, q12, q13, q14, q15, q16, q17, q18, q19, q20, q21, q22, q23, q24, q25, q26, q27, q28, q29, q30, q31, q32, q33, q34, q35, q36, q37, q38, q39, q40, q41, q42, q43, q44, q45, q46, q47, q48, q49, q50, q51, q52, q53, q54, q55, q56, q57, q58, q59, q60, q61, q62, q63, q64, q65, q66, q67, q68, q69, q70, q71, q72, q73, q74, q75, q76, q77, q78, q79, q80, q81, q82, q83, q84, q85, q86, q87, q88, q89, q90, q91, q92, q93, q94, q95, q96, q97, q98, q99, q100, q101, q102, q103, q104, q105, q106, q107, q108, q109, q110, q111, q112, q113, q114, q115, q116, q117, q118, q119, q120, q121, q122, q123, q124, q125, q126, q127, q128, q129, q130, q240, q255, q256, q296, q400, q600, q896, q960, q999, q1000, q11544, q11840, q1000000, q1000000000, ↓reduceIte, if_pos, if_neg, ↓reduceIte, u2r, u2e, u2n, cp2r, cp2s]
  · simp (disch := omega) only [↓mz_lt, ↓mz_b1, ↓mz_b2, ↓mz_b3, mz_b1, mz_b2, mz_b3, mz_lt, mz_o0, mz_o1, nI_add, mz_mul, mz_sub, nI_clamp, mz_in, mz_le, mz_ltp, mz_eq, mz_nm, mz_mn, mz_ml, mz_mlt, mz_nl, mz_mle, qNN, q0, q1, q2, q3, q4, q5, q6, q7, q8, q9, q10, q11, q12, q13, q14, q15, q16, q17, q18, q19, q20, q21, q22, q23, q24, q25, q26, q27, q28, q29, q30, q31, q32, q33, q34, q35, q36, q37, q38, q39, q40, q41, q42, q43, q44, q45, q46, q47, q48, q49, q50, q51, q52, q53, q54, q55, q56, q57, q58, q59, q60, q61, q62, q63, q64, q65, q66, q67, q68, q69, q70, q71, q72, q73, q74, q75, q76, q77, q78, q79, q80, q81, q82, q83, q84, q85, q86, q87, q88, q89, q90, q91, q92, q93, q94, q95, q96, q97, q98, q99, q100, q101, q102, q103, q104, q105, q106, q107, q108, q109, q110, q111, q112, q113, q114, q115, q116, q117, q118, q119, q120, q121, q122, q123, q124, q125, q126, q127, q128, q129, q130, q240, q255, q256, q296, q400, q600, q896, q960, q999, q1000, q11544, q11840, q1000000, q1000000000, ↓reduceIte, if_pos, if_neg, ↓reduceIte, u2r, u2e, u2n, cp2r, cp2s]
theorem c_turnAwake (h : CarC 15 K i) (hK : OkK K) (hp : p < K 0 3) (ho : o < K 0 4) : fX3_turnAwake (nI p) (nI o) i = some (nI (sv K p 0 + (if ov K o 1 = 1 then ov K o 2 else 0))) := by
  have hm := hK.1
  have hm2 := hK.2.1
  have h1 := hK.2.2.2.2.2.2.2.2.2.2.2.2 o ho
  unfold fX3_turnAwake fX3_turnAwake_24
  rw [c_looks h hK ho, q2, c_ofOfficer h (by omega) (by omega), q0, c_ofSleeper h (by omega) (by omega)]
  by_cases h3 : ov K o 1 = 1
  · simp (disch := omega) only [↓mz_lt, ↓mz_b1, ↓mz_b2, ↓mz_b3, mz_b1, mz_b2, mz_b3, mz_lt, mz_o0, mz_o1, nI_add, mz_mul, mz_sub, nI_clamp, mz_in, mz_le, mz_ltp, mz_eq, mz_nm, mz_mn, mz_ml, mz_mlt, mz_nl, mz_mle, qNN, q0, q1, q2, q3, q4, q5, q6, q7, q8, q9, q10, q11, q12, q13, q14, q15, q16, q17, q18, q19, q20, q21, q22, q23, q24, q25, q26, q27, q28, q29, q30, q31, q32, q33, q34, q35, q36, q37, q38, q39, q40, q41, q42, q43, q44, q45, q46, q47, q48, q49, q50, q51, q52, q53, q54, q55, q56, q57, q58, q59, q60, q61, q62, q63, q64, q65, q66, q67, q68, q69, q70, q71, q72, q73, q74, q75, q76, q77, q78, q79, q80, q81, q82, q83, q84, q85, q86, q87, q88, q89, q90, q91, q92, q93, q94, q95, q96, q97, q98, q99, q100, q101, q102, q103, q104, q105, q106, q107, q108, q109, q110, q111, q112, q113, q114, q115, q116, q117, q118, q119, q120, q121, q122, q123, q124, q125, q126, q127, q128, q129, q130, q240, q255, q256, q296, q400, q600, q896, q960, q999, q1000, q11544, q11840, q1000000, q1000000000, ↓reduceIte, if_pos, if_neg, ↓reduceIte, u2r, u2e, u2n, cp2r, cp2s]
  · simp (disch := omega) only [↓mz_lt, ↓mz_b1, ↓mz_b2, ↓mz_b3, mz_b1, mz_b2, mz_b3, mz_lt, mz_o0, mz_o1, nI_add, mz_mul, mz_sub, nI_clamp, mz_in, mz_le, mz_ltp, mz_eq, mz_nm, mz_mn, mz_ml, mz_mlt, mz_nl, mz_mle, qNN, q0, q1, q2, q3, q4, q5, q6, q7, q8, q9, q10, q11, q12, q13, q14, q15, q16, q17, q18, q19, q20, q21, q22, q23, q24, q25, q26, q27, q28, q29, q30, q31, q32, q33, q34, q35, q36, q37, q38, q39, q40, q41, q42, q43, q44, q45, q46, q47, q48, q49, q50, q51, q52, q53, q54, q55, q56, q57, q58, q59, q60, q61, q62, q63, q64, q65, q66, q67, q68, q69, q70, q71, q72, q73, q74, q75, q76, q77, q78, q79, q80, q81, q82, q83, q84, q85, q86, q87, q88, q89, q90, q91, q92, q93, q94, q95, q96, q97, q98, q99, q100, q101, q102, q103, q104, q105, q106, q107, q108, q109, q110, q111, q112, q113, q114, q115, q116, q117, q118, q119, q120, q121, q122, q123, q124, q125, q126, q127, q128, q129, q130, q240, q255, q256, q296, q400, q600, q896, q960, q999, q1000, q11544, q11840, q1000000, q1000000000, ↓reduceIte, if_pos, if_neg, ↓reduceIte, u2r, u2e, u2n, cp2r, cp2s]
theorem c_turnOf (h : CarC 15 K i) (hK : OkK K) (hb : OkS K b σ) (hs : ScC σ (i (q + 1))) (hp : p < K 0 3) (ho : o < K 0 4) : fX3_turnOf q (nI p) (nI o) i = some (nI (turnS K σ p o)) := by
  have hm := hK.1
  unfold fX3_turnOf fX3_turnOf_22 turnS
  rw [c_wakes h hK hb hs hp ho, c_turnAwake h hK hp ho, q3, c_ruleOf h (by omega)]
  by_cases h3 : ov K o 1 = 1
  · by_cases h4 : σ (27 + p) = 1
    · simp (disch := omega) only [↓mz_lt, ↓mz_b1, ↓mz_b2, ↓mz_b3, mz_b1, mz_b2, mz_b3, mz_lt, mz_o0, mz_o1, nI_add, mz_mul, mz_sub, nI_clamp, mz_in, mz_le, mz_ltp, mz_eq, mz_nm, mz_mn, mz_ml, mz_mlt, mz_nl, mz_mle, qNN, q0, q1, q2, q3, q4, q5, q6, q7, q8, q9, q10, q11, q12, q13, q14, q15, q16, q17, q18, q19, q20, q21, q22, q23, q24, q25, q26, q27, q28, q29, q30, q31, q32, q33, q34, q35, q36, q37, q38, q39, q40, q41, q42, q43, q44, q45, q46, q47, q48, q49, q50, q51, q52, q53, q54, q55, q56, q57, q58, q59, q60, q61, q62, q63, q64, q65, q66, q67, q68, q69, q70, q71, q72, q73, q74, q75, q76, q77, q78, q79, q80, q81, q82, q83, q84, q85, q86, q87, q88, q89, q90, q91, q92, q93, q94, q95, q96, q97, q98, q99, q100, q101, q102, q103, q104, q105, q106, q107, q108, q109, q110, q111, q112, q113, q114, q115, q116, q117, q118, q119, q120, q121, q122, q123, q124, q125, q126, q127, q128, q129, q130, q240, q255, q256, q296, q400, q600, q896, q960, q999, q1000, q11544, q11840, q1000000, q1000000000, ↓reduceIte, if_pos, if_neg, ↓reduceIte, u2r, u2e, u2n, cp2r, cp2s, Nat.add_assoc]
    · simp (disch := omega) only [↓mz_lt, ↓mz_b1, ↓mz_b2, ↓mz_b3, mz_b1, mz_b2, mz_b3, mz_lt, mz_o0, mz_o1, nI_add, mz_mul, mz_sub, nI_clamp, mz_in, mz_le, mz_ltp, mz_eq, mz_nm, mz_mn, mz_ml, mz_mlt, mz_nl, mz_mle, qNN, q0, q1, q2, q3, q4, q5, q6, q7, q8, q9, q10, q11, q12, q13, q14, q15, q16, q17, q18, q19, q20, q21, q22, q23, q24, q25, q26, q27, q28, q29, q30, q31, q32, q33, q34, q35, q36, q37, q38, q39, q40, q41, q42, q43, q44, q45, q46, q47, q48, q49, q50, q51, q52, q53, q54, q55, q56, q57, q58, q59, q60, q61, q62, q63, q64, q65, q66, q67, q68, q69, q70, q71, q72, q73, q74, q75, q76, q77, q78, q79, q80, q81, q82, q83, q84, q85, q86, q87, q88, q89, q90, q91, q92, q93, q94, q95, q96, q97, q98, q99, q100, q101, q102, q103, q104, q105, q106, q107, q108, q109, q110, q111, q112, q113, q114, q115, q116, q117, q118, q119, q120, q121, q122, q123, q124, q125, q126, q127, q128, q129, q130, q240, q255, q256, q296, q400, q600, q896, q960, q999, q1000, q11544, q11840, q1000000, q1000000000, ↓reduceIte, if_pos, if_neg, ↓reduceIte, u2r, u2e, u2n, cp2r, cp2s, Nat.add_assoc]
  · simp (disch := omega) only [↓mz_lt, ↓mz_b1, ↓mz_b2, ↓mz_b3, mz_b1, mz_b2, mz_b3, mz_lt, mz_o0, mz_o1, nI_add, mz_mul, mz_sub, nI_clamp, mz_in, mz_le, mz_ltp, mz_eq, mz_nm, mz_mn, mz_ml, mz_mlt, mz_nl, mz_mle, qNN, q0, q1, q2, q3, q4, q5, q6, q7, q8, q9, q10, q11, q12, q13, q14, q15, q16, q17, q18, q19, q20, q21, q22, q23, q24, q25, q26, q27, q28, q29, q30, q31, q32, q33, q34, q35, q36, q37, q38, q39, q40, q41, q42, q43, q44, q45, q46, q47, q48, q49, q50, q51, q52, q53, q54, q55, q56, q57, q58, q59, q60, q61, q62, q63, q64, q65, q66, q67, q68, q69, q70, q71, q72, q73, q74, q75, q76, q77, q78, q79, q80, q81, q82, q83, q84, q85, q86, q87, q88, q89, q90, q91, q92, q93, q94, q95, q96, q97, q98, q99, q100, q101, q102, q103, q104, q105, q106, q107, q108, q109, q110, q111, q112, q113, q114, q115, q116, q117, q118, q119, q120, q121, q122, q123, q124, q125, q126, q127, q128, q129, q130, q240, q255, q256, q296, q400, q600, q896, q960, q999, q1000, q11544, q11840, q1000000, q1000000000, ↓reduceIte, if_pos, if_neg, ↓reduceIte, u2r, u2e, u2n, cp2r, cp2s, Nat.add_assoc]
theorem mz_sub0 {a c : Nat} (ha : a < 1000) (hc : c < 1000) : (if nI 0 < nI a - nI c then nI a - nI c else nI 0) = nI (a - c) := by
  rw [zI_n a, zI_n c, zI_n 0, zI_sub, zI_n]
  have e : (zI ((0 : Nat) : Int) < zI ((a : Int) - c)) = (0 < (a : Int) - c) := by rw [zI_lt (by omega) (by omega) (by omega) (by omega)]; rfl
  simp only [e]
  split <;> congr 1 <;> omega
theorem c_waitOf (h : CarC 15 K i) (hK : OkK K) (hp : p < K 0 3) (ho : o < K 0 4) (hs : s ≤ 2) : fX3_waitOf (nI p) (nI o) (nI s) (if 0 < c then 1 else 0) i = some (nI (waitS K p o s c)) := by
  have hm := hK.1
  have hm2 := hK.2.1
  have h1 := hK.2.2.2.2.2.2.2.2.2.2.2.2 o ho
  have h2 := hK.2.2.2.2.2.2.2.2.2.1 p 1 hp (by omega)
  have h3 := hK.2.2.2.2.2.2.2.2.2.2.2.1 o 3 ho (by omega)
  unfold fX3_waitOf waitS
  rw [q1, q3, c_ofSleeper h (by omega) (by omega), c_looks h hK ho, c_ofOfficer h (by omega) (by omega)]
  by_cases h4 : s = 1
  · by_cases h5 : ov K o 1 = 1
    · simp (disch := omega) only [↓mz_lt, ↓mz_b1, ↓mz_b2, ↓mz_b3, mz_b1, mz_b2, mz_b3, mz_lt, mz_o0, mz_o1, nI_add, mz_mul, mz_sub, nI_clamp, mz_in, mz_le, mz_ltp, mz_eq, mz_nm, mz_mn, mz_ml, mz_mlt, mz_nl, mz_mle, qNN, q0, q1, q2, q3, q4, q5, q6, q7, q8, q9, q10, q11, q12, q13, q14, q15, q16, q17, q18, q19, q20, q21, q22, q23, q24, q25, q26, q27, q28, q29, q30, q31, q32, q33, q34, q35, q36, q37, q38, q39, q40, q41, q42, q43, q44, q45, q46, q47, q48, q49, q50, q51, q52, q53, q54, q55, q56, q57, q58, q59, q60, q61, q62, q63, q64, q65, q66, q67, q68, q69, q70, q71, q72, q73, q74, q75, q76, q77, q78, q79, q80, q81, q82, q83, q84, q85, q86, q87, q88, q89, q90, q91, q92, q93, q94, q95, q96, q97, q98, q99, q100, q101, q102, q103, q104, q105, q106, q107, q108, q109, q110, q111, q112, q113, q114, q115, q116, q117, q118, q119, q120, q121, q122, q123, q124, q125, q126, q127, q128, q129, q130, q240, q255, q256, q296, q400, q600, q896, q960, q999, q1000, q11544, q11840, q1000000, q1000000000, ↓reduceIte, if_pos, if_neg, ↓reduceIte, u2r, u2e, u2n, cp2r, cp2s, h4]
    · simp (disch := omega) only [↓mz_lt, ↓mz_b1, ↓mz_b2, ↓mz_b3, mz_b1, mz_b2, mz_b3, mz_lt, mz_o0, mz_o1, nI_add, mz_mul, mz_sub, nI_clamp, mz_in, mz_le, mz_ltp, mz_eq, mz_nm, mz_mn, mz_ml, mz_mlt, mz_nl, mz_mle, qNN, q0, q1, q2, q3, q4, q5, q6, q7, q8, q9, q10, q11, q12, q13, q14, q15, q16, q17, q18, q19, q20, q21, q22, q23, q24, q25, q26, q27, q28, q29, q30, q31, q32, q33, q34, q35, q36, q37, q38, q39, q40, q41, q42, q43, q44, q45, q46, q47, q48, q49, q50, q51, q52, q53, q54, q55, q56, q57, q58, q59, q60, q61, q62, q63, q64, q65, q66, q67, q68, q69, q70, q71, q72, q73, q74, q75, q76, q77, q78, q79, q80, q81, q82, q83, q84, q85, q86, q87, q88, q89, q90, q91, q92, q93, q94, q95, q96, q97, q98, q99, q100, q101, q102, q103, q104, q105, q106, q107, q108, q109, q110, q111, q112, q113, q114, q115, q116, q117, q118, q119, q120, q121, q122, q123, q124, q125, q126, q127, q128, q129, q130, q240, q255, q256, q296, q400, q600, q896, q960, q999, q1000, q11544, q11840, q1000000, q1000000000, ↓reduceIte, if_pos, if_neg, ↓reduceIte, u2r, u2e, u2n, cp2r, cp2s, h4, mz_div]
  · by_cases h5 : s = 2
    · by_cases h6 : 0 < c
      · simp (disch := omega) only [mz_b1, q6, q0, q2, q1, mz_mul, mz_eq, if_pos, if_neg, ↓reduceIte, mz_sub0]
      · simp (disch := omega) only [↓mz_lt, ↓mz_b1, ↓mz_b2, ↓mz_b3, mz_b1, mz_b2, mz_b3, mz_lt, mz_o0, mz_o1, nI_add, mz_mul, mz_sub, nI_clamp, mz_in, mz_le, mz_ltp, mz_eq, mz_nm, mz_mn, mz_ml, mz_mlt, mz_nl, mz_mle, qNN, q0, q1, q2, q3, q4, q5, q6, q7, q8, q9, q10, q11, q12, q13, q14, q15, q16, q17, q18, q19, q20, q21, q22, q23, q24, q25, q26, q27, q28, q29, q30, q31, q32, q33, q34, q35, q36, q37, q38, q39, q40, q41, q42, q43, q44, q45, q46, q47, q48, q49, q50, q51, q52, q53, q54, q55, q56, q57, q58, q59, q60, q61, q62, q63, q64, q65, q66, q67, q68, q69, q70, q71, q72, q73, q74, q75, q76, q77, q78, q79, q80, q81, q82, q83, q84, q85, q86, q87, q88, q89, q90, q91, q92, q93, q94, q95, q96, q97, q98, q99, q100, q101, q102, q103, q104, q105, q106, q107, q108, q109, q110, q111, q112, q113, q114, q115, q116, q117, q118, q119, q120, q121, q122, q123, q124, q125, q126, q127, q128, q129, q130, q240, q255, q256, q296, q400, q600, q896, q960, q999, q1000, q11544, q11840, q1000000, q1000000000, ↓reduceIte, if_pos, if_neg, ↓reduceIte, u2r, u2e, u2n, cp2r, cp2s]
    · simp (disch := omega) only [↓mz_lt, ↓mz_b1, ↓mz_b2, ↓mz_b3, mz_b1, mz_b2, mz_b3, mz_lt, mz_o0, mz_o1, nI_add, mz_mul, mz_sub, nI_clamp, mz_in, mz_le, mz_ltp, mz_eq, mz_nm, mz_mn, mz_ml, mz_mlt, mz_nl, mz_mle, qNN, q0, q1, q2, q3, q4, q5, q6, q7, q8, q9, q10, q11, q12, q13, q14, q15, q16, q17, q18, q19, q20, q21, q22, q23, q24, q25, q26, q27, q28, q29, q30, q31, q32, q33, q34, q35, q36, q37, q38, q39, q40, q41, q42, q43, q44, q45, q46, q47, q48, q49, q50, q51, q52, q53, q54, q55, q56, q57, q58, q59, q60, q61, q62, q63, q64, q65, q66, q67, q68, q69, q70, q71, q72, q73, q74, q75, q76, q77, q78, q79, q80, q81, q82, q83, q84, q85, q86, q87, q88, q89, q90, q91, q92, q93, q94, q95, q96, q97, q98, q99, q100, q101, q102, q103, q104, q105, q106, q107, q108, q109, q110, q111, q112, q113, q114, q115, q116, q117, q118, q119, q120, q121, q122, q123, q124, q125, q126, q127, q128, q129, q130, q240, q255, q256, q296, q400, q600, q896, q960, q999, q1000, q11544, q11840, q1000000, q1000000000, ↓reduceIte, if_pos, if_neg, ↓reduceIte, u2r, u2e, u2n, cp2r, cp2s]
theorem c_takesCoffee (hs : ScC σ (i (q + 1))) (hp : p < 9) (h2 : σ (18 + p) ≤ 2) : fX3_takesCoffee q (nI p) i = some (if σ (18 + p) = 2 then 1 else 0) := by
  unfold fX3_takesCoffee
  rw [s_saidFor hs hp]
  by_cases h : σ (18 + p) = 2
  · simp (disch := omega) only [↓mz_lt, ↓mz_b1, ↓mz_b2, ↓mz_b3, mz_b1, mz_b2, mz_b3, mz_lt, mz_o0, mz_o1, nI_add, mz_mul, mz_sub, nI_clamp, mz_in, mz_le, mz_ltp, mz_eq, mz_nm, mz_mn, mz_ml, mz_mlt, mz_nl, mz_mle, qNN, q0, q1, q2, q3, q4, q5, q6, q7, q8, q9, q10, q11, q12, q13, q14, q15, q16, q17, q18, q19, q20, q21, q22, q23, q24, q25, q26, q27, q28, q29, q30, q31, q32, q33, q34, q35, q36, q37, q38, q39, q40, q41, q42, q43, q44, q45, q46, q47, q48, q49, q50, q51, q52, q53, q54, q55, q56, q57, q58, q59, q60, q61, q62, q63, q64, q65, q66, q67, q68, q69, q70, q71, q72, q73, q74, q75, q76, q77, q78, q79, q80, q81, q82, q83, q84, q85, q86, q87, q88, q89, q90, q91, q92, q93, q94, q95, q96, q97, q98, q99, q100, q101, q102, q103, q104, q105, q106, q107, q108, q109, q110, q111, q112, q113, q114, q115, q116, q117, q118, q119, q120, q121, q122, q123, q124, q125, q126, q127, q128, q129, q130, q240, q255, q256, q296, q400, q600, q896, q960, q999, q1000, q11544, q11840, q1000000, q1000000000, ↓reduceIte, if_pos, if_neg, ↓reduceIte, u2r, u2e, u2n, cp2r, cp2s]
  · simp (disch := omega) only [↓mz_lt, ↓mz_b1, ↓mz_b2, ↓mz_b3, mz_b1, mz_b2, mz_b3, mz_lt, mz_o0, mz_o1, nI_add, mz_mul, mz_sub, nI_clamp, mz_in, mz_le, mz_ltp, mz_eq, mz_nm, mz_mn, mz_ml, mz_mlt, mz_nl, mz_mle, qNN, q0, q1, q2, q3, q4, q5, q6, q7, q8, q9, q10, q11, q12, q13, q14, q15, q16, q17, q18, q19, q20, q21, q22, q23, q24, q25, q26, q27, q28, q29, q30, q31, q32, q33, q34, q35, q36, q37, q38, q39, q40, q41, q42, q43, q44, q45, q46, q47, q48, q49, q50, q51, q52, q53, q54, q55, q56, q57, q58, q59, q60, q61, q62, q63, q64, q65, q66, q67, q68, q69, q70, q71, q72, q73, q74, q75, q76, q77, q78, q79, q80, q81, q82, q83, q84, q85, q86, q87, q88, q89, q90, q91, q92, q93, q94, q95, q96, q97, q98, q99, q100, q101, q102, q103, q104, q105, q106, q107, q108, q109, q110, q111, q112, q113, q114, q115, q116, q117, q118, q119, q120, q121, q122, q123, q124, q125, q126, q127, q128, q129, q130, q240, q255, q256, q296, q400, q600, q896, q960, q999, q1000, q11544, q11840, q1000000, q1000000000, ↓reduceIte, if_pos, if_neg, ↓reduceIte, u2r, u2e, u2n, cp2r, cp2s]
theorem c_hasPaper (h : CarC q K i) (hK : OkK K) (hp : p < K 0 3) : fX1_hasPaper q (nI p) i = some (if sv K p 5 = 0 then 1 else 0) := by
  have hm := hK.1
  have h1 := hK.2.2.2.2.2.2.2.2.2.2.1 p hp
  unfold fX1_hasPaper
  rw [c_hasSleeper h hK (by omega), q5, c_ofSleeper h (by omega) (by omega)]
  by_cases h2 : sv K p 5 = 0
  · simp (disch := omega) only [↓mz_lt, ↓mz_b1, ↓mz_b2, ↓mz_b3, mz_b1, mz_b2, mz_b3, mz_lt, mz_o0, mz_o1, nI_add, mz_mul, mz_sub, nI_clamp, mz_in, mz_le, mz_ltp, mz_eq, mz_nm, mz_mn, mz_ml, mz_mlt, mz_nl, mz_mle, qNN, q0, q1, q2, q3, q4, q5, q6, q7, q8, q9, q10, q11, q12, q13, q14, q15, q16, q17, q18, q19, q20, q21, q22, q23, q24, q25, q26, q27, q28, q29, q30, q31, q32, q33, q34, q35, q36, q37, q38, q39, q40, q41, q42, q43, q44, q45, q46, q47, q48, q49, q50, q51, q52, q53, q54, q55, q56, q57, q58, q59, q60, q61, q62, q63, q64, q65, q66, q67, q68, q69, q70, q71, q72, q73, q74, q75, q76, q77, q78, q79, q80, q81, q82, q83, q84, q85, q86, q87, q88, q89, q90, q91, q92, q93, q94, q95, q96, q97, q98, q99, q100, q101, q102, q103, q104, q105, q106, q107, q108, q109, q110, q111, q112, q113, q114, q115, q116, q117, q118, q119, q120, q121, q122, q123, q124, q125, q126, q127, q128, q129, q130, q240, q255, q256, q296, q400, q600, q896, q960, q999, q1000, q11544, q11840, q1000000, q1000000000, ↓reduceIte, if_pos, if_neg, ↓reduceIte, u2r, u2e, u2n, cp2r, cp2s]
  · simp (disch := omega) only [↓mz_lt, ↓mz_b1, ↓mz_b2, ↓mz_b3, mz_b1, mz_b2, mz_b3, mz_lt, mz_o0, mz_o1, nI_add, mz_mul, mz_sub, nI_clamp, mz_in, mz_le, mz_ltp, mz_eq, mz_nm, mz_mn, mz_ml, mz_mlt, mz_nl, mz_mle, qNN, q0, q1, q2, q3, q4, q5, q6, q7, q8, q9, q10, q11, q12, q13, q14, q15, q16, q17, q18, q19, q20, q21, q22, q23, q24, q25, q26, q27, q28, q29, q30, q31, q32, q33, q34, q35, q36, q37, q38, q39, q40, q41, q42, q43, q44, q45, q46, q47, q48, q49, q50, q51, q52, q53, q54, q55, q56, q57, q58, q59, q60, q61, q62, q63, q64, q65, q66, q67, q68, q69, q70, q71, q72, q73, q74, q75, q76, q77, q78, q79, q80, q81, q82, q83, q84, q85, q86, q87, q88, q89, q90, q91, q92, q93, q94, q95, q96, q97, q98, q99, q100, q101, q102, q103, q104, q105, q106, q107, q108, q109, q110, q111, q112, q113, q114, q115, q116, q117, q118, q119, q120, q121, q122, q123, q124, q125, q126, q127, q128, q129, q130, q240, q255, q256, q296, q400, q600, q896, q960, q999, q1000, q11544, q11840, q1000000, q1000000000, ↓reduceIte, if_pos, if_neg, ↓reduceIte, u2r, u2e, u2n, cp2r, cp2s]
theorem c_isLacking (h : CarC q K i) (hK : OkK K) (hp : p < K 0 3) : fX1_isLacking q (nI p) i = some (if sv K p 5 = 0 ∧ 0 < sv K p 1 then 1 else 0) := by
  have hm := hK.1
  have h1 := hK.2.2.2.2.2.2.2.2.2.1 p 1 hp (by omega)
  unfold fX1_isLacking
  rw [c_hasPaper h hK hp, q1, c_ofSleeper h (by omega) (by omega)]
  by_cases h2 : sv K p 5 = 0
  · by_cases h3 : 0 < sv K p 1
    · simp (disch := omega) only [↓mz_lt, ↓mz_b1, ↓mz_b2, ↓mz_b3, mz_b1, mz_b2, mz_b3, mz_lt, mz_o0, mz_o1, nI_add, mz_mul, mz_sub, nI_clamp, mz_in, mz_le, mz_ltp, mz_eq, mz_nm, mz_mn, mz_ml, mz_mlt, mz_nl, mz_mle, qNN, q0, q1, q2, q3, q4, q5, q6, q7, q8, q9, q10, q11, q12, q13, q14, q15, q16, q17, q18, q19, q20, q21, q22, q23, q24, q25, q26, q27, q28, q29, q30, q31, q32, q33, q34, q35, q36, q37, q38, q39, q40, q41, q42, q43, q44, q45, q46, q47, q48, q49, q50, q51, q52, q53, q54, q55, q56, q57, q58, q59, q60, q61, q62, q63, q64, q65, q66, q67, q68, q69, q70, q71, q72, q73, q74, q75, q76, q77, q78, q79, q80, q81, q82, q83, q84, q85, q86, q87, q88, q89, q90, q91, q92, q93, q94, q95, q96, q97, q98, q99, q100, q101, q102, q103, q104, q105, q106, q107, q108, q109, q110, q111, q112, q113, q114, q115, q116, q117, q118, q119, q120, q121, q122, q123, q124, q125, q126, q127, q128, q129, q130, q240, q255, q256, q296, q400, q600, q896, q960, q999, q1000, q11544, q11840, q1000000, q1000000000, ↓reduceIte, if_pos, if_neg, ↓reduceIte, u2r, u2e, u2n, cp2r, cp2s]
    · simp (disch := omega) only [↓mz_lt, ↓mz_b1, ↓mz_b2, ↓mz_b3, mz_b1, mz_b2, mz_b3, mz_lt, mz_o0, mz_o1, nI_add, mz_mul, mz_sub, nI_clamp, mz_in, mz_le, mz_ltp, mz_eq, mz_nm, mz_mn, mz_ml, mz_mlt, mz_nl, mz_mle, qNN, q0, q1, q2, q3, q4, q5, q6, q7, q8, q9, q10, q11, q12, q13, q14, q15, q16, q17, q18, q19, q20, q21, q22, q23, q24, q25, q26, q27, q28, q29, q30, q31, q32, q33, q34, q35, q36, q37, q38, q39, q40, q41, q42, q43, q44, q45, q46, q47, q48, q49, q50, q51, q52, q53, q54, q55, q56, q57, q58, q59, q60, q61, q62, q63, q64, q65, q66, q67, q68, q69, q70, q71, q72, q73, q74, q75, q76, q77, q78, q79, q80, q81, q82, q83, q84, q85, q86, q87, q88, q89, q90, q91, q92, q93, q94, q95, q96, q97, q98, q99, q100, q101, q102, q103, q104, q105, q106, q107, q108, q109, q110, q111, q112, q113, q114, q115, q116, q117, q118, q119, q120, q121, q122, q123, q124, q125, q126, q127, q128, q129, q130, q240, q255, q256, q296, q400, q600, q896, q960, q999, q1000, q11544, q11840, q1000000, q1000000000, ↓reduceIte, if_pos, if_neg, ↓reduceIte, u2r, u2e, u2n, cp2r, cp2s]
  · simp (disch := omega) only [↓mz_lt, ↓mz_b1, ↓mz_b2, ↓mz_b3, mz_b1, mz_b2, mz_b3, mz_lt, mz_o0, mz_o1, nI_add, mz_mul, mz_sub, nI_clamp, mz_in, mz_le, mz_ltp, mz_eq, mz_nm, mz_mn, mz_ml, mz_mlt, mz_nl, mz_mle, qNN, q0, q1, q2, q3, q4, q5, q6, q7, q8, q9, q10, q11, q12, q13, q14, q15, q16, q17, q18, q19, q20, q21, q22, q23, q24, q25, q26, q27, q28, q29, q30, q31, q32, q33, q34, q35, q36, q37, q38, q39, q40, q41, q42, q43, q44, q45, q46, q47, q48, q49, q50, q51, q52, q53, q54, q55, q56, q57, q58, q59, q60, q61, q62, q63, q64, q65, q66, q67, q68, q69, q70, q71, q72, q73, q74, q75, q76, q77, q78, q79, q80, q81, q82, q83, q84, q85, q86, q87, q88, q89, q90, q91, q92, q93, q94, q95, q96, q97, q98, q99, q100, q101, q102, q103, q104, q105, q106, q107, q108, q109, q110, q111, q112, q113, q114, q115, q116, q117, q118, q119, q120, q121, q122, q123, q124, q125, q126, q127, q128, q129, q130, q240, q255, q256, q296, q400, q600, q896, q960, q999, q1000, q11544, q11840, q1000000, q1000000000, ↓reduceIte, if_pos, if_neg, ↓reduceIte, u2r, u2e, u2n, cp2r, cp2s]
end BD
