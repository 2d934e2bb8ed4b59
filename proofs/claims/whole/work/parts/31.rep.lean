/-! what the cells stand for: the car K, a scene σ, in naturals -/
abbrev Tb : Type := Nat → Nat → Int32
/-- K 0 3: sleepers, K 0 4: officers, K 0 5: papers, K 1: rules, K 2: of sleepers, K 3: of officers -/
def sv (K : Nat → Nat → Nat) (p k : Nat) : Nat := K 2 (6 * p + k)
def ov (K : Nat → Nat → Nat) (o k : Nat) : Nat := K 3 (4 * o + k)
def CarC (q : Nat) (K : Nat → Nat → Nat) (i : Tb) : Prop := i q 3 = nI (K 0 3) ∧ i q 4 = nI (K 0 4) ∧ i q 5 = nI (K 0 5) ∧ (∀ k, k < 4 → i (q + 1) k = nI (K 1 k)) ∧ (∀ k, k < 54 → i (q + 2) k = nI (K 2 k)) ∧ (∀ k, k < 16 → i (q + 3) k = nI (K 3 k))
def CarM (K : Nat → Nat → Nat) (i : Tb) : Prop := i 50 26 = nI (K 0 3) ∧ i 50 27 = nI (K 0 4) ∧ i 50 28 = nI (K 0 5) ∧ (∀ k, k < 4 → i 55 k = nI (K 1 k)) ∧ (∀ k, k < 6 * K 0 3 → i 57 k = nI (K 2 k)) ∧ (∀ k, k < 4 * K 0 4 → i 59 k = nI (K 3 k))
def OkK (K : Nat → Nat → Nat) : Prop := K 0 3 ≤ 9 ∧ K 0 4 ≤ 4 ∧ K 0 5 ≤ K 0 3 ∧ (0 < K 0 3 → 0 < K 0 4 ∧ 0 < K 0 5) ∧ (K 0 3 = 0 → K 0 4 = 0) ∧ K 1 0 ≤ 60 ∧ K 1 1 ≤ 99 ∧ K 1 2 ≤ 9 ∧ K 1 3 ≤ 9 ∧ (∀ p k, p < K 0 3 → k < 6 → sv K p k ≤ 9) ∧ (∀ p, p < K 0 3 → sv K p 5 ≤ 1) ∧ (∀ o k, o < K 0 4 → k < 4 → ov K o k ≤ 9) ∧ (∀ o, o < K 0 4 → ov K o 1 ≤ 1)
/-- a scene's row of the class -/
def ScC (σ : Nat → Nat) (c : Nat → Int32) : Prop := ∀ k, k < 56 → c k = nI (σ k)
/-- a row of the model that stands for the same scene, but for the log -/
def ScM (K : Nat → Nat → Nat) (σ : Nat → Nat) (w : Nat → Int32) : Prop :=
  (∀ p, p < K 0 3 → w (6 * p) = nI (σ p) ∧ w (6 * p + 2) = nI (σ (18 + p)) ∧ w (6 * p + 3) = nI (σ (27 + p)) ∧ w (6 * p + 4) = nI (σ (36 + p)) ∧ w (6 * p + 5) = nI (σ (45 + p))) ∧
  (∀ p, p < K 0 3 → sv K p 5 = 1 → w (6 * p + 1) = NN) ∧ (∀ q, q < K 0 5 → w (6 * σ (9 + q) + 1) = nI q) ∧ w 54 = nI (σ 54)
def OkS (K : Nat → Nat → Nat) (b : Nat) (σ : Nat → Nat) : Prop :=
  (∀ p, p < K 0 3 → σ p < K 0 3) ∧ (∀ p q, p < K 0 3 → q < K 0 3 → σ p = σ q → p = q) ∧
  (∀ q, q < K 0 5 → σ (9 + q) < K 0 3 ∧ sv K (σ (9 + q)) 5 = 0) ∧ (∀ q r, q < K 0 5 → r < K 0 5 → σ (9 + q) = σ (9 + r) → q = r) ∧ (∀ p, p < K 0 3 → sv K p 5 = 0 → ∃ q, q < K 0 5 ∧ σ (9 + q) = p) ∧
  (∀ p, p < K 0 3 → σ (18 + p) ≤ 2 ∧ (σ (18 + p) ≠ 0 → sv K p 5 = 0 ∧ 0 < sv K p 1)) ∧
  (∀ p, p < 9 → σ (27 + p) ≤ 1 ∧ σ (36 + p) ≤ b ∧ σ (45 + p) ≤ 99 * σ (36 + p)) ∧ (∀ p, p < 9 → K 0 3 ≤ p → σ (27 + p) = 0 ∧ σ (36 + p) = 0) ∧ σ 54 ≤ 9 ∧ σ 55 ≤ b
theorem mz_cases (a : Int32) : a < nI 0 ∨ ∃ p, p < 2 ^ 31 ∧ a = nI p := by
  by_cases h : a < nI 0
  · exact Or.inl h
  · exact Or.inr (nI_of h)
theorem mz_ni {p : Nat} {a : Int32} (hp : p < 2 ^ 31) (h : a < nI 0) : (nI p ≤ a) = False := by
  apply propext
  constructor
  · intro e
    have h1 := Int32.le_iff_toInt_le.mp e
    have h2 := Int32.lt_iff_toInt_lt.mp h
    rw [nI_toInt hp] at h1
    have h3 : (nI 0).toInt = 0 := by decide +kernel
    omega
  · exact False.elim
theorem mz_isIn (a b c : Int32) : fX12_isIn a.toInt64 b.toInt64 c.toInt64 = some (if b ≤ a ∧ a ≤ c then 1 else 0) := by
  unfold fX12_isIn
  have h1 : (lg_cmp a.toInt64 b.toInt64 < 0) ↔ ¬ b ≤ a := by
    rw [lg_cmp_lt, Int64.lt_iff_toInt_lt, Int32.toInt_toInt64, Int32.toInt_toInt64, Int32.le_iff_toInt_le]
    omega
  have h2 : (0 < lg_cmp a.toInt64 c.toInt64) ↔ ¬ a ≤ c := by
    rw [lg_cmp_gt, Int64.lt_iff_toInt_lt, Int32.toInt_toInt64, Int32.toInt_toInt64, Int32.le_iff_toInt_le]
    omega
  by_cases ha : b ≤ a
  · rw [if_neg (by rw [h1]; exact fun h => h ha)]
    by_cases hc : a ≤ c
    · rw [if_neg (by rw [h2]; exact fun h => h hc), if_pos ⟨ha, hc⟩]
    · rw [if_pos (h2.mpr hc), if_neg (fun h => hc h.2)]
  · rw [if_pos (h1.mpr ha), if_neg (fun h => ha h.1)]
theorem L0 : (0 : Int64) = (nI 0).toInt64 := by decide +kernel
theorem L1 : (1 : Int64) = (nI 1).toInt64 := by decide +kernel
theorem L2 : (2 : Int64) = (nI 2).toInt64 := by decide +kernel
theorem L3 : (3 : Int64) = (nI 3).toInt64 := by decide +kernel
theorem L9 : (9 : Int64) = (nI 9).toInt64 := by decide +kernel
theorem L10 : (10 : Int64) = (nI 10).toInt64 := by decide +kernel
theorem L20 : (20 : Int64) = (nI 20).toInt64 := by decide +kernel
theorem L99 : (99 : Int64) = (nI 99).toInt64 := by decide +kernel
theorem L999 : (999 : Int64) = (nI 999).toInt64 := by decide +kernel
theorem mz_isN {a b c : Nat} (ha : a < 2 ^ 31) (hb : b < 2 ^ 31) (hc : c < 2 ^ 31) : fX12_isIn (nI a).toInt64 (nI b).toInt64 (nI c).toInt64 = some (if b ≤ a ∧ a ≤ c then 1 else 0) := by
  rw [mz_isIn]
  simp only [mz_le hb ha, mz_le ha hc]
theorem mz_isG {a : Int32} {b : Nat} {c : Int64} (hb : b < 2 ^ 31) (h : a < nI 0) : fX12_isIn a.toInt64 (nI b).toInt64 c = some 0 := by
  unfold fX12_isIn
  rw [if_pos]
  rw [lg_cmp_lt, Int64.lt_iff_toInt_lt, Int32.toInt_toInt64, Int32.toInt_toInt64, nI_toInt hb]
  have h2 := Int32.lt_iff_toInt_lt.mp h
  have h3 : (nI 0).toInt = 0 := by decide +kernel
  omega
/-! tables: rows -/
theorem u2r {α : Type} (f : Nat → Nat → α) (p k : Nat) (v : α) (q : Nat) (h : q ≠ p) : u2 f p k v q = f q := by
  funext j
  simp [u2, h]
theorem u2s {α : Type} (f : Nat → Nat → α) (p k j : Nat) (v : α) : u2 f p k v p j = if j = k then v else f p j := by simp [u2]
theorem u2e {α : Type} (f : Nat → Nat → α) (p k : Nat) (v : α) : u2 f p k v p k = v := by simp [u2]
theorem u2n {α : Type} (f : Nat → Nat → α) (p k j : Nat) (v : α) (h : j ≠ k) : u2 f p k v p j = f p j := by simp [u2, h]
theorem cp2r (iv : Tb) (f : Nat → Int32) (sp q dp n z : Nat) (h : z ≠ q) : cp2 iv f sp q dp n z = iv z := if_neg h
theorem cp2s (iv : Tb) (f : Nat → Int32) (sp q dp n : Nat) : cp2 iv f sp q dp n q = va_cpy f (iv q) sp dp n := if_pos rfl
/-! the class's getters -/
section CG
variable {i : Tb} {K : Nat → Nat → Nat} {σ : Nat → Nat} {q p o k b : Nat}
theorem c_hasSleeper (h : CarC q K i) (hK : OkK K) (hp : p < 2 ^ 31) : fX1_hasSleeper q (nI p) i = some (if p < K 0 3 then 1 else 0) := by
  have := hK.1
  unfold fX1_hasSleeper
  simp (disch := omega) only [↓mz_lt, ↓mz_b1, ↓mz_b2, ↓mz_b3, mz_b1, mz_b2, mz_b3, mz_lt, mz_o0, mz_o1, nI_add, mz_mul, mz_sub, nI_clamp, mz_in, mz_le, mz_ltp, mz_eq, mz_nm, mz_mn, mz_ml, mz_mlt, mz_nl, mz_mle, qNN, q0, q1, q2, q3, q4, q5, q6, q7, q8, q9, q10, q11, q12, q13, q14, q15, q16, q17, q18, q19, q20, q21, q22, q23, q24, q25, q26, q27, q28, q29, q30, q31, q32, q33, q34, q35, q36, q37, q38, q39, q40, q41, q42, q43, q44, q45, q46, q47, q48, q49, q50, q51, q52, q53, q54, q55, q56, q57, q58, q59, q60, q61, q62, q63, q64, q65, q66, q67, q68, q69, q70, q71, q72, q73, q74, q75, q76, q77, q78, q79, q80, q81, q82, q83, q84, q85, q86, q87, q88, q89, q90, q91, q92, q93, q94, q95, q96, q97, q98, q99, q100, q101, q102, q103, q104, q105, q106, q107, q108, q109, q110, q111, q112, q113, q114, q115, q116, q117, q118, q119, q120, q121, q122, q123, q124, q125, q126, q127, q128, q129, q130, q240, q255, q256, q296, q400, q600, q896, q960, q999, q1000, q11544, q11840, q1000000, q1000000000, ↓reduceIte, h.1, Nat.not_lt_zero]
  by_cases h1 : p < K 0 3
  · simp (disch := omega) only [h1, if_pos, if_neg, ↓reduceIte, q0, q1, q2, q3, q4, q5, q6, q7, q8, q9, q10, q11, q12, q13, q14, q15, q16, q17, q18, q19, q20, q21, q22, q23, q24, q25, q26, q27, q28, q29, q30, q31, q32, q33, q34, q35, q36, q37, q38, q39, q40, q41, q42, q43, q44, q45, q46, q47, q48, q49, q50, q51, q52, q53, q54, q55, q56, q57, q58, q59, q60, q61, q62, q63, q64, q65, q66, q67, q68, q69, q70, q71, q72, q73, q74, q75, q76, q77, q78, q79, q80, q81, q82, q83, q84, q85, q86, q87, q88, q89, q90, q91, q92, q93, q94, q95, q96, q97, q98, q99, q100, q101, q102, q103, q104, q105, q106, q107, q108, q109, q110, q111, q112, q113, q114, q115, q116, q117, q118, q119, q120, q121, q122, q123, q124, q125, q126, q127, q128, q129, q130, q240, q255, q256, q296, q400, q600, q896, q960, q999, q1000, q11544, q11840, q1000000, q1000000000]
  · simp (disch := omega) only [h1, if_pos, if_neg, ↓reduceIte, q0, q1, q2, q3, q4, q5, q6, q7, q8, q9, q10, q11, q12, q13, q14, q15, q16, q17, q18, q19, q20, q21, q22, q23, q24, q25, q26, q27, q28, q29, q30, q31, q32, q33, q34, q35, q36, q37, q38, q39, q40, q41, q42, q43, q44, q45, q46, q47, q48, q49, q50, q51, q52, q53, q54, q55, q56, q57, q58, q59, q60, q61, q62, q63, q64, q65, q66, q67, q68, q69, q70, q71, q72, q73, q74, q75, q76, q77, q78, q79, q80, q81, q82, q83, q84, q85, q86, q87, q88, q89, q90, q91, q92, q93, q94, q95, q96, q97, q98, q99, q100, q101, q102, q103, q104, q105, q106, q107, q108, q109, q110, q111, q112, q113, q114, q115, q116, q117, q118, q119, q120, q121, q122, q123, q124, q125, q126, q127, q128, q129, q130, q240, q255, q256, q296, q400, q600, q896, q960, q999, q1000, q11544, q11840, q1000000, q1000000000]
theorem c_hasSleeper0 {a : Int32} (ha : a < nI 0) : fX1_hasSleeper q a i = some 0 := by
  unfold fX1_hasSleeper
  exact if_pos ha
theorem c_hasOfficer (h : CarC q K i) (hK : OkK K) (hp : p < 2 ^ 31) : fX1_hasOfficer q (nI p) i = some (if p < K 0 4 then 1 else 0) := by
  have := hK.2.1
  unfold fX1_hasOfficer
  simp (disch := omega) only [↓mz_lt, ↓mz_b1, ↓mz_b2, ↓mz_b3, mz_b1, mz_b2, mz_b3, mz_lt, mz_o0, mz_o1, nI_add, mz_mul, mz_sub, nI_clamp, mz_in, mz_le, mz_ltp, mz_eq, mz_nm, mz_mn, mz_ml, mz_mlt, mz_nl, mz_mle, qNN, q0, q1, q2, q3, q4, q5, q6, q7, q8, q9, q10, q11, q12, q13, q14, q15, q16, q17, q18, q19, q20, q21, q22, q23, q24, q25, q26, q27, q28, q29, q30, q31, q32, q33, q34, q35, q36, q37, q38, q39, q40, q41, q42, q43, q44, q45, q46, q47, q48, q49, q50, q51, q52, q53, q54, q55, q56, q57, q58, q59, q60, q61, q62, q63, q64, q65, q66, q67, q68, q69, q70, q71, q72, q73, q74, q75, q76, q77, q78, q79, q80, q81, q82, q83, q84, q85, q86, q87, q88, q89, q90, q91, q92, q93, q94, q95, q96, q97, q98, q99, q100, q101, q102, q103, q104, q105, q106, q107, q108, q109, q110, q111, q112, q113, q114, q115, q116, q117, q118, q119, q120, q121, q122, q123, q124, q125, q126, q127, q128, q129, q130, q240, q255, q256, q296, q400, q600, q896, q960, q999, q1000, q11544, q11840, q1000000, q1000000000, ↓reduceIte, h.2.1, Nat.not_lt_zero]
  by_cases h1 : p < K 0 4
  · simp (disch := omega) only [h1, if_pos, if_neg, ↓reduceIte, q0, q1, q2, q3, q4, q5, q6, q7, q8, q9, q10, q11, q12, q13, q14, q15, q16, q17, q18, q19, q20, q21, q22, q23, q24, q25, q26, q27, q28, q29, q30, q31, q32, q33, q34, q35, q36, q37, q38, q39, q40, q41, q42, q43, q44, q45, q46, q47, q48, q49, q50, q51, q52, q53, q54, q55, q56, q57, q58, q59, q60, q61, q62, q63, q64, q65, q66, q67, q68, q69, q70, q71, q72, q73, q74, q75, q76, q77, q78, q79, q80, q81, q82, q83, q84, q85, q86, q87, q88, q89, q90, q91, q92, q93, q94, q95, q96, q97, q98, q99, q100, q101, q102, q103, q104, q105, q106, q107, q108, q109, q110, q111, q112, q113, q114, q115, q116, q117, q118, q119, q120, q121, q122, q123, q124, q125, q126, q127, q128, q129, q130, q240, q255, q256, q296, q400, q600, q896, q960, q999, q1000, q11544, q11840, q1000000, q1000000000]
  · simp (disch := omega) only [h1, if_pos, if_neg, ↓reduceIte, q0, q1, q2, q3, q4, q5, q6, q7, q8, q9, q10, q11, q12, q13, q14, q15, q16, q17, q18, q19, q20, q21, q22, q23, q24, q25, q26, q27, q28, q29, q30, q31, q32, q33, q34, q35, q36, q37, q38, q39, q40, q41, q42, q43, q44, q45, q46, q47, q48, q49, q50, q51, q52, q53, q54, q55, q56, q57, q58, q59, q60, q61, q62, q63, q64, q65, q66, q67, q68, q69, q70, q71, q72, q73, q74, q75, q76, q77, q78, q79, q80, q81, q82, q83, q84, q85, q86, q87, q88, q89, q90, q91, q92, q93, q94, q95, q96, q97, q98, q99, q100, q101, q102, q103, q104, q105, q106, q107, q108, q109, q110, q111, q112, q113, q114, q115, q116, q117, q118, q119, q120, q121, q122, q123, q124, q125, q126, q127, q128, q129, q130, q240, q255, q256, q296, q400, q600, q896, q960, q999, q1000, q11544, q11840, q1000000, q1000000000]
theorem c_hasOfficer0 {a : Int32} (ha : a < nI 0) : fX1_hasOfficer q a i = some 0 := by
  unfold fX1_hasOfficer
  exact if_pos ha
theorem c_ofSleeper (h : CarC q K i) (hp : p < 9) (hk : k < 6) : fX1_ofSleeper q (nI p) (nI k) i = some (nI (sv K p k)) := by
  unfold fX1_ofSleeper sv
  simp (disch := omega) only [↓mz_lt, ↓mz_b1, ↓mz_b2, ↓mz_b3, mz_b1, mz_b2, mz_b3, mz_lt, mz_o0, mz_o1, nI_add, mz_mul, mz_sub, nI_clamp, mz_in, mz_le, mz_ltp, mz_eq, mz_nm, mz_mn, mz_ml, mz_mlt, mz_nl, mz_mle, qNN, q0, q1, q2, q3, q4, q5, q6, q7, q8, q9, q10, q11, q12, q13, q14, q15, q16, q17, q18, q19, q20, q21, q22, q23, q24, q25, q26, q27, q28, q29, q30, q31, q32, q33, q34, q35, q36, q37, q38, q39, q40, q41, q42, q43, q44, q45, q46, q47, q48, q49, q50, q51, q52, q53, q54, q55, q56, q57, q58, q59, q60, q61, q62, q63, q64, q65, q66, q67, q68, q69, q70, q71, q72, q73, q74, q75, q76, q77, q78, q79, q80, q81, q82, q83, q84, q85, q86, q87, q88, q89, q90, q91, q92, q93, q94, q95, q96, q97, q98, q99, q100, q101, q102, q103, q104, q105, q106, q107, q108, q109, q110, q111, q112, q113, q114, q115, q116, q117, q118, q119, q120, q121, q122, q123, q124, q125, q126, q127, q128, q129, q130, q240, q255, q256, q296, q400, q600, q896, q960, q999, q1000, q11544, q11840, q1000000, q1000000000, ↓reduceIte, h.2.2.2.2.1, Nat.mul_comm p 6]
theorem c_ofOfficer (h : CarC q K i) (hp : o < 4) (hk : k < 4) : fX1_ofOfficer q (nI o) (nI k) i = some (nI (ov K o k)) := by
  unfold fX1_ofOfficer ov
  simp (disch := omega) only [↓mz_lt, ↓mz_b1, ↓mz_b2, ↓mz_b3, mz_b1, mz_b2, mz_b3, mz_lt, mz_o0, mz_o1, nI_add, mz_mul, mz_sub, nI_clamp, mz_in, mz_le, mz_ltp, mz_eq, mz_nm, mz_mn, mz_ml, mz_mlt, mz_nl, mz_mle, qNN, q0, q1, q2, q3, q4, q5, q6, q7, q8, q9, q10, q11, q12, q13, q14, q15, q16, q17, q18, q19, q20, q21, q22, q23, q24, q25, q26, q27, q28, q29, q30, q31, q32, q33, q34, q35, q36, q37, q38, q39, q40, q41, q42, q43, q44, q45, q46, q47, q48, q49, q50, q51, q52, q53, q54, q55, q56, q57, q58, q59, q60, q61, q62, q63, q64, q65, q66, q67, q68, q69, q70, q71, q72, q73, q74, q75, q76, q77, q78, q79, q80, q81, q82, q83, q84, q85, q86, q87, q88, q89, q90, q91, q92, q93, q94, q95, q96, q97, q98, q99, q100, q101, q102, q103, q104, q105, q106, q107, q108, q109, q110, q111, q112, q113, q114, q115, q116, q117, q118, q119, q120, q121, q122, q123, q124, q125, q126, q127, q128, q129, q130, q240, q255, q256, q296, q400, q600, q896, q960, q999, q1000, q11544, q11840, q1000000, q1000000000, ↓reduceIte, h.2.2.2.2.2, Nat.mul_comm o 4]
theorem c_ruleOf (h : CarC q K i) (hk : k < 4) : fX1_ruleOf q (nI k) i = some (nI (K 1 k)) := by
  unfold fX1_ruleOf
  simp (disch := omega) only [↓mz_lt, ↓mz_b1, ↓mz_b2, ↓mz_b3, mz_b1, mz_b2, mz_b3, mz_lt, mz_o0, mz_o1, nI_add, mz_mul, mz_sub, nI_clamp, mz_in, mz_le, mz_ltp, mz_eq, mz_nm, mz_mn, mz_ml, mz_mlt, mz_nl, mz_mle, qNN, q0, q1, q2, q3, q4, q5, q6, q7, q8, q9, q10, q11, q12, q13, q14, q15, q16, q17, q18, q19, q20, q21, q22, q23, q24, q25, q26, q27, q28, q29, q30, q31, q32, q33, q34, q35, q36, q37, q38, q39, q40, q41, q42, q43, q44, q45, q46, q47, q48, q49, q50, q51, q52, q53, q54, q55, q56, q57, q58, q59, q60, q61, q62, q63, q64, q65, q66, q67, q68, q69, q70, q71, q72, q73, q74, q75, q76, q77, q78, q79, q80, q81, q82, q83, q84, q85, q86, q87, q88, q89, q90, q91, q92, q93, q94, q95, q96, q97, q98, q99, q100, q101, q102, q103, q104, q105, q106, q107, q108, q109, q110, q111, q112, q113, q114, q115, q116, q117, q118, q119, q120, q121, q122, q123, q124, q125, q126, q127, q128, q129, q130, q240, q255, q256, q296, q400, q600, q896, q960, q999, q1000, q11544, q11840, q1000000, q1000000000, ↓reduceIte, h.2.2.2.1]
end CG
/-! a scene's getters -/
section SG
variable {i : Tb} {K : Nat → Nat → Nat} {σ : Nat → Nat} {q p r k b : Nat}
theorem s_berthOf (h : ScC σ (i (q + 1))) (hp : p < 9) : fX8_berthOf q (nI p) i = some (nI (σ p)) := by
  unfold fX8_berthOf
  simp (disch := omega) only [↓mz_lt, ↓mz_b1, ↓mz_b2, ↓mz_b3, mz_b1, mz_b2, mz_b3, mz_lt, mz_o0, mz_o1, nI_add, mz_mul, mz_sub, nI_clamp, mz_in, mz_le, mz_ltp, mz_eq, mz_nm, mz_mn, mz_ml, mz_mlt, mz_nl, mz_mle, qNN, q0, q1, q2, q3, q4, q5, q6, q7, q8, q9, q10, q11, q12, q13, q14, q15, q16, q17, q18, q19, q20, q21, q22, q23, q24, q25, q26, q27, q28, q29, q30, q31, q32, q33, q34, q35, q36, q37, q38, q39, q40, q41, q42, q43, q44, q45, q46, q47, q48, q49, q50, q51, q52, q53, q54, q55, q56, q57, q58, q59, q60, q61, q62, q63, q64, q65, q66, q67, q68, q69, q70, q71, q72, q73, q74, q75, q76, q77, q78, q79, q80, q81, q82, q83, q84, q85, q86, q87, q88, q89, q90, q91, q92, q93, q94, q95, q96, q97, q98, q99, q100, q101, q102, q103, q104, q105, q106, q107, q108, q109, q110, q111, q112, q113, q114, q115, q116, q117, q118, q119, q120, q121, q122, q123, q124, q125, q126, q127, q128, q129, q130, q240, q255, q256, q296, q400, q600, q896, q960, q999, q1000, q11544, q11840, q1000000, q1000000000, ↓reduceIte, h _ _, Nat.zero_add]
theorem s_inDrawer (h : ScC σ (i (q + 1))) (hp : p < 9) : fX8_inDrawer q (nI p) i = some (nI (σ (9 + p))) := by
  unfold fX8_inDrawer
  simp (disch := omega) only [↓mz_lt, ↓mz_b1, ↓mz_b2, ↓mz_b3, mz_b1, mz_b2, mz_b3, mz_lt, mz_o0, mz_o1, nI_add, mz_mul, mz_sub, nI_clamp, mz_in, mz_le, mz_ltp, mz_eq, mz_nm, mz_mn, mz_ml, mz_mlt, mz_nl, mz_mle, qNN, q0, q1, q2, q3, q4, q5, q6, q7, q8, q9, q10, q11, q12, q13, q14, q15, q16, q17, q18, q19, q20, q21, q22, q23, q24, q25, q26, q27, q28, q29, q30, q31, q32, q33, q34, q35, q36, q37, q38, q39, q40, q41, q42, q43, q44, q45, q46, q47, q48, q49, q50, q51, q52, q53, q54, q55, q56, q57, q58, q59, q60, q61, q62, q63, q64, q65, q66, q67, q68, q69, q70, q71, q72, q73, q74, q75, q76, q77, q78, q79, q80, q81, q82, q83, q84, q85, q86, q87, q88, q89, q90, q91, q92, q93, q94, q95, q96, q97, q98, q99, q100, q101, q102, q103, q104, q105, q106, q107, q108, q109, q110, q111, q112, q113, q114, q115, q116, q117, q118, q119, q120, q121, q122, q123, q124, q125, q126, q127, q128, q129, q130, q240, q255, q256, q296, q400, q600, q896, q960, q999, q1000, q11544, q11840, q1000000, q1000000000, ↓reduceIte, h _ _]
theorem s_saidFor (h : ScC σ (i (q + 1))) (hp : p < 9) : fX8_saidFor q (nI p) i = some (nI (σ (18 + p))) := by
  unfold fX8_saidFor
  simp (disch := omega) only [↓mz_lt, ↓mz_b1, ↓mz_b2, ↓mz_b3, mz_b1, mz_b2, mz_b3, mz_lt, mz_o0, mz_o1, nI_add, mz_mul, mz_sub, nI_clamp, mz_in, mz_le, mz_ltp, mz_eq, mz_nm, mz_mn, mz_ml, mz_mlt, mz_nl, mz_mle, qNN, q0, q1, q2, q3, q4, q5, q6, q7, q8, q9, q10, q11, q12, q13, q14, q15, q16, q17, q18, q19, q20, q21, q22, q23, q24, q25, q26, q27, q28, q29, q30, q31, q32, q33, q34, q35, q36, q37, q38, q39, q40, q41, q42, q43, q44, q45, q46, q47, q48, q49, q50, q51, q52, q53, q54, q55, q56, q57, q58, q59, q60, q61, q62, q63, q64, q65, q66, q67, q68, q69, q70, q71, q72, q73, q74, q75, q76, q77, q78, q79, q80, q81, q82, q83, q84, q85, q86, q87, q88, q89, q90, q91, q92, q93, q94, q95, q96, q97, q98, q99, q100, q101, q102, q103, q104, q105, q106, q107, q108, q109, q110, q111, q112, q113, q114, q115, q116, q117, q118, q119, q120, q121, q122, q123, q124, q125, q126, q127, q128, q129, q130, q240, q255, q256, q296, q400, q600, q896, q960, q999, q1000, q11544, q11840, q1000000, q1000000000, ↓reduceIte, h _ _]
theorem s_timesWoken (h : ScC σ (i (q + 1))) (hp : p < 9) : fX8_timesWoken q (nI p) i = some (nI (σ (36 + p))) := by
  unfold fX8_timesWoken
  simp (disch := omega) only [↓mz_lt, ↓mz_b1, ↓mz_b2, ↓mz_b3, mz_b1, mz_b2, mz_b3, mz_lt, mz_o0, mz_o1, nI_add, mz_mul, mz_sub, nI_clamp, mz_in, mz_le, mz_ltp, mz_eq, mz_nm, mz_mn, mz_ml, mz_mlt, mz_nl, mz_mle, qNN, q0, q1, q2, q3, q4, q5, q6, q7, q8, q9, q10, q11, q12, q13, q14, q15, q16, q17, q18, q19, q20, q21, q22, q23, q24, q25, q26, q27, q28, q29, q30, q31, q32, q33, q34, q35, q36, q37, q38, q39, q40, q41, q42, q43, q44, q45, q46, q47, q48, q49, q50, q51, q52, q53, q54, q55, q56, q57, q58, q59, q60, q61, q62, q63, q64, q65, q66, q67, q68, q69, q70, q71, q72, q73, q74, q75, q76, q77, q78, q79, q80, q81, q82, q83, q84, q85, q86, q87, q88, q89, q90, q91, q92, q93, q94, q95, q96, q97, q98, q99, q100, q101, q102, q103, q104, q105, q106, q107, q108, q109, q110, q111, q112, q113, q114, q115, q116, q117, q118, q119, q120, q121, q122, q123, q124, q125, q126, q127, q128, q129, q130, q240, q255, q256, q296, q400, q600, q896, q960, q999, q1000, q11544, q11840, q1000000, q1000000000, ↓reduceIte, h _ _]
theorem s_lostBy (h : ScC σ (i (q + 1))) (hp : p < 9) : fX8_lostBy q (nI p) i = some (nI (σ (45 + p))) := by
  unfold fX8_lostBy
  simp (disch := omega) only [↓mz_lt, ↓mz_b1, ↓mz_b2, ↓mz_b3, mz_b1, mz_b2, mz_b3, mz_lt, mz_o0, mz_o1, nI_add, mz_mul, mz_sub, nI_clamp, mz_in, mz_le, mz_ltp, mz_eq, mz_nm, mz_mn, mz_ml, mz_mlt, mz_nl, mz_mle, qNN, q0, q1, q2, q3, q4, q5, q6, q7, q8, q9, q10, q11, q12, q13, q14, q15, q16, q17, q18, q19, q20, q21, q22, q23, q24, q25, q26, q27, q28, q29, q30, q31, q32, q33, q34, q35, q36, q37, q38, q39, q40, q41, q42, q43, q44, q45, q46, q47, q48, q49, q50, q51, q52, q53, q54, q55, q56, q57, q58, q59, q60, q61, q62, q63, q64, q65, q66, q67, q68, q69, q70, q71, q72, q73, q74, q75, q76, q77, q78, q79, q80, q81, q82, q83, q84, q85, q86, q87, q88, q89, q90, q91, q92, q93, q94, q95, q96, q97, q98, q99, q100, q101, q102, q103, q104, q105, q106, q107, q108, q109, q110, q111, q112, q113, q114, q115, q116, q117, q118, q119, q120, q121, q122, q123, q124, q125, q126, q127, q128, q129, q130, q240, q255, q256, q296, q400, q600, q896, q960, q999, q1000, q11544, q11840, q1000000, q1000000000, ↓reduceIte, h _ _]
theorem s_coffees (h : ScC σ (i (q + 1))) : fX8_coffees q i = some (nI (σ 54)) := by
  unfold fX8_coffees
  simp (disch := omega) only [↓mz_lt, ↓mz_b1, ↓mz_b2, ↓mz_b3, mz_b1, mz_b2, mz_b3, mz_lt, mz_o0, mz_o1, nI_add, mz_mul, mz_sub, nI_clamp, mz_in, mz_le, mz_ltp, mz_eq, mz_nm, mz_mn, mz_ml, mz_mlt, mz_nl, mz_mle, qNN, q0, q1, q2, q3, q4, q5, q6, q7, q8, q9, q10, q11, q12, q13, q14, q15, q16, q17, q18, q19, q20, q21, q22, q23, q24, q25, q26, q27, q28, q29, q30, q31, q32, q33, q34, q35, q36, q37, q38, q39, q40, q41, q42, q43, q44, q45, q46, q47, q48, q49, q50, q51, q52, q53, q54, q55, q56, q57, q58, q59, q60, q61, q62, q63, q64, q65, q66, q67, q68, q69, q70, q71, q72, q73, q74, q75, q76, q77, q78, q79, q80, q81, q82, q83, q84, q85, q86, q87, q88, q89, q90, q91, q92, q93, q94, q95, q96, q97, q98, q99, q100, q101, q102, q103, q104, q105, q106, q107, q108, q109, q110, q111, q112, q113, q114, q115, q116, q117, q118, q119, q120, q121, q122, q123, q124, q125, q126, q127, q128, q129, q130, q240, q255, q256, q296, q400, q600, q896, q960, q999, q1000, q11544, q11840, q1000000, q1000000000, ↓reduceIte, h _ _]
theorem s_borders (h : ScC σ (i (q + 1))) : fX8_borders q i = some (nI (σ 55)) := by
  unfold fX8_borders
  simp (disch := omega) only [↓mz_lt, ↓mz_b1, ↓mz_b2, ↓mz_b3, mz_b1, mz_b2, mz_b3, mz_lt, mz_o0, mz_o1, nI_add, mz_mul, mz_sub, nI_clamp, mz_in, mz_le, mz_ltp, mz_eq, mz_nm, mz_mn, mz_ml, mz_mlt, mz_nl, mz_mle, qNN, q0, q1, q2, q3, q4, q5, q6, q7, q8, q9, q10, q11, q12, q13, q14, q15, q16, q17, q18, q19, q20, q21, q22, q23, q24, q25, q26, q27, q28, q29, q30, q31, q32, q33, q34, q35, q36, q37, q38, q39, q40, q41, q42, q43, q44, q45, q46, q47, q48, q49, q50, q51, q52, q53, q54, q55, q56, q57, q58, q59, q60, q61, q62, q63, q64, q65, q66, q67, q68, q69, q70, q71, q72, q73, q74, q75, q76, q77, q78, q79, q80, q81, q82, q83, q84, q85, q86, q87, q88, q89, q90, q91, q92, q93, q94, q95, q96, q97, q98, q99, q100, q101, q102, q103, q104, q105, q106, q107, q108, q109, q110, q111, q112, q113, q114, q115, q116, q117, q118, q119, q120, q121, q122, q123, q124, q125, q126, q127, q128, q129, q130, q240, q255, q256, q296, q400, q600, q896, q960, q999, q1000, q11544, q11840, q1000000, q1000000000, ↓reduceIte, h _ _]
theorem s_isAsleep (h : ScC σ (i (q + 1))) (hb : OkS K b σ) (hp : p < 9) : fX8_isAsleep q (nI p) i = some (nI (σ (27 + p))) := by
  have h1 := (hb.2.2.2.2.2.2.1 p hp).1
  unfold fX8_isAsleep
  simp (disch := omega) only [↓mz_lt, ↓mz_b1, ↓mz_b2, ↓mz_b3, mz_b1, mz_b2, mz_b3, mz_lt, mz_o0, mz_o1, nI_add, mz_mul, mz_sub, nI_clamp, mz_in, mz_le, mz_ltp, mz_eq, mz_nm, mz_mn, mz_ml, mz_mlt, mz_nl, mz_mle, qNN, q0, q1, q2, q3, q4, q5, q6, q7, q8, q9, q10, q11, q12, q13, q14, q15, q16, q17, q18, q19, q20, q21, q22, q23, q24, q25, q26, q27, q28, q29, q30, q31, q32, q33, q34, q35, q36, q37, q38, q39, q40, q41, q42, q43, q44, q45, q46, q47, q48, q49, q50, q51, q52, q53, q54, q55, q56, q57, q58, q59, q60, q61, q62, q63, q64, q65, q66, q67, q68, q69, q70, q71, q72, q73, q74, q75, q76, q77, q78, q79, q80, q81, q82, q83, q84, q85, q86, q87, q88, q89, q90, q91, q92, q93, q94, q95, q96, q97, q98, q99, q100, q101, q102, q103, q104, q105, q106, q107, q108, q109, q110, q111, q112, q113, q114, q115, q116, q117, q118, q119, q120, q121, q122, q123, q124, q125, q126, q127, q128, q129, q130, q240, q255, q256, q296, q400, q600, q896, q960, q999, q1000, q11544, q11840, q1000000, q1000000000, ↓reduceIte, h _ _]
  by_cases h2 : σ (27 + p) = 1
  · simp only [h2, ↓reduceIte]
  · have h3 : σ (27 + p) = 0 := by omega
    simp only [h3, ↓reduceIte, show ¬ (0 : Nat) = 1 by omega]
def sumTo (f : Nat → Nat) : Nat → Nat
  | 0 => 0
  | n + 1 => sumTo f n + f n
theorem s_sumFrom_4 (h : ScC σ (i (q + 1))) (hk : k ≤ 47) : ∀ n r, r ≤ 9 → 9 - r < n → fX8_sumFrom_4 q n (nI k) (nI (sumTo (fun z => σ (k + z)) r)) (nI r) i = some (nI (sumTo (fun z => σ (k + z)) 9)) := by
  intro n
  induction n with
  | zero => intro r h1 h2; omega
  | succ n ih =>
    intro r h1 h2
    rw [fX8_sumFrom_4]
    simp (disch := omega) only [↓mz_lt, ↓mz_b1, ↓mz_b2, ↓mz_b3, mz_b1, mz_b2, mz_b3, mz_lt, mz_o0, mz_o1, nI_add, mz_mul, mz_sub, nI_clamp, mz_in, mz_le, mz_ltp, mz_eq, mz_nm, mz_mn, mz_ml, mz_mlt, mz_nl, mz_mle, qNN, q0, q1, q2, q3, q4, q5, q6, q7, q8, q9, q10, q11, q12, q13, q14, q15, q16, q17, q18, q19, q20, q21, q22, q23, q24, q25, q26, q27, q28, q29, q30, q31, q32, q33, q34, q35, q36, q37, q38, q39, q40, q41, q42, q43, q44, q45, q46, q47, q48, q49, q50, q51, q52, q53, q54, q55, q56, q57, q58, q59, q60, q61, q62, q63, q64, q65, q66, q67, q68, q69, q70, q71, q72, q73, q74, q75, q76, q77, q78, q79, q80, q81, q82, q83, q84, q85, q86, q87, q88, q89, q90, q91, q92, q93, q94, q95, q96, q97, q98, q99, q100, q101, q102, q103, q104, q105, q106, q107, q108, q109, q110, q111, q112, q113, q114, q115, q116, q117, q118, q119, q120, q121, q122, q123, q124, q125, q126, q127, q128, q129, q130, q240, q255, q256, q296, q400, q600, q896, q960, q999, q1000, q11544, q11840, q1000000, q1000000000, ↓reduceIte, h _ _]
    by_cases h3 : r = 9
    · subst h3
      rw [if_pos (by omega)]
    · rw [if_neg (by omega)]
      exact ih (r + 1) (by omega) (by omega)
theorem s_sumFrom (h : ScC σ (i (q + 1))) (hk : k ≤ 47) : fX8_sumFrom q (nI k) i = some (nI (sumTo (fun z => σ (k + z)) 9)) := s_sumFrom_4 h hk fuel 0 (by omega) (by decide)
theorem s_asleepInAll (h : ScC σ (i (q + 1))) : fX8_asleepInAll q i = some (nI (sumTo (fun z => σ (27 + z)) 9)) := by
  unfold fX8_asleepInAll
  rw [q27, s_sumFrom h (by omega)]
  rfl
theorem s_lostInAll (h : ScC σ (i (q + 1))) : fX8_lostInAll q i = some (nI (sumTo (fun z => σ (45 + z)) 9)) := by
  unfold fX8_lostInAll
  rw [q45, s_sumFrom h (by omega)]
  rfl
/-- the place in the drawer: the first found -/
theorem s_placeOf_2 (h : ScC σ (i (q + 1))) (hb : OkS K b σ) (hK : OkK K) (hr : r < K 0 5) : ∀ n k, k ≤ r → r - k < n → fX8_placeOf_2 q n (nI (σ (9 + r))) (nI (K 0 5)) (nI k) i = some (nI r) := by
  have h9 := hK.1
  have h5 := hK.2.2.1
  intro n
  induction n with
  | zero => intro k h1 h2; omega
  | succ n ih =>
    intro k h1 h2
    rw [fX8_placeOf_2]
    have hd := (hb.2.2.1 r hr).1
    have hd2 := (hb.2.2.1 k (by omega)).1
    simp (disch := omega) only [↓mz_lt, ↓mz_b1, ↓mz_b2, ↓mz_b3, mz_b1, mz_b2, mz_b3, mz_lt, mz_o0, mz_o1, nI_add, mz_mul, mz_sub, nI_clamp, mz_in, mz_le, mz_ltp, mz_eq, mz_nm, mz_mn, mz_ml, mz_mlt, mz_nl, mz_mle, qNN, q0, q1, q2, q3, q4, q5, q6, q7, q8, q9, q10, q11, q12, q13, q14, q15, q16, q17, q18, q19, q20, q21, q22, q23, q24, q25, q26, q27, q28, q29, q30, q31, q32, q33, q34, q35, q36, q37, q38, q39, q40, q41, q42, q43, q44, q45, q46, q47, q48, q49, q50, q51, q52, q53, q54, q55, q56, q57, q58, q59, q60, q61, q62, q63, q64, q65, q66, q67, q68, q69, q70, q71, q72, q73, q74, q75, q76, q77, q78, q79, q80, q81, q82, q83, q84, q85, q86, q87, q88, q89, q90, q91, q92, q93, q94, q95, q96, q97, q98, q99, q100, q101, q102, q103, q104, q105, q106, q107, q108, q109, q110, q111, q112, q113, q114, q115, q116, q117, q118, q119, q120, q121, q122, q123, q124, q125, q126, q127, q128, q129, q130, q240, q255, q256, q296, q400, q600, q896, q960, q999, q1000, q11544, q11840, q1000000, q1000000000, ↓reduceIte, h _ _, if_pos, if_neg, ↓reduceIte]
    by_cases h3 : k = r
    · subst h3
      simp only [↓reduceIte]
    · have h4 : ¬ σ (9 + k) = σ (9 + r) := fun e => h3 (hb.2.2.2.1 k r (by omega) hr e)
      simp only [h4, ↓reduceIte]
      exact ih (k + 1) (by omega) (by omega)
theorem s_placeOf (h : ScC σ (i (q + 1))) (hb : OkS K b σ) (hK : OkK K) (hr : r < K 0 5) : fX8_placeOf q (nI (σ (9 + r))) (nI (K 0 5)) i = some (nI r) := s_placeOf_2 h hb hK hr fuel 0 (by omega) (by have h9 := hK.1; have h5 := hK.2.2.1; show r - 0 < 30000; omega)
theorem s_placeOf_n (h : ScC σ (i (q + 1))) (hb : OkS K b σ) (hK : OkK K) (hp : p < K 0 3) (hc : sv K p 5 = 1) : ∀ n k, k ≤ K 0 5 → K 0 5 - k < n → fX8_placeOf_2 q n (nI p) (nI (K 0 5)) (nI k) i = some NN := by
  have h9 := hK.1
  have h5 := hK.2.2.1
  intro n
  induction n with
  | zero => intro k h1 h2; omega
  | succ n ih =>
    intro k h1 h2
    rw [fX8_placeOf_2]
    by_cases h3 : k = K 0 5
    · subst h3
      simp (disch := omega) only [↓mz_lt, ↓mz_b1, ↓mz_b2, ↓mz_b3, mz_b1, mz_b2, mz_b3, mz_lt, mz_o0, mz_o1, nI_add, mz_mul, mz_sub, nI_clamp, mz_in, mz_le, mz_ltp, mz_eq, mz_nm, mz_mn, mz_ml, mz_mlt, mz_nl, mz_mle, qNN, q0, q1, q2, q3, q4, q5, q6, q7, q8, q9, q10, q11, q12, q13, q14, q15, q16, q17, q18, q19, q20, q21, q22, q23, q24, q25, q26, q27, q28, q29, q30, q31, q32, q33, q34, q35, q36, q37, q38, q39, q40, q41, q42, q43, q44, q45, q46, q47, q48, q49, q50, q51, q52, q53, q54, q55, q56, q57, q58, q59, q60, q61, q62, q63, q64, q65, q66, q67, q68, q69, q70, q71, q72, q73, q74, q75, q76, q77, q78, q79, q80, q81, q82, q83, q84, q85, q86, q87, q88, q89, q90, q91, q92, q93, q94, q95, q96, q97, q98, q99, q100, q101, q102, q103, q104, q105, q106, q107, q108, q109, q110, q111, q112, q113, q114, q115, q116, q117, q118, q119, q120, q121, q122, q123, q124, q125, q126, q127, q128, q129, q130, q240, q255, q256, q296, q400, q600, q896, q960, q999, q1000, q11544, q11840, q1000000, q1000000000, ↓reduceIte, if_pos, if_neg, ↓reduceIte]
    · have hd := hb.2.2.1 k (by omega)
      have h4 : ¬ σ (9 + k) = p := fun e => by rw [e] at hd; omega
      simp (disch := omega) only [↓mz_lt, ↓mz_b1, ↓mz_b2, ↓mz_b3, mz_b1, mz_b2, mz_b3, mz_lt, mz_o0, mz_o1, nI_add, mz_mul, mz_sub, nI_clamp, mz_in, mz_le, mz_ltp, mz_eq, mz_nm, mz_mn, mz_ml, mz_mlt, mz_nl, mz_mle, qNN, q0, q1, q2, q3, q4, q5, q6, q7, q8, q9, q10, q11, q12, q13, q14, q15, q16, q17, q18, q19, q20, q21, q22, q23, q24, q25, q26, q27, q28, q29, q30, q31, q32, q33, q34, q35, q36, q37, q38, q39, q40, q41, q42, q43, q44, q45, q46, q47, q48, q49, q50, q51, q52, q53, q54, q55, q56, q57, q58, q59, q60, q61, q62, q63, q64, q65, q66, q67, q68, q69, q70, q71, q72, q73, q74, q75, q76, q77, q78, q79, q80, q81, q82, q83, q84, q85, q86, q87, q88, q89, q90, q91, q92, q93, q94, q95, q96, q97, q98, q99, q100, q101, q102, q103, q104, q105, q106, q107, q108, q109, q110, q111, q112, q113, q114, q115, q116, q117, q118, q119, q120, q121, q122, q123, q124, q125, q126, q127, q128, q129, q130, q240, q255, q256, q296, q400, q600, q896, q960, q999, q1000, q11544, q11840, q1000000, q1000000000, ↓reduceIte, h _ _, if_pos, if_neg, ↓reduceIte, h4]
      exact ih (k + 1) (by omega) (by omega)
end SG
