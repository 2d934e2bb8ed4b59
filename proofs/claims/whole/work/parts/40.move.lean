/-! a paper is moved in the drawer -/
def pm (r q x : Nat) : Nat := if x = q then r else if r ≤ x ∧ x < q then x + 1 else if q < x ∧ x ≤ r then x - 1 else x
def np (r q y : Nat) : Nat := if r < y ∧ y ≤ q then y - 1 else if q ≤ y ∧ y < r then y + 1 else y
def mvS (σ : Nat → Nat) (r q : Nat) : Nat → Nat := fun k => if 9 ≤ k ∧ k < 18 then σ (9 + pm r q (k - 9)) else σ k
theorem mz_prd (k : Nat) : nI (k + 1) + (-1) = nI k := by
  rw [nI_succ, Int32.add_assoc, show (1 + -1 : Int32) = 0 from by decide, Int32.add_zero]
theorem fuel_s : ∃ n, fuel = n + 1 ∧ 29000 ≤ n := ⟨29999, rfl, by omega⟩
theorem fuel_g : ∃ n, fuel = n ∧ 29000 ≤ n := ⟨30000, rfl, by omega⟩
section MV
variable {i i' j : Tb} {K g : Nat → Nat → Nat} {σ : Nat → Nat} {q p o k b d t w v n r : Nat}
theorem mvS_d (hx : k < 9) : mvS σ r q (9 + k) = σ (9 + pm r q k) := by
  unfold mvS
  rw [if_pos (by omega), show 9 + k - 9 = k by omega]
theorem mvS_o (hx : k < 9 ∨ 18 ≤ k) : mvS σ r q k = σ k := if_neg (by omega)
theorem pm_lt {m : Nat} (hr : r < m) (hq : q < m) (hx : k < m) : pm r q k < m := by
  unfold pm
  repeat' split
  all_goals omega
theorem pm_inj {x y : Nat} (h : pm r q x = pm r q y) : x = y := by
  unfold pm at h
  repeat' split at h
  all_goals omega
theorem pm_np {y : Nat} (h : y ≠ r) : pm r q (np r q y) = y := by
  unfold pm np
  repeat' split
  all_goals omega
theorem np_pm {x : Nat} (h : x ≠ q) : np r q (pm r q x) = x := by
  unfold pm np
  repeat' split
  all_goals omega
theorem np_lt {m : Nat} (hr : r < m) (hq : q < m) (hx : k < m) : np r q k < m := by
  unfold np
  repeat' split
  all_goals omega
theorem OkS_mv (hK : OkK K) (hb : OkS K b σ) (hr : r < K 0 5) (hq : q < K 0 5) : OkS K b (mvS σ r q) := by
  have hm := hK.1
  have h5 := hK.2.2.1
  obtain ⟨a1, a2, a3, a4, a5, a6, a7, a8, a9, a10⟩ := hb
  refine ⟨fun x hx => ?_, fun x y hx hy => ?_, fun x hx => ?_, fun x y hx hy => ?_, fun x hx hx2 => ?_, fun x hx => ?_, fun x hx => ?_, fun x hx hx2 => ?_, ?_, ?_⟩
  · simp (disch := omega) only [mvS_o]; exact a1 x hx
  · simp (disch := omega) only [mvS_o]; exact a2 x y hx hy
  · rw [mvS_d (by omega)]; exact a3 _ (pm_lt hr hq hx)
  · rw [mvS_d (by omega), mvS_d (by omega)]
    intro e
    exact pm_inj (a4 _ _ (pm_lt hr hq hx) (pm_lt hr hq hy) e)
  · obtain ⟨y, hy, e⟩ := a5 x hx hx2
    by_cases h1 : y = r
    · refine ⟨q, hq, ?_⟩
      rw [mvS_d (by omega), show pm r q q = r from if_pos rfl, ← h1]
      exact e
    · refine ⟨np r q y, np_lt hr hq hy, ?_⟩
      rw [mvS_d (by have := np_lt hr hq hy; omega), pm_np h1]
      exact e
  · simp (disch := omega) only [mvS_o]; exact a6 x hx
  · simp (disch := omega) only [mvS_o]; exact a7 x hx
  · simp (disch := omega) only [mvS_o]; exact a8 x hx hx2
  · simp (disch := omega) only [mvS_o]; exact a9
  · simp (disch := omega) only [mvS_o]; exact a10
/-! the class shifts the papers between -/
def sh1 (σ : Nat → Nat) (r z : Nat) : Nat → Nat := fun k => if 9 + r ≤ k ∧ k < 9 + z then σ (k + 1) else σ k
def sh2 (σ : Nat → Nat) (r z : Nat) : Nat → Nat := fun k => if 9 + z < k ∧ k ≤ 9 + r then σ (k - 1) else σ k
theorem sh1_up (h : r ≤ k) : up (sh1 σ r k) (9 + k) (σ (9 + k + 1)) = sh1 σ r (k + 1) := by
  funext x
  unfold up sh1
  by_cases e : x = 9 + k
  · subst e
    rw [if_pos rfl, if_pos (by omega)]
  · rw [if_neg e]
    by_cases e2 : 9 + r ≤ x ∧ x < 9 + k
    · rw [if_pos e2, if_pos (by omega)]
    · rw [if_neg e2, if_neg (by omega)]
theorem sh2_up (h : k < r) : up (sh2 σ r (k + 1)) (9 + (k + 1)) (σ (9 + k)) = sh2 σ r k := by
  funext x
  unfold up sh2
  by_cases e : x = 9 + (k + 1)
  · subst e
    rw [if_pos rfl, if_pos (by omega)]
    rfl
  · rw [if_neg e]
    by_cases e2 : 9 + (k + 1) < x ∧ x ≤ 9 + r
    · rw [if_pos e2, if_pos (by omega)]
    · rw [if_neg e2, if_neg (by omega)]
theorem c_shift2 (hq : q ≤ r) (hr : r < 9) : ∀ n k i', q ≤ k → k ≤ r → k - q < n → ScC (sh2 σ r k) (i' (p + 1)) → ∃ i'', fX8_shiftPaper_50 p n (nI q) (nI v) (nI k) i' = some i'' ∧ ScC (up (sh2 σ r q) (9 + q) v) (i'' (p + 1)) ∧ Fr [p + 1] i' i'' := by
  intro n
  induction n with
  | zero => intro k i' h1 h2 h3; omega
  | succ n ih =>
    intro k i' h1 h2 h3 hs
    rw [fX8_shiftPaper_50]
    by_cases h4 : k = q
    · subst h4
      simp (disch := omega) only [↓mz_lt, ↓mz_b1, ↓mz_b2, ↓mz_b3, mz_b1, mz_b2, mz_b3, mz_lt, mz_o0, mz_o1, nI_add, mz_mul, mz_sub, nI_clamp, mz_in, mz_le, mz_ltp, mz_eq, mz_nm, mz_mn, mz_ml, mz_mlt, mz_nl, mz_mle, qNN, q0, q1, q2, q3, q4, q5, q6, q7, q8, q9, q10, q11, q12, q13, q14, q15, q16, q17, q18, q19, q20, q21, q22, q23, q24, q25, q26, q27, q28, q29, q30, q31, q32, q33, q34, q35, q36, q37, q38, q39, q40, q41, q42, q43, q44, q45, q46, q47, q48, q49, q50, q51, q52, q53, q54, q55, q56, q57, q58, q59, q60, q61, q62, q63, q64, q65, q66, q67, q68, q69, q70, q71, q72, q73, q74, q75, q76, q77, q78, q79, q80, q81, q82, q83, q84, q85, q86, q87, q88, q89, q90, q91, q92, q93, q94, q95, q96, q97, q98, q99, q100, q101, q102, q103, q104, q105, q106, q107, q108, q109, q110, q111, q112, q113, q114, q115, q116, q117, q118, q119, q120, q121, q122, q123, q124, q125, q126, q127, q128, q129, q130, q240, q255, q256, q296, q400, q600, q896, q960, q999, q1000, q11544, q11840, q1000000, q1000000000, ↓reduceIte, if_pos, if_neg, ↓reduceIte, u2r, u2e, u2n, cp2r, cp2s]
      exact ⟨_, rfl, ScC_u hs rfl, Fr_u⟩
    · obtain ⟨k', rfl⟩ : ∃ k', k = k' + 1 := ⟨k - 1, by omega⟩
      rw [show nI (k' + 1) + (-1) = nI k' from mz_prd k']
      simp (disch := omega) only [↓mz_lt, ↓mz_b1, ↓mz_b2, ↓mz_b3, mz_b1, mz_b2, mz_b3, mz_lt, mz_o0, mz_o1, nI_add, mz_mul, mz_sub, nI_clamp, mz_in, mz_le, mz_ltp, mz_eq, mz_nm, mz_mn, mz_ml, mz_mlt, mz_nl, mz_mle, qNN, q0, q1, q2, q3, q4, q5, q6, q7, q8, q9, q10, q11, q12, q13, q14, q15, q16, q17, q18, q19, q20, q21, q22, q23, q24, q25, q26, q27, q28, q29, q30, q31, q32, q33, q34, q35, q36, q37, q38, q39, q40, q41, q42, q43, q44, q45, q46, q47, q48, q49, q50, q51, q52, q53, q54, q55, q56, q57, q58, q59, q60, q61, q62, q63, q64, q65, q66, q67, q68, q69, q70, q71, q72, q73, q74, q75, q76, q77, q78, q79, q80, q81, q82, q83, q84, q85, q86, q87, q88, q89, q90, q91, q92, q93, q94, q95, q96, q97, q98, q99, q100, q101, q102, q103, q104, q105, q106, q107, q108, q109, q110, q111, q112, q113, q114, q115, q116, q117, q118, q119, q120, q121, q122, q123, q124, q125, q126, q127, q128, q129, q130, q240, q255, q256, q296, q400, q600, q896, q960, q999, q1000, q11544, q11840, q1000000, q1000000000, ↓reduceIte, if_pos, if_neg, ↓reduceIte, u2r, u2e, u2n, cp2r, cp2s]
      rw [hs (9 + (k' + 1) - 1) (by omega), show sh2 σ r (k' + 1) (9 + (k' + 1) - 1) = σ (9 + k') from if_neg (by omega)]
      obtain ⟨i2, e, e1, e2⟩ := ih k' (u2 i' (p + 1) (9 + (k' + 1)) (nI (σ (9 + k')))) (by omega) (by omega) (by omega) (by
        rw [← sh2_up (by omega)]
        exact ScC_u hs rfl)
      exact ⟨i2, e, e1, Fr_t Fr_u e2⟩
theorem c_shift1 (hr : r < 9) (hq : q < 9) : ∀ n k i', r ≤ k → k ≤ max r q → max r q - k < n → ScC (sh1 σ r k) (i' (p + 1)) → ∃ i'', fX8_shiftPaper_13 p n (nI r) (nI q) (nI (σ (9 + r))) (nI k) i' = some i'' ∧ ScC (mvS σ r q) (i'' (p + 1)) ∧ Fr [p + 1] i' i'' := by
  intro n
  induction n with
  | zero => intro k i' h1 h2 h3; omega
  | succ n ih =>
    intro k i' h1 h2 h3 hs
    rw [fX8_shiftPaper_13]
    by_cases h4 : q ≤ k
    · simp (disch := omega) only [↓mz_lt, ↓mz_b1, ↓mz_b2, ↓mz_b3, mz_b1, mz_b2, mz_b3, mz_lt, mz_o0, mz_o1, nI_add, mz_mul, mz_sub, nI_clamp, mz_in, mz_le, mz_ltp, mz_eq, mz_nm, mz_mn, mz_ml, mz_mlt, mz_nl, mz_mle, qNN, q0, q1, q2, q3, q4, q5, q6, q7, q8, q9, q10, q11, q12, q13, q14, q15, q16, q17, q18, q19, q20, q21, q22, q23, q24, q25, q26, q27, q28, q29, q30, q31, q32, q33, q34, q35, q36, q37, q38, q39, q40, q41, q42, q43, q44, q45, q46, q47, q48, q49, q50, q51, q52, q53, q54, q55, q56, q57, q58, q59, q60, q61, q62, q63, q64, q65, q66, q67, q68, q69, q70, q71, q72, q73, q74, q75, q76, q77, q78, q79, q80, q81, q82, q83, q84, q85, q86, q87, q88, q89, q90, q91, q92, q93, q94, q95, q96, q97, q98, q99, q100, q101, q102, q103, q104, q105, q106, q107, q108, q109, q110, q111, q112, q113, q114, q115, q116, q117, q118, q119, q120, q121, q122, q123, q124, q125, q126, q127, q128, q129, q130, q240, q255, q256, q296, q400, q600, q896, q960, q999, q1000, q11544, q11840, q1000000, q1000000000, ↓reduceIte, if_pos, if_neg, ↓reduceIte, u2r, u2e, u2n, cp2r, cp2s]
      by_cases h5 : r ≤ q
      · have hk : k = q := by omega
        obtain ⟨fu, hfu, _⟩ := fuel_s
        rw [hfu, fX8_shiftPaper_50]
        simp (disch := omega) only [↓mz_lt, ↓mz_b1, ↓mz_b2, ↓mz_b3, mz_b1, mz_b2, mz_b3, mz_lt, mz_o0, mz_o1, nI_add, mz_mul, mz_sub, nI_clamp, mz_in, mz_le, mz_ltp, mz_eq, mz_nm, mz_mn, mz_ml, mz_mlt, mz_nl, mz_mle, qNN, q0, q1, q2, q3, q4, q5, q6, q7, q8, q9, q10, q11, q12, q13, q14, q15, q16, q17, q18, q19, q20, q21, q22, q23, q24, q25, q26, q27, q28, q29, q30, q31, q32, q33, q34, q35, q36, q37, q38, q39, q40, q41, q42, q43, q44, q45, q46, q47, q48, q49, q50, q51, q52, q53, q54, q55, q56, q57, q58, q59, q60, q61, q62, q63, q64, q65, q66, q67, q68, q69, q70, q71, q72, q73, q74, q75, q76, q77, q78, q79, q80, q81, q82, q83, q84, q85, q86, q87, q88, q89, q90, q91, q92, q93, q94, q95, q96, q97, q98, q99, q100, q101, q102, q103, q104, q105, q106, q107, q108, q109, q110, q111, q112, q113, q114, q115, q116, q117, q118, q119, q120, q121, q122, q123, q124, q125, q126, q127, q128, q129, q130, q240, q255, q256, q296, q400, q600, q896, q960, q999, q1000, q11544, q11840, q1000000, q1000000000, ↓reduceIte, if_pos, if_neg, ↓reduceIte, u2r, u2e, u2n, cp2r, cp2s]
        refine ⟨_, rfl, ?_, Fr_u⟩
        have e : mvS σ r q = up (sh1 σ r k) (9 + q) (σ (9 + r)) := by
          funext x
          unfold mvS up sh1 pm
          by_cases e1 : x = 9 + q
          · subst e1
            rw [if_pos (by omega), if_pos (by omega), if_pos rfl]
          · rw [if_neg e1]
            by_cases e2 : 9 ≤ x ∧ x < 18
            · rw [if_pos e2, if_neg (by omega)]
              by_cases e3 : 9 + r ≤ x ∧ x < 9 + k
              · rw [if_pos (by omega), if_pos e3]
                congr 1
                omega
              · rw [if_neg (by omega), if_neg (by omega), if_neg e3]
                congr 1
                omega
            · rw [if_neg e2, if_neg (by omega)]
        rw [e]
        exact ScC_u hs rfl
      · have hk : k = r := by omega
        subst hk
        have e0 : sh1 σ k k = sh2 σ k k := by
          funext x
          unfold sh1 sh2
          rw [if_neg (by omega), if_neg (by omega)]
        obtain ⟨i2, e, e1, e2⟩ := c_shift2 (q := q) (r := k) (σ := σ) (p := p) (v := σ (9 + k)) (by omega) hr fuel k i' (by omega) (by omega) (by show k - q < 30000; omega) (by rw [← e0]; exact hs)
        refine ⟨i2, e, ?_, e2⟩
        have e : mvS σ k q = up (sh2 σ k q) (9 + q) (σ (9 + k)) := by
          funext x
          unfold mvS up sh2 pm
          by_cases e1 : x = 9 + q
          · subst e1
            rw [if_pos (by omega), if_pos (by omega), if_pos rfl]
          · rw [if_neg e1]
            by_cases e2 : 9 ≤ x ∧ x < 18
            · rw [if_pos e2, if_neg (by omega), if_neg (by omega)]
              by_cases e3 : 9 + q < x ∧ x ≤ 9 + k
              · rw [if_pos (by omega), if_pos e3]
                congr 1
                omega
              · rw [if_neg (by omega), if_neg e3]
                congr 1
                omega
            · rw [if_neg e2, if_neg (by omega)]
        rw [e]
        exact e1
    · simp (disch := omega) only [↓mz_lt, ↓mz_b1, ↓mz_b2, ↓mz_b3, mz_b1, mz_b2, mz_b3, mz_lt, mz_o0, mz_o1, nI_add, mz_mul, mz_sub, nI_clamp, mz_in, mz_le, mz_ltp, mz_eq, mz_nm, mz_mn, mz_ml, mz_mlt, mz_nl, mz_mle, qNN, q0, q1, q2, q3, q4, q5, q6, q7, q8, q9, q10, q11, q12, q13, q14, q15, q16, q17, q18, q19, q20, q21, q22, q23, q24, q25, q26, q27, q28, q29, q30, q31, q32, q33, q34, q35, q36, q37, q38, q39, q40, q41, q42, q43, q44, q45, q46, q47, q48, q49, q50, q51, q52, q53, q54, q55, q56, q57, q58, q59, q60, q61, q62, q63, q64, q65, q66, q67, q68, q69, q70, q71, q72, q73, q74, q75, q76, q77, q78, q79, q80, q81, q82, q83, q84, q85, q86, q87, q88, q89, q90, q91, q92, q93, q94, q95, q96, q97, q98, q99, q100, q101, q102, q103, q104, q105, q106, q107, q108, q109, q110, q111, q112, q113, q114, q115, q116, q117, q118, q119, q120, q121, q122, q123, q124, q125, q126, q127, q128, q129, q130, q240, q255, q256, q296, q400, q600, q896, q960, q999, q1000, q11544, q11840, q1000000, q1000000000, ↓reduceIte, if_pos, if_neg, ↓reduceIte, u2r, u2e, u2n, cp2r, cp2s]
      rw [hs (9 + k + 1) (by omega), show sh1 σ r k (9 + k + 1) = σ (9 + k + 1) from if_neg (by omega)]
      obtain ⟨i2, e, e1, e2⟩ := ih (k + 1) (u2 i' (p + 1) (9 + k) (nI (σ (9 + k + 1)))) (by omega) (by omega) (by omega) (by
        rw [← sh1_up h1]
        exact ScC_u hs rfl)
      exact ⟨i2, e, e1, Fr_t Fr_u e2⟩
theorem c_shift (hr : r < 9) (hq : q < 9) (hs : ScC σ (i (p + 1))) : ∃ i', fX8_shiftPaper p (nI r) (nI q) i = some i' ∧ ScC (mvS σ r q) (i' (p + 1)) ∧ Fr [p + 1] i i' := by
  unfold fX8_shiftPaper
  simp (disch := omega) only [↓mz_lt, ↓mz_b1, ↓mz_b2, ↓mz_b3, mz_b1, mz_b2, mz_b3, mz_lt, mz_o0, mz_o1, nI_add, mz_mul, mz_sub, nI_clamp, mz_in, mz_le, mz_ltp, mz_eq, mz_nm, mz_mn, mz_ml, mz_mlt, mz_nl, mz_mle, qNN, q0, q1, q2, q3, q4, q5, q6, q7, q8, q9, q10, q11, q12, q13, q14, q15, q16, q17, q18, q19, q20, q21, q22, q23, q24, q25, q26, q27, q28, q29, q30, q31, q32, q33, q34, q35, q36, q37, q38, q39, q40, q41, q42, q43, q44, q45, q46, q47, q48, q49, q50, q51, q52, q53, q54, q55, q56, q57, q58, q59, q60, q61, q62, q63, q64, q65, q66, q67, q68, q69, q70, q71, q72, q73, q74, q75, q76, q77, q78, q79, q80, q81, q82, q83, q84, q85, q86, q87, q88, q89, q90, q91, q92, q93, q94, q95, q96, q97, q98, q99, q100, q101, q102, q103, q104, q105, q106, q107, q108, q109, q110, q111, q112, q113, q114, q115, q116, q117, q118, q119, q120, q121, q122, q123, q124, q125, q126, q127, q128, q129, q130, q240, q255, q256, q296, q400, q600, q896, q960, q999, q1000, q11544, q11840, q1000000, q1000000000, ↓reduceIte, if_pos, if_neg, ↓reduceIte, u2r, u2e, u2n, cp2r, cp2s, hs _ _]
  exact c_shift1 hr hq fuel r i (by omega) (by omega) (by show max r q - r < 30000; omega) (by
    rw [show sh1 σ r r = σ from by
      funext x
      unfold sh1
      rw [if_neg (by omega)]]
    exact hs)
/-! the reference counts places on or back -/
theorem m_moves_l (h' : CarM K j) (hK : OkK K) (hb : OkS K b σ) (hw : ScM K σ (j w)) (hwn : w ≠ 50) (hr : r < K 0 5) (hq : q < K 0 5) : ∀ n s j', s ≤ K 0 3 → K 0 3 - s < n → Fr [w] j j' → (∀ z, (∀ x, x < s → z ≠ 6 * x + 1) → j' w z = j w z) → (∀ x, x < s → sv K x 5 = 1 → j' w (6 * x + 1) = NN) → (∀ y, y < K 0 5 → σ (9 + y) < s → j' w (6 * σ (9 + y) + 1) = nI (np r q y)) →
    ∃ j'', fX12_moves_13 w 296 n (nI (σ (9 + r))) (nI q) (nI r) (nI s) j' = some (u2 j'' w (6 * σ (9 + r) + 1) (nI q)) ∧ Fr [w] j j'' ∧ (∀ z, (∀ x, x < K 0 3 → z ≠ 6 * x + 1) → j'' w z = j w z) ∧ (∀ x, x < K 0 3 → sv K x 5 = 1 → j'' w (6 * x + 1) = NN) ∧ (∀ y, y < K 0 5 → j'' w (6 * σ (9 + y) + 1) = nI (np r q y)) := by
  have hm := hK.1
  have h5 := hK.2.2.1
  have hp := OkS_dr hb r hr
  intro n
  induction n with
  | zero => intro s j' h1 h2; omega
  | succ n ih =>
    intro s j' h1 h2 hf c1 c2 c3
    rw [fX12_moves_13]
    have e26 : j' 50 26 = nI (K 0 3) := by rw [hf 50 (by simp; omega)]; exact h'.1
    by_cases h3 : s = K 0 3
    · subst h3
      simp (disch := omega) only [↓mz_lt, ↓mz_b1, ↓mz_b2, ↓mz_b3, mz_b1, mz_b2, mz_b3, mz_lt, mz_o0, mz_o1, nI_add, mz_mul, mz_sub, nI_clamp, mz_in, mz_le, mz_ltp, mz_eq, mz_nm, mz_mn, mz_ml, mz_mlt, mz_nl, mz_mle, qNN, q0, q1, q2, q3, q4, q5, q6, q7, q8, q9, q10, q11, q12, q13, q14, q15, q16, q17, q18, q19, q20, q21, q22, q23, q24, q25, q26, q27, q28, q29, q30, q31, q32, q33, q34, q35, q36, q37, q38, q39, q40, q41, q42, q43, q44, q45, q46, q47, q48, q49, q50, q51, q52, q53, q54, q55, q56, q57, q58, q59, q60, q61, q62, q63, q64, q65, q66, q67, q68, q69, q70, q71, q72, q73, q74, q75, q76, q77, q78, q79, q80, q81, q82, q83, q84, q85, q86, q87, q88, q89, q90, q91, q92, q93, q94, q95, q96, q97, q98, q99, q100, q101, q102, q103, q104, q105, q106, q107, q108, q109, q110, q111, q112, q113, q114, q115, q116, q117, q118, q119, q120, q121, q122, q123, q124, q125, q126, q127, q128, q129, q130, q240, q255, q256, q296, q400, q600, q896, q960, q999, q1000, q11544, q11840, q1000000, q1000000000, ↓reduceIte, if_pos, if_neg, ↓reduceIte, u2r, u2e, u2n, cp2r, cp2s, e26]
      exact ⟨j', rfl, hf, c1, c2, fun y hy => c3 y hy (OkS_dr hb y hy)⟩
    · have hch := hK.2.2.2.2.2.2.2.2.2.2.1 s (by omega)
      have ec : j' w (6 * s + 1) = j w (6 * s + 1) := c1 _ (fun x hx => by omega)
      simp (disch := omega) only [↓mz_lt, ↓mz_b1, ↓mz_b2, ↓mz_b3, mz_b1, mz_b2, mz_b3, mz_lt, mz_o0, mz_o1, nI_add, mz_mul, mz_sub, nI_clamp, mz_in, mz_le, mz_ltp, mz_eq, mz_nm, mz_mn, mz_ml, mz_mlt, mz_nl, mz_mle, qNN, q0, q1, q2, q3, q4, q5, q6, q7, q8, q9, q10, q11, q12, q13, q14, q15, q16, q17, q18, q19, q20, q21, q22, q23, q24, q25, q26, q27, q28, q29, q30, q31, q32, q33, q34, q35, q36, q37, q38, q39, q40, q41, q42, q43, q44, q45, q46, q47, q48, q49, q50, q51, q52, q53, q54, q55, q56, q57, q58, q59, q60, q61, q62, q63, q64, q65, q66, q67, q68, q69, q70, q71, q72, q73, q74, q75, q76, q77, q78, q79, q80, q81, q82, q83, q84, q85, q86, q87, q88, q89, q90, q91, q92, q93, q94, q95, q96, q97, q98, q99, q100, q101, q102, q103, q104, q105, q106, q107, q108, q109, q110, q111, q112, q113, q114, q115, q116, q117, q118, q119, q120, q121, q122, q123, q124, q125, q126, q127, q128, q129, q130, q240, q255, q256, q296, q400, q600, q896, q960, q999, q1000, q11544, q11840, q1000000, q1000000000, ↓reduceIte, if_pos, if_neg, ↓reduceIte, u2r, u2e, u2n, cp2r, cp2s, e26, fX12_moves_59, fX12_moves_84, ec]
      by_cases h4 : sv K s 5 = 1
      · have en := hw.2.1 s (by omega) h4
        simp (disch := omega) only [↓mz_lt, ↓mz_b1, ↓mz_b2, ↓mz_b3, mz_b1, mz_b2, mz_b3, mz_lt, mz_o0, mz_o1, nI_add, mz_mul, mz_sub, nI_clamp, mz_in, mz_le, mz_ltp, mz_eq, mz_nm, mz_mn, mz_ml, mz_mlt, mz_nl, mz_mle, qNN, q0, q1, q2, q3, q4, q5, q6, q7, q8, q9, q10, q11, q12, q13, q14, q15, q16, q17, q18, q19, q20, q21, q22, q23, q24, q25, q26, q27, q28, q29, q30, q31, q32, q33, q34, q35, q36, q37, q38, q39, q40, q41, q42, q43, q44, q45, q46, q47, q48, q49, q50, q51, q52, q53, q54, q55, q56, q57, q58, q59, q60, q61, q62, q63, q64, q65, q66, q67, q68, q69, q70, q71, q72, q73, q74, q75, q76, q77, q78, q79, q80, q81, q82, q83, q84, q85, q86, q87, q88, q89, q90, q91, q92, q93, q94, q95, q96, q97, q98, q99, q100, q101, q102, q103, q104, q105, q106, q107, q108, q109, q110, q111, q112, q113, q114, q115, q116, q117, q118, q119, q120, q121, q122, q123, q124, q125, q126, q127, q128, q129, q130, q240, q255, q256, q296, q400, q600, q896, q960, q999, q1000, q11544, q11840, q1000000, q1000000000, ↓reduceIte, if_pos, if_neg, ↓reduceIte, u2r, u2e, u2n, cp2r, cp2s, en]
        refine ih (s + 1) j' (by omega) (by omega) hf (fun z hz => c1 z (fun x hx => hz x (by omega))) (fun x hx hc => ?_) (fun y hy hys => ?_)
        · by_cases e : x = s
          · subst e
            rw [ec, en]
          · exact c2 x (by omega) hc
        · refine c3 y hy ?_
          have := (hb.2.2.1 y hy).2
          by_cases e : σ (9 + y) = s
          · rw [e] at this
            omega
          · omega
      · obtain ⟨y, hy, hys⟩ := hb.2.2.2.2.1 s (by omega) (by omega)
        have ep := hw.2.2.1 y hy
        rw [hys] at ep
        have stay : ∀ jn, Fr [w] j jn → (∀ z, z ≠ 6 * s + 1 → jn w z = j' w z) → jn w (6 * s + 1) = nI (np r q y) → ∃ j'', fX12_moves_13 w 296 n (nI (σ (9 + r))) (nI q) (nI r) (nI (s + 1)) jn = some (u2 j'' w (6 * σ (9 + r) + 1) (nI q)) ∧ Fr [w] j j'' ∧ (∀ z, (∀ x, x < K 0 3 → z ≠ 6 * x + 1) → j'' w z = j w z) ∧ (∀ x, x < K 0 3 → sv K x 5 = 1 → j'' w (6 * x + 1) = NN) ∧ (∀ y, y < K 0 5 → j'' w (6 * σ (9 + y) + 1) = nI (np r q y)) := by
          intro jn hfn hz hv
          refine ih (s + 1) jn (by omega) (by omega) hfn (fun z hzz => ?_) (fun x hx hc => ?_) (fun y' hy' hys' => ?_)
          · rw [hz z (hzz s (by omega))]
            exact c1 z (fun x hx => hzz x (by omega))
          · have e : x ≠ s := fun e => by rw [e] at hc; omega
            rw [hz _ (by omega)]
            exact c2 x (by omega) hc
          · by_cases e : σ (9 + y') = s
            · have : y' = y := hb.2.2.2.1 y' y hy' hy (by omega)
              subst this
              rw [e]
              exact hv
            · rw [hz _ (by omega)]
              exact c3 y' hy' (by omega)
        simp (disch := omega) only [ep, ↓mz_lt, ↓mz_b1, ↓mz_b2, ↓mz_b3, mz_b1, mz_b2, mz_b3, mz_lt, mz_o0, mz_o1, nI_add, mz_mul, mz_sub, nI_clamp, mz_in, mz_le, mz_ltp, mz_eq, mz_nm, mz_mn, mz_ml, mz_mlt, mz_nl, mz_mle, qNN, q0, q1, q2, q3, q4, q5, q6, q7, q8, q9, q10, q11, q12, q13, q14, q15, q16, q17, q18, q19, q20, q21, q22, q23, q24, q25, q26, q27, q28, q29, q30, q31, q32, q33, q34, q35, q36, q37, q38, q39, q40, q41, q42, q43, q44, q45, q46, q47, q48, q49, q50, q51, q52, q53, q54, q55, q56, q57, q58, q59, q60, q61, q62, q63, q64, q65, q66, q67, q68, q69, q70, q71, q72, q73, q74, q75, q76, q77, q78, q79, q80, q81, q82, q83, q84, q85, q86, q87, q88, q89, q90, q91, q92, q93, q94, q95, q96, q97, q98, q99, q100, q101, q102, q103, q104, q105, q106, q107, q108, q109, q110, q111, q112, q113, q114, q115, q116, q117, q118, q119, q120, q121, q122, q123, q124, q125, q126, q127, q128, q129, q130, q240, q255, q256, q296, q400, q600, q896, q960, q999, q1000, q11544, q11840, q1000000, q1000000000, ↓reduceIte, if_pos, if_neg, ↓reduceIte, u2r, u2e, u2n, cp2r, cp2s]
        by_cases d1 : r < y ∧ y ≤ q
        · simp (disch := omega) only [↓mz_lt, ↓mz_b1, ↓mz_b2, ↓mz_b3, mz_b1, mz_b2, mz_b3, mz_lt, mz_o0, mz_o1, nI_add, mz_mul, mz_sub, nI_clamp, mz_in, mz_le, mz_ltp, mz_eq, mz_nm, mz_mn, mz_ml, mz_mlt, mz_nl, mz_mle, qNN, q0, q1, q2, q3, q4, q5, q6, q7, q8, q9, q10, q11, q12, q13, q14, q15, q16, q17, q18, q19, q20, q21, q22, q23, q24, q25, q26, q27, q28, q29, q30, q31, q32, q33, q34, q35, q36, q37, q38, q39, q40, q41, q42, q43, q44, q45, q46, q47, q48, q49, q50, q51, q52, q53, q54, q55, q56, q57, q58, q59, q60, q61, q62, q63, q64, q65, q66, q67, q68, q69, q70, q71, q72, q73, q74, q75, q76, q77, q78, q79, q80, q81, q82, q83, q84, q85, q86, q87, q88, q89, q90, q91, q92, q93, q94, q95, q96, q97, q98, q99, q100, q101, q102, q103, q104, q105, q106, q107, q108, q109, q110, q111, q112, q113, q114, q115, q116, q117, q118, q119, q120, q121, q122, q123, q124, q125, q126, q127, q128, q129, q130, q240, q255, q256, q296, q400, q600, q896, q960, q999, q1000, q11544, q11840, q1000000, q1000000000, ↓reduceIte, if_pos, if_neg, ↓reduceIte, u2r, u2e, u2n, cp2r, cp2s]
          refine stay _ (Fr_t hf Fr_u) (fun z hz => u2n _ _ _ _ _ hz) ?_
          rw [u2e]
          unfold np
          rw [if_pos d1]
        · by_cases d2 : q ≤ y ∧ y < r
          · simp (disch := omega) only [↓mz_lt, ↓mz_b1, ↓mz_b2, ↓mz_b3, mz_b1, mz_b2, mz_b3, mz_lt, mz_o0, mz_o1, nI_add, mz_mul, mz_sub, nI_clamp, mz_in, mz_le, mz_ltp, mz_eq, mz_nm, mz_mn, mz_ml, mz_mlt, mz_nl, mz_mle, qNN, q0, q1, q2, q3, q4, q5, q6, q7, q8, q9, q10, q11, q12, q13, q14, q15, q16, q17, q18, q19, q20, q21, q22, q23, q24, q25, q26, q27, q28, q29, q30, q31, q32, q33, q34, q35, q36, q37, q38, q39, q40, q41, q42, q43, q44, q45, q46, q47, q48, q49, q50, q51, q52, q53, q54, q55, q56, q57, q58, q59, q60, q61, q62, q63, q64, q65, q66, q67, q68, q69, q70, q71, q72, q73, q74, q75, q76, q77, q78, q79, q80, q81, q82, q83, q84, q85, q86, q87, q88, q89, q90, q91, q92, q93, q94, q95, q96, q97, q98, q99, q100, q101, q102, q103, q104, q105, q106, q107, q108, q109, q110, q111, q112, q113, q114, q115, q116, q117, q118, q119, q120, q121, q122, q123, q124, q125, q126, q127, q128, q129, q130, q240, q255, q256, q296, q400, q600, q896, q960, q999, q1000, q11544, q11840, q1000000, q1000000000, ↓reduceIte, if_pos, if_neg, ↓reduceIte, u2r, u2e, u2n, cp2r, cp2s]
            refine stay _ (Fr_t hf Fr_u) (fun z hz => u2n _ _ _ _ _ hz) ?_
            rw [u2e]
            unfold np
            rw [if_neg d1, if_pos d2]
          · have e : np r q y = y := by
              unfold np
              rw [if_neg d1, if_neg d2]
            have e0 := stay j' hf (fun z hz => rfl) (by rw [ec, ep, e])
            by_cases d3 : y ≤ r
            · by_cases d4 : r ≤ y
              · simp (disch := omega) only [↓mz_lt, ↓mz_b1, ↓mz_b2, ↓mz_b3, mz_b1, mz_b2, mz_b3, mz_lt, mz_o0, mz_o1, nI_add, mz_mul, mz_sub, nI_clamp, mz_in, mz_le, mz_ltp, mz_eq, mz_nm, mz_mn, mz_ml, mz_mlt, mz_nl, mz_mle, qNN, q0, q1, q2, q3, q4, q5, q6, q7, q8, q9, q10, q11, q12, q13, q14, q15, q16, q17, q18, q19, q20, q21, q22, q23, q24, q25, q26, q27, q28, q29, q30, q31, q32, q33, q34, q35, q36, q37, q38, q39, q40, q41, q42, q43, q44, q45, q46, q47, q48, q49, q50, q51, q52, q53, q54, q55, q56, q57, q58, q59, q60, q61, q62, q63, q64, q65, q66, q67, q68, q69, q70, q71, q72, q73, q74, q75, q76, q77, q78, q79, q80, q81, q82, q83, q84, q85, q86, q87, q88, q89, q90, q91, q92, q93, q94, q95, q96, q97, q98, q99, q100, q101, q102, q103, q104, q105, q106, q107, q108, q109, q110, q111, q112, q113, q114, q115, q116, q117, q118, q119, q120, q121, q122, q123, q124, q125, q126, q127, q128, q129, q130, q240, q255, q256, q296, q400, q600, q896, q960, q999, q1000, q11544, q11840, q1000000, q1000000000, ↓reduceIte, if_pos, if_neg, ↓reduceIte, u2r, u2e, u2n, cp2r, cp2s]
                exact e0
              · simp (disch := omega) only [↓mz_lt, ↓mz_b1, ↓mz_b2, ↓mz_b3, mz_b1, mz_b2, mz_b3, mz_lt, mz_o0, mz_o1, nI_add, mz_mul, mz_sub, nI_clamp, mz_in, mz_le, mz_ltp, mz_eq, mz_nm, mz_mn, mz_ml, mz_mlt, mz_nl, mz_mle, qNN, q0, q1, q2, q3, q4, q5, q6, q7, q8, q9, q10, q11, q12, q13, q14, q15, q16, q17, q18, q19, q20, q21, q22, q23, q24, q25, q26, q27, q28, q29, q30, q31, q32, q33, q34, q35, q36, q37, q38, q39, q40, q41, q42, q43, q44, q45, q46, q47, q48, q49, q50, q51, q52, q53, q54, q55, q56, q57, q58, q59, q60, q61, q62, q63, q64, q65, q66, q67, q68, q69, q70, q71, q72, q73, q74, q75, q76, q77, q78, q79, q80, q81, q82, q83, q84, q85, q86, q87, q88, q89, q90, q91, q92, q93, q94, q95, q96, q97, q98, q99, q100, q101, q102, q103, q104, q105, q106, q107, q108, q109, q110, q111, q112, q113, q114, q115, q116, q117, q118, q119, q120, q121, q122, q123, q124, q125, q126, q127, q128, q129, q130, q240, q255, q256, q296, q400, q600, q896, q960, q999, q1000, q11544, q11840, q1000000, q1000000000, ↓reduceIte, if_pos, if_neg, ↓reduceIte, u2r, u2e, u2n, cp2r, cp2s]
                exact e0
            · simp (disch := omega) only [↓mz_lt, ↓mz_b1, ↓mz_b2, ↓mz_b3, mz_b1, mz_b2, mz_b3, mz_lt, mz_o0, mz_o1, nI_add, mz_mul, mz_sub, nI_clamp, mz_in, mz_le, mz_ltp, mz_eq, mz_nm, mz_mn, mz_ml, mz_mlt, mz_nl, mz_mle, qNN, q0, q1, q2, q3, q4, q5, q6, q7, q8, q9, q10, q11, q12, q13, q14, q15, q16, q17, q18, q19, q20, q21, q22, q23, q24, q25, q26, q27, q28, q29, q30, q31, q32, q33, q34, q35, q36, q37, q38, q39, q40, q41, q42, q43, q44, q45, q46, q47, q48, q49, q50, q51, q52, q53, q54, q55, q56, q57, q58, q59, q60, q61, q62, q63, q64, q65, q66, q67, q68, q69, q70, q71, q72, q73, q74, q75, q76, q77, q78, q79, q80, q81, q82, q83, q84, q85, q86, q87, q88, q89, q90, q91, q92, q93, q94, q95, q96, q97, q98, q99, q100, q101, q102, q103, q104, q105, q106, q107, q108, q109, q110, q111, q112, q113, q114, q115, q116, q117, q118, q119, q120, q121, q122, q123, q124, q125, q126, q127, q128, q129, q130, q240, q255, q256, q296, q400, q600, q896, q960, q999, q1000, q11544, q11840, q1000000, q1000000000, ↓reduceIte, if_pos, if_neg, ↓reduceIte, u2r, u2e, u2n, cp2r, cp2s]
              exact e0
theorem m_moves (h' : CarM K j) (hK : OkK K) (hb : OkS K b σ) (hw : ScM K σ (j w)) (hwn : w ≠ 50) (hr : r < K 0 5) (hq : q < K 0 5) : ∃ j', fX12_moves w 296 (nI (σ (9 + r))) (nI q) j = some j' ∧ Fr [w] j j' ∧ ScM K (mvS σ r q) (j' w) ∧ ∀ z, 54 ≤ z → j' w z = j w z := by
  have hm := hK.1
  have h5 := hK.2.2.1
  have hp := OkS_dr hb r hr
  obtain ⟨j2, e, hf, c1, c2, c3⟩ := m_moves_l h' hK hb hw hwn hr hq fuel 0 j (by omega) (by show K 0 3 - 0 < 30000; omega) (Fr_r _ _) (fun z _ => rfl) (fun x hx => by omega) (fun y _ hy => by omega)
  unfold fX12_moves
  simp (disch := omega) only [↓mz_lt, ↓mz_b1, ↓mz_b2, ↓mz_b3, mz_b1, mz_b2, mz_b3, mz_lt, mz_o0, mz_o1, nI_add, mz_mul, mz_sub, nI_clamp, mz_in, mz_le, mz_ltp, mz_eq, mz_nm, mz_mn, mz_ml, mz_mlt, mz_nl, mz_mle, qNN, q0, q1, q2, q3, q4, q5, q6, q7, q8, q9, q10, q11, q12, q13, q14, q15, q16, q17, q18, q19, q20, q21, q22, q23, q24, q25, q26, q27, q28, q29, q30, q31, q32, q33, q34, q35, q36, q37, q38, q39, q40, q41, q42, q43, q44, q45, q46, q47, q48, q49, q50, q51, q52, q53, q54, q55, q56, q57, q58, q59, q60, q61, q62, q63, q64, q65, q66, q67, q68, q69, q70, q71, q72, q73, q74, q75, q76, q77, q78, q79, q80, q81, q82, q83, q84, q85, q86, q87, q88, q89, q90, q91, q92, q93, q94, q95, q96, q97, q98, q99, q100, q101, q102, q103, q104, q105, q106, q107, q108, q109, q110, q111, q112, q113, q114, q115, q116, q117, q118, q119, q120, q121, q122, q123, q124, q125, q126, q127, q128, q129, q130, q240, q255, q256, q296, q400, q600, q896, q960, q999, q1000, q11544, q11840, q1000000, q1000000000, ↓reduceIte, if_pos, if_neg, ↓reduceIte, u2r, u2e, u2n, cp2r, cp2s, hw.2.2.1 r hr]
  refine ⟨_, e, Fr_t hf Fr_u, ⟨fun x hx => ?_, fun x hx hc => ?_, fun y hy => ?_, ?_⟩, fun z hz => ?_⟩
  · simp (disch := omega) only [u2n, mvS_o]
    rw [c1 (6 * x) (fun x' hx' => by omega), c1 (6 * x + 2) (fun x' hx' => by omega), c1 (6 * x + 3) (fun x' hx' => by omega), c1 (6 * x + 4) (fun x' hx' => by omega), c1 (6 * x + 5) (fun x' hx' => by omega)]
    exact hw.1 x hx
  · have := (hb.2.2.1 r hr).2
    have e : x ≠ σ (9 + r) := fun e => by rw [e] at hc; omega
    rw [u2n _ _ _ _ _ (by omega)]
    exact c2 x hx hc
  · rw [mvS_d (by omega)]
    by_cases e : y = q
    · subst e
      rw [show pm r y y = r from if_pos rfl, u2e]
    · have h1 := pm_lt hr hq hy
      have h2 : pm r q y ≠ r := fun e2 => e (by
        have : pm r q q = r := if_pos rfl
        exact pm_inj (e2.trans this.symm))
      rw [u2n _ _ _ _ _ (fun e3 => h2 (hb.2.2.2.1 _ r h1 hr (by omega))), c3 _ h1, np_pm e]
  · simp (disch := omega) only [u2n, mvS_o]
    rw [c1 54 (fun x' hx' => by omega)]
    exact hw.2.2.2
  · rw [u2n _ _ _ _ _ (by omega), c1 z (fun x' hx' => by omega)]
end MV
