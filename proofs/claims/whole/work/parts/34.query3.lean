/-! count, log, drowsy, hear, lookAt, end -/
/-- rows outside l are the same -/
def Fr (l : List Nat) (i i' : Tb) : Prop := ∀ q, q ∉ l → i' q = i q
/-- cells of the reference's object outside l are the same -/
def F5 (l : List Nat) (i i' : Tb) : Prop := ∀ k, k ∉ l → i' 50 k = i 50 k
theorem Fr_r (l : List Nat) (i : Tb) : Fr l i i := fun _ _ => rfl
theorem Fr_t {l : List Nat} {a b c : Tb} (h : Fr l a b) (h' : Fr l b c) : Fr l a c := fun q hq => (h' q hq).trans (h q hq)
theorem Fr_w {l l' : List Nat} {a b : Tb} (hl : ∀ q, q ∈ l → q ∈ l') (h : Fr l a b) : Fr l' a b := fun q hq => h q (fun e => hq (hl q e))
theorem F5_r (l : List Nat) (i : Tb) : F5 l i i := fun _ _ => rfl
theorem F5_t {l : List Nat} {a b c : Tb} (h : F5 l a b) (h' : F5 l b c) : F5 l a c := fun q hq => (h' q hq).trans (h q hq)
theorem F5_w {l l' : List Nat} {a b : Tb} (hl : ∀ q, q ∈ l → q ∈ l') (h : F5 l a b) : F5 l' a b := fun q hq => h q (fun e => hq (hl q e))
theorem Fr_u {p k : Nat} {v : Int32} {i : Tb} : Fr [p] i (u2 i p k v) := fun q hq => u2r _ _ _ _ _ (fun e => hq (by simp [e]))
theorem F5_u {k : Nat} {v : Int32} {i : Tb} : F5 [k] i (u2 i 50 k v) := fun q hq => by rw [u2s, if_neg (fun e => hq (by simp [e]))]
/-- heard and looked at -/
def GuC (g : Nat → Nat → Nat) (i : Tb) : Prop := i 45 7 = nI (g 0 0) ∧ i 45 8 = nI (g 0 1) ∧ (∀ k, k < g 0 0 → i 46 k = nI (g 1 k) ∧ i 47 k = nI (g 2 k)) ∧ (∀ k, k < g 0 1 → i 48 k = nI (g 3 k) ∧ i 49 k = nI (g 4 k))
def GuM (g : Nat → Nat → Nat) (i : Tb) : Prop := i 50 49 = nI (g 0 0) ∧ i 50 52 = nI (g 0 1) ∧ (∀ k, k < g 0 0 → i 67 k = nI (g 1 k) ∧ i 68 k = nI (g 2 k)) ∧ (∀ k, k < g 0 1 → i 69 k = nI (g 3 k) ∧ i 70 k = nI (g 4 k))
def OkG (K g : Nat → Nat → Nat) : Prop := g 0 0 ≤ 8 ∧ g 0 1 ≤ 10 ∧ (∀ k, k < g 0 0 → g 1 k ≤ 1 ∧ g 2 k ≤ 999) ∧ (∀ k, k < g 0 1 → g 3 k < K 0 3 ∧ g 4 k ≤ 1)
section MQ3
variable {i j : Tb} {K g : Nat → Nat → Nat} {σ : Nat → Nat} {q p o k b : Nat}
theorem sumTo_z {f : Nat → Nat} {a : Nat} (h : ∀ z, a ≤ z → z < 9 → f z = 0) : ∀ d, a + d ≤ 9 → sumTo f (a + d) = sumTo f a := by
  intro d
  induction d with
  | zero => intro _; rfl
  | succ d ih =>
    intro h1
    show sumTo f (a + d) + f (a + d) = _
    rw [ih (by omega), h (a + d) (by omega) (by omega)]
    rfl
theorem sumTo_9 {f : Nat → Nat} {a : Nat} (ha : a ≤ 9) (h : ∀ z, a ≤ z → z < 9 → f z = 0) : sumTo f 9 = sumTo f a := by
  have := sumTo_z h (9 - a) (by omega)
  rw [show a + (9 - a) = 9 by omega] at this
  exact this
theorem m_asleepIn_4 {w n1 : Nat} (h' : CarM K j) (hK : OkK K) (hw : ScM K σ (j w)) (hn : 54 ≤ n1) (hn2 : n1 < 20000) : ∀ n k, k ≤ K 0 3 → K 0 3 - k < n → fX12_asleepIn_4 w n1 n (nI (sumTo (fun z => σ (27 + z)) k)) (nI k) j = some (nI (sumTo (fun z => σ (27 + z)) (K 0 3))) := by
  have hm := hK.1
  intro n
  induction n with
  | zero => intro k h1 h2; omega
  | succ n ih =>
    intro k h1 h2
    rw [fX12_asleepIn_4]
    by_cases h3 : k = K 0 3
    · subst h3
      simp (disch := omega) only [↓mz_lt, ↓mz_b1, ↓mz_b2, ↓mz_b3, mz_b1, mz_b2, mz_b3, mz_lt, mz_o0, mz_o1, nI_add, mz_mul, mz_sub, nI_clamp, mz_in, mz_le, mz_ltp, mz_eq, mz_nm, mz_mn, mz_ml, mz_mlt, mz_nl, mz_mle, qNN, q0, q1, q2, q3, q4, q5, q6, q7, q8, q9, q10, q11, q12, q13, q14, q15, q16, q17, q18, q19, q20, q21, q22, q23, q24, q25, q26, q27, q28, q29, q30, q31, q32, q33, q34, q35, q36, q37, q38, q39, q40, q41, q42, q43, q44, q45, q46, q47, q48, q49, q50, q51, q52, q53, q54, q55, q56, q57, q58, q59, q60, q61, q62, q63, q64, q65, q66, q67, q68, q69, q70, q71, q72, q73, q74, q75, q76, q77, q78, q79, q80, q81, q82, q83, q84, q85, q86, q87, q88, q89, q90, q91, q92, q93, q94, q95, q96, q97, q98, q99, q100, q101, q102, q103, q104, q105, q106, q107, q108, q109, q110, q111, q112, q113, q114, q115, q116, q117, q118, q119, q120, q121, q122, q123, q124, q125, q126, q127, q128, q129, q130, q240, q255, q256, q296, q400, q600, q896, q960, q999, q1000, q11544, q11840, q1000000, q1000000000, ↓reduceIte, if_pos, if_neg, ↓reduceIte, u2r, u2e, u2n, cp2r, cp2s, h'.1]
    · simp (disch := omega) only [↓mz_lt, ↓mz_b1, ↓mz_b2, ↓mz_b3, mz_b1, mz_b2, mz_b3, mz_lt, mz_o0, mz_o1, nI_add, mz_mul, mz_sub, nI_clamp, mz_in, mz_le, mz_ltp, mz_eq, mz_nm, mz_mn, mz_ml, mz_mlt, mz_nl, mz_mle, qNN, q0, q1, q2, q3, q4, q5, q6, q7, q8, q9, q10, q11, q12, q13, q14, q15, q16, q17, q18, q19, q20, q21, q22, q23, q24, q25, q26, q27, q28, q29, q30, q31, q32, q33, q34, q35, q36, q37, q38, q39, q40, q41, q42, q43, q44, q45, q46, q47, q48, q49, q50, q51, q52, q53, q54, q55, q56, q57, q58, q59, q60, q61, q62, q63, q64, q65, q66, q67, q68, q69, q70, q71, q72, q73, q74, q75, q76, q77, q78, q79, q80, q81, q82, q83, q84, q85, q86, q87, q88, q89, q90, q91, q92, q93, q94, q95, q96, q97, q98, q99, q100, q101, q102, q103, q104, q105, q106, q107, q108, q109, q110, q111, q112, q113, q114, q115, q116, q117, q118, q119, q120, q121, q122, q123, q124, q125, q126, q127, q128, q129, q130, q240, q255, q256, q296, q400, q600, q896, q960, q999, q1000, q11544, q11840, q1000000, q1000000000, ↓reduceIte, if_pos, if_neg, ↓reduceIte, u2r, u2e, u2n, cp2r, cp2s, h'.1, (hw.1 k (by omega)).2.2.1]
      exact ih (k + 1) (by omega) (by omega)
theorem m_asleepIn {w n1 : Nat} (h' : CarM K j) (hK : OkK K) (hb : OkS K b σ) (hw : ScM K σ (j w)) (hn : 54 ≤ n1) (hn2 : n1 < 20000) : fX12_asleepIn w n1 j = some (nI (sumTo (fun z => σ (27 + z)) 9)) := by
  have hm := hK.1
  have e := sumTo_9 (f := fun z => σ (27 + z)) hm (fun z hz hz2 => (hb.2.2.2.2.2.2.2.1 z hz2 hz).1)
  rw [e]
  exact m_asleepIn_4 h' hK hw hn hn2 fuel 0 (by omega) (by show K 0 3 - 0 < 30000; omega)
theorem m_lostIn_4 {w n1 : Nat} (h' : CarM K j) (hK : OkK K) (hw : ScM K σ (j w)) (hn : 54 ≤ n1) (hn2 : n1 < 20000) : ∀ n k, k ≤ K 0 3 → K 0 3 - k < n → fX12_lostIn_4 w n1 n (nI (sumTo (fun z => σ (45 + z)) k)) (nI k) j = some (nI (sumTo (fun z => σ (45 + z)) (K 0 3))) := by
  have hm := hK.1
  intro n
  induction n with
  | zero => intro k h1 h2; omega
  | succ n ih =>
    intro k h1 h2
    rw [fX12_lostIn_4]
    by_cases h3 : k = K 0 3
    · subst h3
      simp (disch := omega) only [↓mz_lt, ↓mz_b1, ↓mz_b2, ↓mz_b3, mz_b1, mz_b2, mz_b3, mz_lt, mz_o0, mz_o1, nI_add, mz_mul, mz_sub, nI_clamp, mz_in, mz_le, mz_ltp, mz_eq, mz_nm, mz_mn, mz_ml, mz_mlt, mz_nl, mz_mle, qNN, q0, q1, q2, q3, q4, q5, q6, q7, q8, q9, q10, q11, q12, q13, q14, q15, q16, q17, q18, q19, q20, q21, q22, q23, q24, q25, q26, q27, q28, q29, q30, q31, q32, q33, q34, q35, q36, q37, q38, q39, q40, q41, q42, q43, q44, q45, q46, q47, q48, q49, q50, q51, q52, q53, q54, q55, q56, q57, q58, q59, q60, q61, q62, q63, q64, q65, q66, q67, q68, q69, q70, q71, q72, q73, q74, q75, q76, q77, q78, q79, q80, q81, q82, q83, q84, q85, q86, q87, q88, q89, q90, q91, q92, q93, q94, q95, q96, q97, q98, q99, q100, q101, q102, q103, q104, q105, q106, q107, q108, q109, q110, q111, q112, q113, q114, q115, q116, q117, q118, q119, q120, q121, q122, q123, q124, q125, q126, q127, q128, q129, q130, q240, q255, q256, q296, q400, q600, q896, q960, q999, q1000, q11544, q11840, q1000000, q1000000000, ↓reduceIte, if_pos, if_neg, ↓reduceIte, u2r, u2e, u2n, cp2r, cp2s, h'.1]
    · simp (disch := omega) only [↓mz_lt, ↓mz_b1, ↓mz_b2, ↓mz_b3, mz_b1, mz_b2, mz_b3, mz_lt, mz_o0, mz_o1, nI_add, mz_mul, mz_sub, nI_clamp, mz_in, mz_le, mz_ltp, mz_eq, mz_nm, mz_mn, mz_ml, mz_mlt, mz_nl, mz_mle, qNN, q0, q1, q2, q3, q4, q5, q6, q7, q8, q9, q10, q11, q12, q13, q14, q15, q16, q17, q18, q19, q20, q21, q22, q23, q24, q25, q26, q27, q28, q29, q30, q31, q32, q33, q34, q35, q36, q37, q38, q39, q40, q41, q42, q43, q44, q45, q46, q47, q48, q49, q50, q51, q52, q53, q54, q55, q56, q57, q58, q59, q60, q61, q62, q63, q64, q65, q66, q67, q68, q69, q70, q71, q72, q73, q74, q75, q76, q77, q78, q79, q80, q81, q82, q83, q84, q85, q86, q87, q88, q89, q90, q91, q92, q93, q94, q95, q96, q97, q98, q99, q100, q101, q102, q103, q104, q105, q106, q107, q108, q109, q110, q111, q112, q113, q114, q115, q116, q117, q118, q119, q120, q121, q122, q123, q124, q125, q126, q127, q128, q129, q130, q240, q255, q256, q296, q400, q600, q896, q960, q999, q1000, q11544, q11840, q1000000, q1000000000, ↓reduceIte, if_pos, if_neg, ↓reduceIte, u2r, u2e, u2n, cp2r, cp2s, h'.1, (hw.1 k (by omega)).2.2.2.2]
      exact ih (k + 1) (by omega) (by omega)
theorem m_lostIn {w n1 : Nat} (h' : CarM K j) (hK : OkK K) (hb : OkS K b σ) (hw : ScM K σ (j w)) (hn : 54 ≤ n1) (hn2 : n1 < 20000) : fX12_lostIn w n1 j = some (nI (sumTo (fun z => σ (45 + z)) 9)) := by
  have hm := hK.1
  have e := sumTo_9 (f := fun z => σ (45 + z)) hm (fun z hz hz2 => by
    have h1 := (hb.2.2.2.2.2.2.2.1 z hz2 hz).2
    have h2 := (hb.2.2.2.2.2.2.1 z hz2).2.2
    show σ (45 + z) = 0
    omega)
  rw [e]
  exact m_lostIn_4 h' hK hw hn hn2 fuel 0 (by omega) (by show K 0 3 - 0 < 30000; omega)
theorem mz_min {a b : Nat} (ha : a < 2 ^ 31) (hb : b < 2 ^ 31) : (if nI a < nI b then nI a else nI b) = nI (min b a) := by
  rw [show (if nI a < nI b then nI a else nI b) = if a < b then nI a else nI b from by simp only [mz_ltp ha hb]]
  split <;> congr 1 <;> omega
theorem mz_max {a b : Nat} (ha : a < 2 ^ 31) (hb : b < 2 ^ 31) : (if nI a < nI b then nI b else nI a) = nI (max a b) := by
  rw [show (if nI a < nI b then nI b else nI a) = if a < b then nI b else nI a from by simp only [mz_ltp ha hb]]
  split <;> congr 1 <;> omega
theorem c_logged (hs : ScC σ (i (q + 1))) (hb : OkS K b σ) (hb2 : b < 20000000) : fX6_logged q i = some (nI (min 60 (σ 55))) := by
  have h1 := hb.2.2.2.2.2.2.2.2.2
  unfold fX6_logged
  rw [s_borders hs, mz_b1, q60, mz_min (by omega) (by omega)]
theorem R_count (h : CarC 15 K i) (h' : CarM K j) (hK : OkK K) (hb : OkS K b σ) (hb2 : b < 20000000) (hs : ScC σ (i 20)) (hw : ScM K σ (j 63)) {d : Nat → Int32} (hl : LgM d (σ 55) (j 63)) (hg : GuC g i) (hg' : GuM g j)
    (e1 : i 3 4 = j 50 7) (e2 : i 3 5 = j 50 31) (e3 : i 1 1 = j 50 6) (e4 : i 0 12 = j 50 35) (e5 : i 0 11 = j 50 36) (e6 : i 25 5 = j 50 42) (a1 : Int32) : ∃ v, fX11_count a1 i = some v ∧ fX12_count a1 j = some (v, u2 j 50 0 0) := by
  have h'' := m_car0 (x := 0) (v := 0) h' (by omega)
  have hw' : ScM K σ (u2 j 50 0 0 63) := by rw [u2r _ _ _ _ _ (by omega)]; exact hw
  unfold fX11_count fX12_count fX1_sleepers fX1_officers fX9_lawCount fX9_linesCount fX10_size fX1_papers fX2_heard fX2_looks fX6_acts
  rw [s_asleepInAll (q := 19) hs, s_lostInAll (q := 19) hs, c_logged (q := 19) hs hb hb2, mz_lt, m_asleepIn h'' hK hb hw' (by omega) (by omega), m_lostIn h'' hK hb hw' (by omega) (by omega)]
  by_cases h0 : a1 = 0
  · exact ⟨nI (K 0 3), by rw [if_pos h0]; exact congrArg some h.1, by rw [if_pos h0, u2n _ _ _ _ _ (by omega), h'.1]⟩
  by_cases h1 : a1 = 1
  · exact ⟨nI (K 0 4), by rw [if_neg h0, if_pos h1]; exact congrArg some h.2.1, by rw [if_neg h0, if_pos h1, u2n _ _ _ _ _ (by omega), h'.2.1]⟩
  by_cases h2 : a1 = 2
  · exact ⟨j 50 7, by rw [if_neg h0, if_neg h1, if_pos h2]; exact congrArg some e1, by rw [if_neg h0, if_neg h1, if_pos h2, u2n _ _ _ _ _ (by omega)]⟩
  by_cases h3 : a1 = 3
  · exact ⟨j 50 31, by rw [if_neg h0, if_neg h1, if_neg h2, if_pos h3]; exact congrArg some e2, by rw [if_neg h0, if_neg h1, if_neg h2, if_pos h3, u2n _ _ _ _ _ (by omega)]⟩
  by_cases h4 : a1 = 4
  · exact ⟨j 50 6, by rw [if_neg h0, if_neg h1, if_neg h2, if_neg h3, if_pos h4]; exact congrArg some e3, by rw [if_neg h0, if_neg h1, if_neg h2, if_neg h3, if_pos h4, u2n _ _ _ _ _ (by omega)]⟩
  by_cases h5 : a1 = 5
  · exact ⟨j 50 35, by rw [if_neg h0, if_neg h1, if_neg h2, if_neg h3, if_neg h4, if_pos h5]; exact congrArg some e4, by rw [if_neg h0, if_neg h1, if_neg h2, if_neg h3, if_neg h4, if_pos h5, u2n _ _ _ _ _ (by omega)]⟩
  by_cases h6 : a1 = 6
  · exact ⟨nI (K 0 5), by rw [if_neg h0, if_neg h1, if_neg h2, if_neg h3, if_neg h4, if_neg h5, if_pos h6]; exact congrArg some h.2.2.1, by rw [if_neg h0, if_neg h1, if_neg h2, if_neg h3, if_neg h4, if_neg h5, if_pos h6, u2n _ _ _ _ _ (by omega), h'.2.2.1]⟩
  by_cases h7 : a1 = 7
  · exact ⟨nI (sumTo (fun z => σ (27 + z)) 9), by rw [if_neg h0, if_neg h1, if_neg h2, if_neg h3, if_neg h4, if_neg h5, if_neg h6, if_pos h7]; rfl, by rw [if_neg h0, if_neg h1, if_neg h2, if_neg h3, if_neg h4, if_neg h5, if_neg h6, if_pos h7]; rfl⟩
  by_cases h8 : a1 = 8
  · exact ⟨j 50 36, by rw [if_neg h0, if_neg h1, if_neg h2, if_neg h3, if_neg h4, if_neg h5, if_neg h6, if_neg h7, if_pos h8]; exact congrArg some e5, by rw [if_neg h0, if_neg h1, if_neg h2, if_neg h3, if_neg h4, if_neg h5, if_neg h6, if_neg h7, if_pos h8, u2n _ _ _ _ _ (by omega)]⟩
  by_cases h9 : a1 = 9
  · exact ⟨nI (g 0 0), by rw [if_neg h0, if_neg h1, if_neg h2, if_neg h3, if_neg h4, if_neg h5, if_neg h6, if_neg h7, if_neg h8, if_pos h9]; exact congrArg some hg.1, by rw [if_neg h0, if_neg h1, if_neg h2, if_neg h3, if_neg h4, if_neg h5, if_neg h6, if_neg h7, if_neg h8, if_pos h9, u2n _ _ _ _ _ (by omega), hg'.1]⟩
  by_cases h10 : a1 = 10
  · exact ⟨nI (g 0 1), by rw [if_neg h0, if_neg h1, if_neg h2, if_neg h3, if_neg h4, if_neg h5, if_neg h6, if_neg h7, if_neg h8, if_neg h9, if_pos h10]; exact congrArg some hg.2.1, by rw [if_neg h0, if_neg h1, if_neg h2, if_neg h3, if_neg h4, if_neg h5, if_neg h6, if_neg h7, if_neg h8, if_neg h9, if_pos h10, u2n _ _ _ _ _ (by omega), hg'.2.1]⟩
  by_cases h11 : a1 = 11
  · exact ⟨nI (min 60 (σ 55)), by rw [if_neg h0, if_neg h1, if_neg h2, if_neg h3, if_neg h4, if_neg h5, if_neg h6, if_neg h7, if_neg h8, if_neg h9, if_neg h10, if_pos h11]; rfl, by rw [if_neg h0, if_neg h1, if_neg h2, if_neg h3, if_neg h4, if_neg h5, if_neg h6, if_neg h7, if_neg h8, if_neg h9, if_neg h10, if_pos h11, q55, mz_in (by omega) (by omega), if_pos rfl, u2r _ _ _ _ _ (by omega), nI_clamp (by omega), hl.1]⟩
  by_cases h12 : a1 = 12
  · exact ⟨j 50 42, by rw [if_neg h0, if_neg h1, if_neg h2, if_neg h3, if_neg h4, if_neg h5, if_neg h6, if_neg h7, if_neg h8, if_neg h9, if_neg h10, if_neg h11, if_pos h12]; exact congrArg some e6, by rw [if_neg h0, if_neg h1, if_neg h2, if_neg h3, if_neg h4, if_neg h5, if_neg h6, if_neg h7, if_neg h8, if_neg h9, if_neg h10, if_neg h11, if_pos h12, u2n _ _ _ _ _ (by omega)]⟩
  by_cases h13 : a1 = 13
  · exact ⟨nI (sumTo (fun z => σ (45 + z)) 9), by rw [if_neg h0, if_neg h1, if_neg h2, if_neg h3, if_neg h4, if_neg h5, if_neg h6, if_neg h7, if_neg h8, if_neg h9, if_neg h10, if_neg h11, if_neg h12, if_pos h13]; rfl, by rw [if_neg h0, if_neg h1, if_neg h2, if_neg h3, if_neg h4, if_neg h5, if_neg h6, if_neg h7, if_neg h8, if_neg h9, if_neg h10, if_neg h11, if_neg h12, if_pos h13]; rfl⟩
  exact ⟨-1000000, by rw [if_neg h0, if_neg h1, if_neg h2, if_neg h3, if_neg h4, if_neg h5, if_neg h6, if_neg h7, if_neg h8, if_neg h9, if_neg h10, if_neg h11, if_neg h12, if_neg h13], by rw [if_neg h0, if_neg h1, if_neg h2, if_neg h3, if_neg h4, if_neg h5, if_neg h6, if_neg h7, if_neg h8, if_neg h9, if_neg h10, if_neg h11, if_neg h12, if_neg h13]⟩
theorem R_log (hK : OkK K) (hb : OkS K b σ) (hb2 : b < 20000000) (hs : ScC σ (i 20)) (hl : LgM (i 27) (σ 55) (j 63)) (a1 a2 : Int32) : ∃ v, fX11_log a1 a2 i = some v ∧ fX12_log a1 a2 j = some (v, u2 j 50 0 0) := by
  have h1 := hb.2.2.2.2.2.2.2.2.2
  unfold fX11_log fX12_log
  rw [c_logged (q := 19) hs hb hb2]
  rcases mz_cases a1 with h2 | ⟨x, hx, rfl⟩
  · simp only [L0]
    rw [mz_lt, mz_isG (by omega) h2]
    simp (disch := omega) only [↓mz_lt, ↓mz_b1, ↓mz_b2, ↓mz_b3, mz_b1, mz_b2, mz_b3, mz_lt, mz_o0, mz_o1, nI_add, mz_mul, mz_sub, nI_clamp, mz_in, mz_le, mz_ltp, mz_eq, mz_nm, mz_mn, mz_ml, mz_mlt, mz_nl, mz_mle, qNN, q0, q1, q2, q3, q4, q5, q6, q7, q8, q9, q10, q11, q12, q13, q14, q15, q16, q17, q18, q19, q20, q21, q22, q23, q24, q25, q26, q27, q28, q29, q30, q31, q32, q33, q34, q35, q36, q37, q38, q39, q40, q41, q42, q43, q44, q45, q46, q47, q48, q49, q50, q51, q52, q53, q54, q55, q56, q57, q58, q59, q60, q61, q62, q63, q64, q65, q66, q67, q68, q69, q70, q71, q72, q73, q74, q75, q76, q77, q78, q79, q80, q81, q82, q83, q84, q85, q86, q87, q88, q89, q90, q91, q92, q93, q94, q95, q96, q97, q98, q99, q100, q101, q102, q103, q104, q105, q106, q107, q108, q109, q110, q111, q112, q113, q114, q115, q116, q117, q118, q119, q120, q121, q122, q123, q124, q125, q126, q127, q128, q129, q130, q240, q255, q256, q296, q400, q600, q896, q960, q999, q1000, q11544, q11840, q1000000, q1000000000, ↓reduceIte, if_pos, if_neg, ↓reduceIte, u2r, u2e, u2n, cp2r, cp2s, h2]
    exact ⟨_, rfl, rfl⟩
  simp (disch := omega) only [mz_lt, u2r, q55, nI_clamp, hl.1, if_pos, if_neg, ↓reduceIte, mz_in, mz_b1, q0, mz_ltp, mz_le]
  by_cases h3 : σ 55 = 0
  · simp (disch := omega) only [h3, Nat.min_zero, if_pos, if_neg, ↓reduceIte]
    refine ⟨_, rfl, ?_⟩
    rw [show nI 0 - 1 = NN from rfl, L0, mz_isIn, if_neg (by
      rw [mz_ml (by omega)]
      exact fun e => e.2)]
    rfl
  rw [show nI (min 60 (σ 55)) - 1 = nI (min 60 (σ 55) - 1) from by rw [q1, mz_sub (by omega)]]
  rw [L0, mz_isN (by omega) (by omega) (by omega)]
  by_cases h4 : x < min 60 (σ 55)
  · rcases mz_cases a2 with h5 | ⟨y, hy, rfl⟩
    · rw [mz_isG (by omega) h5]
      simp (disch := omega) only [↓mz_lt, ↓mz_b1, ↓mz_b2, ↓mz_b3, mz_b1, mz_b2, mz_b3, mz_lt, mz_o0, mz_o1, nI_add, mz_mul, mz_sub, nI_clamp, mz_in, mz_le, mz_ltp, mz_eq, mz_nm, mz_mn, mz_ml, mz_mlt, mz_nl, mz_mle, qNN, q0, q1, q2, q3, q4, q5, q6, q7, q8, q9, q10, q11, q12, q13, q14, q15, q16, q17, q18, q19, q20, q21, q22, q23, q24, q25, q26, q27, q28, q29, q30, q31, q32, q33, q34, q35, q36, q37, q38, q39, q40, q41, q42, q43, q44, q45, q46, q47, q48, q49, q50, q51, q52, q53, q54, q55, q56, q57, q58, q59, q60, q61, q62, q63, q64, q65, q66, q67, q68, q69, q70, q71, q72, q73, q74, q75, q76, q77, q78, q79, q80, q81, q82, q83, q84, q85, q86, q87, q88, q89, q90, q91, q92, q93, q94, q95, q96, q97, q98, q99, q100, q101, q102, q103, q104, q105, q106, q107, q108, q109, q110, q111, q112, q113, q114, q115, q116, q117, q118, q119, q120, q121, q122, q123, q124, q125, q126, q127, q128, q129, q130, q240, q255, q256, q296, q400, q600, q896, q960, q999, q1000, q11544, q11840, q1000000, q1000000000, ↓reduceIte, if_pos, if_neg, ↓reduceIte, u2r, u2e, u2n, cp2r, cp2s, h5]
      exact ⟨_, rfl, rfl⟩
    · rw [L3, mz_isN (by omega) (by omega) (by omega)]
      by_cases h6 : y < 4
      · have e := hl.2 x y h4 h6
        unfold fX6_logEntry
        rw [s_borders (q := 19) hs]
        have h7 : (σ 55 - 1 - x) % 100 < 100 := Nat.mod_lt _ (by omega)
        simp (disch := omega) only [↓mz_lt, ↓mz_b1, ↓mz_b2, ↓mz_b3, mz_b1, mz_b2, mz_b3, mz_lt, mz_o0, mz_o1, nI_add, mz_mul, mz_sub, nI_clamp, mz_in, mz_le, mz_ltp, mz_eq, mz_nm, mz_mn, mz_ml, mz_mlt, mz_nl, mz_mle, qNN, q0, q1, q2, q3, q4, q5, q6, q7, q8, q9, q10, q11, q12, q13, q14, q15, q16, q17, q18, q19, q20, q21, q22, q23, q24, q25, q26, q27, q28, q29, q30, q31, q32, q33, q34, q35, q36, q37, q38, q39, q40, q41, q42, q43, q44, q45, q46, q47, q48, q49, q50, q51, q52, q53, q54, q55, q56, q57, q58, q59, q60, q61, q62, q63, q64, q65, q66, q67, q68, q69, q70, q71, q72, q73, q74, q75, q76, q77, q78, q79, q80, q81, q82, q83, q84, q85, q86, q87, q88, q89, q90, q91, q92, q93, q94, q95, q96, q97, q98, q99, q100, q101, q102, q103, q104, q105, q106, q107, q108, q109, q110, q111, q112, q113, q114, q115, q116, q117, q118, q119, q120, q121, q122, q123, q124, q125, q126, q127, q128, q129, q130, q240, q255, q256, q296, q400, q600, q896, q960, q999, q1000, q11544, q11840, q1000000, q1000000000, ↓reduceIte, if_pos, if_neg, ↓reduceIte, mz_rem, e, Nat.mul_comm ((σ 55 - 1 - x) % 100) 4]
        exact ⟨_, rfl, rfl⟩
      · simp (disch := omega) only [↓mz_lt, ↓mz_b1, ↓mz_b2, ↓mz_b3, mz_b1, mz_b2, mz_b3, mz_lt, mz_o0, mz_o1, nI_add, mz_mul, mz_sub, nI_clamp, mz_in, mz_le, mz_ltp, mz_eq, mz_nm, mz_mn, mz_ml, mz_mlt, mz_nl, mz_mle, qNN, q0, q1, q2, q3, q4, q5, q6, q7, q8, q9, q10, q11, q12, q13, q14, q15, q16, q17, q18, q19, q20, q21, q22, q23, q24, q25, q26, q27, q28, q29, q30, q31, q32, q33, q34, q35, q36, q37, q38, q39, q40, q41, q42, q43, q44, q45, q46, q47, q48, q49, q50, q51, q52, q53, q54, q55, q56, q57, q58, q59, q60, q61, q62, q63, q64, q65, q66, q67, q68, q69, q70, q71, q72, q73, q74, q75, q76, q77, q78, q79, q80, q81, q82, q83, q84, q85, q86, q87, q88, q89, q90, q91, q92, q93, q94, q95, q96, q97, q98, q99, q100, q101, q102, q103, q104, q105, q106, q107, q108, q109, q110, q111, q112, q113, q114, q115, q116, q117, q118, q119, q120, q121, q122, q123, q124, q125, q126, q127, q128, q129, q130, q240, q255, q256, q296, q400, q600, q896, q960, q999, q1000, q11544, q11840, q1000000, q1000000000, ↓reduceIte, if_pos, if_neg, ↓reduceIte, u2r, u2e, u2n, cp2r, cp2s]
        exact ⟨_, rfl, rfl⟩
  · simp (disch := omega) only [↓mz_lt, ↓mz_b1, ↓mz_b2, ↓mz_b3, mz_b1, mz_b2, mz_b3, mz_lt, mz_o0, mz_o1, nI_add, mz_mul, mz_sub, nI_clamp, mz_in, mz_le, mz_ltp, mz_eq, mz_nm, mz_mn, mz_ml, mz_mlt, mz_nl, mz_mle, qNN, q0, q1, q2, q3, q4, q5, q6, q7, q8, q9, q10, q11, q12, q13, q14, q15, q16, q17, q18, q19, q20, q21, q22, q23, q24, q25, q26, q27, q28, q29, q30, q31, q32, q33, q34, q35, q36, q37, q38, q39, q40, q41, q42, q43, q44, q45, q46, q47, q48, q49, q50, q51, q52, q53, q54, q55, q56, q57, q58, q59, q60, q61, q62, q63, q64, q65, q66, q67, q68, q69, q70, q71, q72, q73, q74, q75, q76, q77, q78, q79, q80, q81, q82, q83, q84, q85, q86, q87, q88, q89, q90, q91, q92, q93, q94, q95, q96, q97, q98, q99, q100, q101, q102, q103, q104, q105, q106, q107, q108, q109, q110, q111, q112, q113, q114, q115, q116, q117, q118, q119, q120, q121, q122, q123, q124, q125, q126, q127, q128, q129, q130, q240, q255, q256, q296, q400, q600, q896, q960, q999, q1000, q11544, q11840, q1000000, q1000000000, ↓reduceIte, if_pos, if_neg, ↓reduceIte, u2r, u2e, u2n, cp2r, cp2s]
    exact ⟨_, rfl, rfl⟩
end MQ3
