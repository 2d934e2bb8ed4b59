/-! sleep lost, second half -/
section LS2
variable {i i' j : Tb} {rv : Nat → Nat → Option Nat} {K g : Nat → Nat → Nat} {W : Option ((Nat → Nat) → Int)} {σ : Nat → Nat} {q p o k b d t w : Nat} {l l' : List Nat}
theorem C_loss (h : CarC 15 K i) (hK : OkK K) (hb : OkS K b σ) (hb2 : b ≤ 100000) (hs : ScC σ (i (q + 1))) (hq : q = 19 ∨ q = 21) (hL : LawC W i rv) (hp : p < K 0 3) (ht : t ≤ 100000) (ho : o ≤ 9) : ∃ i', fX3_lossOf q (nI p) (nI t) (nI o) i rv = some (nI (lossN K W σ p t o), i') ∧ FrL [24] rv i i' := by
  have hm := hK.1
  have hn := hK.2.2.2.2.2.2.2.2.2.1 p
  have hw := (hb.2.2.2.2.2.2.1 p (by omega)).2.1
  have hn2 := hn 2 hp (by omega)
  have hn5 := hn 5 hp (by omega)
  have hsn := snr_le (σ := σ) (p := p) hK
  unfold fX3_lossOf
  simp only [q2, q5]
  rw [c_ofSleeper h (by omega) (by omega), s_timesWoken hs (by omega)]
  simp only [mz_b1, mz_lt, mz_mul, nI_add]
  rcases hL with ⟨hW, hr⟩ | ⟨f, a, cs, hW, hr, ha, hA, hO⟩
  · subst hW
    rw [hr]
    simp only [mz_o0, fX3_lossOf_106]
    refine ⟨i, ?_, fun _ _ _ _ => rfl⟩
    rw [zI_n, clp_z (by omega) (by omega)]
    show _ = some (nI (clp ((5 + sv K p 2 + 5 * σ (36 + p) : Nat) : Int)), i)
    congr 4
    omega
  · subst hW
    rw [hr]
    simp only [mz_o1]
    have hcar : ∀ k v, CarC 15 K (u2 i 24 k v) → ∀ k' v', CarC 15 K (u2 (u2 i 24 k v) 24 k' v') := fun k v h1 k' v' => CarC_f h1 (fun q _ _ => u2r _ _ _ _ _ (by omega))
    have hu : ∀ (x : Tb) k v, CarC 15 K x → CarC 15 K (u2 x 24 k v) := fun x k v h1 => CarC_f h1 (fun q _ _ => u2r _ _ _ _ _ (by omega))
    have hv : ∀ (x : Tb) k v, ScC σ (x (q + 1)) → ScC σ (u2 x 24 k v (q + 1)) := fun x k v h1 => by rw [u2r _ _ _ _ _ (by omega)]; exact h1
    simp (disch := omega) only [q0, q1, q2, q3, q4, q5, mz_in, nI_clamp, ↓reduceIte]
    rw [s_timesWoken (hv _ _ _ hs) (by omega)]
    simp only [mz_b1]
    rw [c_ofSleeper (hu _ _ _ (hu _ _ _ (hu _ _ _ h))) (by omega) (by omega)]
    simp only [mz_b1]
    rw [c_snores (hu _ _ _ (hu _ _ _ (hu _ _ _ (hu _ _ _ (hu _ _ _ h))))) hK hb (hv _ _ _ (hv _ _ _ (hv _ _ _ (hv _ _ _ (hv _ _ _ hs))))) hp]
    simp only [mz_b1]
    generalize hi : u2 (u2 (u2 (u2 (u2 (u2 i 24 0 (nI (sv K p 2))) 24 1 (nI (σ (36 + p)))) 24 2 (nI t)) 24 3 (nI (sv K p 5))) 24 4 (nI o)) 24 5 (nI (snr K σ p)) = i6
    have hrow : ∀ z, z ≠ 24 → i6 z = i z := fun z hz => by
      rw [← hi, u2r _ _ _ _ _ hz, u2r _ _ _ _ _ hz, u2r _ _ _ _ _ hz, u2r _ _ _ _ _ hz, u2r _ _ _ _ _ hz, u2r _ _ _ _ _ hz]
    have hA6 : LawAt a cs i6 := by
      unfold LawAt
      rw [hrow a (by omega), hrow (a + 1) (by omega)]
      exact hA
    have hlt : ∀ z, z < 6 → i6 24 z = nI (ltr K σ p t o z) ∧ ltr K σ p t o z ≤ 100000 := by
      intro z hz
      rw [← hi]
      have hz6 : z = 0 ∨ z = 1 ∨ z = 2 ∨ z = 3 ∨ z = 4 ∨ z = 5 := by omega
      unfold ltr
      rcases hz6 with rfl | rfl | rfl | rfl | rfl | rfl <;> simp (disch := omega) only [u2e, u2n, if_pos, if_neg, ↓reduceIte, true_and] <;> omega
    obtain ⟨⟨hb1, hb3⟩, i', hf, hfr⟩ := hO a i6 _ ha hA6 hlt
    rw [show 100 + a - 100 = a by omega, hf]
    simp only [mz_b2, fX3_lossOf_106]
    refine ⟨i', ?_, ?_⟩
    · rw [clp_z hb1 (by omega)]
      rfl
    · intro z k hz hz2
      obtain ⟨h1, h2⟩ := hz2 a hr
      rw [hfr z k h1 h2, hrow z (fun e => hz (by simp [e]))]
theorem c_lossByHand (h : CarC 15 K i) (hK : OkK K) (hb : OkS K b σ) (hb2 : b ≤ 100000) (hs : ScC σ (i (q + 1))) (hq : q = 19 ∨ q = 21) (hL : LawC W i rv) (hp : p < K 0 3) : ∃ i', fX3_lossByHand q (nI p) i rv = some (nI (lossN K W σ p 0 9), i') ∧ FrL [24] rv i i' := by
  obtain ⟨i', h1, h2⟩ := C_loss h hK hb hb2 hs hq hL hp (t := 0) (o := 9) (by omega) (by omega)
  refine ⟨i', ?_, h2⟩
  unfold fX3_lossByHand
  rw [q0, q9, h1]
  rfl
/-! the reference's -/
theorem m_inBerth_2 (h' : CarM K j) (hK : OkK K) (hb : OkS K b σ) (hw : ScM K σ (j w)) (hx : k < K 0 3) : ∀ n r, r ≤ k → k - r < n → fX12_inBerth_2 w 296 n (nI (σ k)) (nI r) j = some (nI k) := by
  have hm := hK.1
  intro n
  induction n with
  | zero => intro r h1 h2; omega
  | succ n ih =>
    intro r h1 h2
    rw [fX12_inBerth_2]
    have h3 := hb.1 k hx
    have h4 := hb.1 r (by omega)
    simp (disch := omega) only [↓mz_lt, ↓mz_b1, ↓mz_b2, ↓mz_b3, mz_b1, mz_b2, mz_b3, mz_lt, mz_o0, mz_o1, nI_add, mz_mul, mz_sub, nI_clamp, mz_in, mz_le, mz_ltp, mz_eq, mz_nm, mz_mn, mz_ml, mz_mlt, mz_nl, mz_mle, qNN, q0, q1, q2, q3, q4, q5, q6, q7, q8, q9, q10, q11, q12, q13, q14, q15, q16, q17, q18, q19, q20, q21, q22, q23, q24, q25, q26, q27, q28, q29, q30, q31, q32, q33, q34, q35, q36, q37, q38, q39, q40, q41, q42, q43, q44, q45, q46, q47, q48, q49, q50, q51, q52, q53, q54, q55, q56, q57, q58, q59, q60, q61, q62, q63, q64, q65, q66, q67, q68, q69, q70, q71, q72, q73, q74, q75, q76, q77, q78, q79, q80, q81, q82, q83, q84, q85, q86, q87, q88, q89, q90, q91, q92, q93, q94, q95, q96, q97, q98, q99, q100, q101, q102, q103, q104, q105, q106, q107, q108, q109, q110, q111, q112, q113, q114, q115, q116, q117, q118, q119, q120, q121, q122, q123, q124, q125, q126, q127, q128, q129, q130, q240, q255, q256, q296, q400, q600, q896, q960, q999, q1000, q11544, q11840, q1000000, q1000000000, ↓reduceIte, if_pos, if_neg, ↓reduceIte, u2r, u2e, u2n, cp2r, cp2s, Nat.add_zero, h'.1, (hw.1 r (by omega)).1]
    by_cases h5 : r = k
    · subst h5
      simp only [↓reduceIte]
    · rw [if_neg (fun e => h5 (hb.2.1 r k (by omega) hx e))]
      exact ih (r + 1) (by omega) (by omega)
theorem m_inBerth_n {x : Int32} (h' : CarM K j) (hK : OkK K) (hw : ScM K σ (j w)) (hx : ∀ z, z < K 0 3 → nI (σ z) ≠ x) : ∀ n r, r ≤ K 0 3 → K 0 3 - r < n → fX12_inBerth_2 w 296 n x (nI r) j = some NN := by
  have hm := hK.1
  intro n
  induction n with
  | zero => intro r h1 h2; omega
  | succ n ih =>
    intro r h1 h2
    rw [fX12_inBerth_2]
    by_cases h5 : r = K 0 3
    · subst h5
      simp (disch := omega) only [↓mz_lt, ↓mz_b1, ↓mz_b2, ↓mz_b3, mz_b1, mz_b2, mz_b3, mz_lt, mz_o0, mz_o1, nI_add, mz_mul, mz_sub, nI_clamp, mz_in, mz_le, mz_ltp, mz_eq, mz_nm, mz_mn, mz_ml, mz_mlt, mz_nl, mz_mle, qNN, q0, q1, q2, q3, q4, q5, q6, q7, q8, q9, q10, q11, q12, q13, q14, q15, q16, q17, q18, q19, q20, q21, q22, q23, q24, q25, q26, q27, q28, q29, q30, q31, q32, q33, q34, q35, q36, q37, q38, q39, q40, q41, q42, q43, q44, q45, q46, q47, q48, q49, q50, q51, q52, q53, q54, q55, q56, q57, q58, q59, q60, q61, q62, q63, q64, q65, q66, q67, q68, q69, q70, q71, q72, q73, q74, q75, q76, q77, q78, q79, q80, q81, q82, q83, q84, q85, q86, q87, q88, q89, q90, q91, q92, q93, q94, q95, q96, q97, q98, q99, q100, q101, q102, q103, q104, q105, q106, q107, q108, q109, q110, q111, q112, q113, q114, q115, q116, q117, q118, q119, q120, q121, q122, q123, q124, q125, q126, q127, q128, q129, q130, q240, q255, q256, q296, q400, q600, q896, q960, q999, q1000, q11544, q11840, q1000000, q1000000000, ↓reduceIte, if_pos, if_neg, ↓reduceIte, u2r, u2e, u2n, cp2r, cp2s, h'.1]
    · simp (disch := omega) only [↓mz_lt, ↓mz_b1, ↓mz_b2, ↓mz_b3, mz_b1, mz_b2, mz_b3, mz_lt, mz_o0, mz_o1, nI_add, mz_mul, mz_sub, nI_clamp, mz_in, mz_le, mz_ltp, mz_eq, mz_nm, mz_mn, mz_ml, mz_mlt, mz_nl, mz_mle, qNN, q0, q1, q2, q3, q4, q5, q6, q7, q8, q9, q10, q11, q12, q13, q14, q15, q16, q17, q18, q19, q20, q21, q22, q23, q24, q25, q26, q27, q28, q29, q30, q31, q32, q33, q34, q35, q36, q37, q38, q39, q40, q41, q42, q43, q44, q45, q46, q47, q48, q49, q50, q51, q52, q53, q54, q55, q56, q57, q58, q59, q60, q61, q62, q63, q64, q65, q66, q67, q68, q69, q70, q71, q72, q73, q74, q75, q76, q77, q78, q79, q80, q81, q82, q83, q84, q85, q86, q87, q88, q89, q90, q91, q92, q93, q94, q95, q96, q97, q98, q99, q100, q101, q102, q103, q104, q105, q106, q107, q108, q109, q110, q111, q112, q113, q114, q115, q116, q117, q118, q119, q120, q121, q122, q123, q124, q125, q126, q127, q128, q129, q130, q240, q255, q256, q296, q400, q600, q896, q960, q999, q1000, q11544, q11840, q1000000, q1000000000, ↓reduceIte, if_pos, if_neg, ↓reduceIte, u2r, u2e, u2n, cp2r, cp2s, Nat.add_zero, h'.1, (hw.1 r (by omega)).1]
      rw [if_neg (hx r (by omega))]
      exact ih (r + 1) (by omega) (by omega)
/-- who lies in berth x, or none; and its snores -/
theorem m_inBerth (x : Int32) (y : Int) (hxy : x = zI y) (hy : -1 ≤ y) (hy2 : y < 1000) (h' : CarM K j) (hK : OkK K) (hb : OkS K b σ) (hw : ScM K σ (j w)) : (fX12_inBerth w 296 x j = some NN ∧ sumTo (fun z => if (σ z : Int) = y then sv K z 3 else 0) (K 0 3) = 0) ∨ ∃ k, k < K 0 3 ∧ fX12_inBerth w 296 x j = some (nI k) ∧ sumTo (fun z => if (σ z : Int) = y then sv K z 3 else 0) (K 0 3) = sv K k 3 := by
  have hm := hK.1
  by_cases he : ∃ z, z < K 0 3 ∧ (σ z : Int) = y
  · obtain ⟨z, hz, e⟩ := he
    refine Or.inr ⟨z, hz, ?_, ?_⟩
    · rw [hxy, ← e, ← zI_n]
      exact m_inBerth_2 h' hK hb hw hz fuel 0 (by omega) (by show z - 0 < 30000; omega)
    · rw [sumTo_only hz, if_pos e]
      intro z' hz' hne
      rw [if_neg (fun e' => hne (hb.2.1 z' z hz' hz (by omega)))]
  · refine Or.inl ⟨?_, ?_⟩
    · refine m_inBerth_n h' hK hw (fun z hz e => he ⟨z, hz, ?_⟩) fuel 0 (by omega) (by show K 0 3 - 0 < 30000; omega)
      rw [hxy, zI_n] at e
      have h1 := hb.1 z hz
      rw [zI_eq (by omega) (by omega) (by omega) (by omega)] at e
      exact e
    · exact sumTo_zero (fun z hz => if_neg (fun e => he ⟨z, hz, e⟩))
theorem m_snores_s {x4 c : Int32} {y : Int} (h4 : x4 = zI y) (hy : y = -1 ∨ y = 1) (h' : CarM K j) (hK : OkK K) (hb : OkS K b σ) (hw : ScM K σ (j w)) (hp : p < K 0 3) (n : Nat) : fX12_snoresBeside_5 w 296 (n + 1) (nI p) c x4 j = fX12_snoresBeside_5 w 296 n (nI p) (c + nI (sumTo (fun z => if (σ z : Int) = σ p + y then sv K z 3 else 0) (K 0 3))) (x4 + 2) j := by
  have hm := hK.1
  have h1 := hb.1 p hp
  rw [fX12_snoresBeside_5, if_neg (by
    rw [h4, show (2 : Int32) = zI 2 from rfl, zI_le (by omega) (by omega) (by omega) (by omega)]
    omega)]
  simp (disch := omega) only [q6, q0, q3, mz_mul, nI_add, Nat.add_zero, mz_in, nI_clamp, ↓reduceIte, (hw.1 p hp).1, fX12_snoresBeside_52]
  rcases m_inBerth (nI (σ p) + x4) ((σ p : Int) + y) (by rw [h4, zI_n, zI_add]) (by omega) (by omega) h' hK hb hw with ⟨e, e2⟩ | ⟨k, hk, e, e2⟩
  · rw [e, e2]
    simp only [mz_b1]
    rw [if_pos (show NN = -1 from rfl)]
  · rw [e, e2]
    simp (disch := omega) only [↓mz_lt, ↓mz_b1, ↓mz_b2, ↓mz_b3, mz_b1, mz_b2, mz_b3, mz_lt, mz_o0, mz_o1, nI_add, mz_mul, mz_sub, nI_clamp, mz_in, mz_le, mz_ltp, mz_eq, mz_nm, mz_mn, mz_ml, mz_mlt, mz_nl, mz_mle, qNN, q0, q1, q2, q3, q4, q5, q6, q7, q8, q9, q10, q11, q12, q13, q14, q15, q16, q17, q18, q19, q20, q21, q22, q23, q24, q25, q26, q27, q28, q29, q30, q31, q32, q33, q34, q35, q36, q37, q38, q39, q40, q41, q42, q43, q44, q45, q46, q47, q48, q49, q50, q51, q52, q53, q54, q55, q56, q57, q58, q59, q60, q61, q62, q63, q64, q65, q66, q67, q68, q69, q70, q71, q72, q73, q74, q75, q76, q77, q78, q79, q80, q81, q82, q83, q84, q85, q86, q87, q88, q89, q90, q91, q92, q93, q94, q95, q96, q97, q98, q99, q100, q101, q102, q103, q104, q105, q106, q107, q108, q109, q110, q111, q112, q113, q114, q115, q116, q117, q118, q119, q120, q121, q122, q123, q124, q125, q126, q127, q128, q129, q130, q240, q255, q256, q296, q400, q600, q896, q960, q999, q1000, q11544, q11840, q1000000, q1000000000, ↓reduceIte, if_pos, if_neg, ↓reduceIte, u2r, u2e, u2n, cp2r, cp2s]
    have e3 : j 57 (6 * k + 3) = nI (sv K k 3) := h'.2.2.2.2.1 _ (by omega)
    rw [e3]
theorem m_snores (h' : CarM K j) (hK : OkK K) (hb : OkS K b σ) (hw : ScM K σ (j w)) (hp : p < K 0 3) : fX12_snoresBeside w 296 (nI p) j = some (nI (snr K σ p)) := by
  unfold fX12_snoresBeside
  rw [show fuel = 29997 + 1 + 1 + 1 from rfl, m_snores_s (y := -1) (by decide +kernel) (by omega) h' hK hb hw hp, m_snores_s (y := 1) (by decide +kernel) (by omega) h' hK hb hw hp, fX12_snoresBeside_5, if_pos (by decide)]
  rw [q0, nI_add, nI_add, Nat.zero_add, ← sumTo_add]
  unfold snr
  congr 2
  apply sumTo_congr
  intro z hz
  have h1 := hb.1 p hp
  by_cases c1 : σ z + 1 = σ p
  · rw [if_pos (by omega), if_neg (by omega), if_pos (by omega)]
    omega
  · by_cases c2 : σ z = σ p + 1
    · rw [if_neg (by omega), if_pos (by omega), if_pos (by omega)]
      omega
    · rw [if_neg (by omega), if_neg (by omega), if_neg (by omega)]
/-- cells of the reference that waking may change -/
abbrev l17 : List Nat := [8, 9, 10, 11, 12, 13, 14, 17]
theorem M_loss (h' : CarM K j) (hK : OkK K) (hb : OkS K b σ) (hb2 : b ≤ 100000) (hw : ScM K σ (j w)) (hw6 : w = 63 ∨ w = 64) (hL : LawM W j) (hp : p < K 0 3) (ht : t ≤ 100000) (ho : o ≤ 9) : ∃ j' rv', fX12_sleepOf w 296 (nI p) (nI t) (nI o) j rv = some (nI (lossN K W σ p t o), j', rv') ∧ Fr [50, 54] j j' ∧ F5 l17 j j' ∧ (rv' = rv ∨ rv' = u2 rv 50 5 (some (100 + 52))) := by
  have hm := hK.1
  have hn := hK.2.2.2.2.2.2.2.2.2.1 p
  have hwo := (hb.2.2.2.2.2.2.1 p (by omega)).2.1
  have hn2 := hn 2 hp (by omega)
  have hn5 := hn 5 hp (by omega)
  have hsn := snr_le (σ := σ) (p := p) hK
  have e2 : j 57 (6 * p + 2) = nI (sv K p 2) := h'.2.2.2.2.1 _ (by omega)
  have e5 : j 57 (6 * p + 5) = nI (sv K p 5) := h'.2.2.2.2.1 _ (by omega)
  have e4 := (hw.1 p hp).2.2.2.1
  unfold fX12_sleepOf
  simp (disch := omega) only [q2, q4, q5, q6, mz_mul, nI_add, mz_in, nI_clamp, ↓reduceIte, e2, e4]
  simp only [↓mz_lt]
  rcases hL with ⟨hW, hl⟩ | ⟨f, x, T, L, hW, hx, hl, hlen, hL2, hT, hO⟩
  · subst hW
    rw [hl, if_pos (show NN = -1 from rfl)]
    refine ⟨j, rv, ?_, Fr_r _ _, F5_r _ _, Or.inl rfl⟩
    unfold fX12_sleepOf_146
    rw [zI_n, clp_z (by omega) (by omega)]
    rfl
  · subst hW
    rw [hl, qN1, if_neg (by rw [mz_nm (by omega)]; exact fun e => e)]
    simp (disch := omega) only [q99, q110, q111, q115, q116, q119, mz_in, nI_clamp, ↓reduceIte, u2r, e4, e5]
    rw [m_snores (w := w) (σ := σ) (K := K) (b := b) (p := p) ?_ hK hb ?_ hp]
    · simp (disch := omega) only [mz_b1, u2r, hl, mz_in, nI_clamp, ↓reduceIte, hlen, q240, mz_mul]
      generalize hj : u2 (u2 (u2 (u2 (u2 (u2 j 54 110 (nI (sv K p 2))) 54 119 (nI (σ (36 + p)))) 54 116 (nI t)) 54 99 (nI (sv K p 5))) 54 111 (nI o)) 54 115 (nI (snr K σ p)) = j6
      have hrow : ∀ z, z ≠ 54 → j6 z = j z := fun z hz => by
        rw [← hj, u2r _ _ _ _ _ hz, u2r _ _ _ _ _ hz, u2r _ _ _ _ _ hz, u2r _ _ _ _ _ hz, u2r _ _ _ _ _ hz, u2r _ _ _ _ _ hz]
      obtain ⟨⟨hf1, hf2⟩, j', hf, hv, hfr, hf5⟩ := hO j6 rv x (ltr K σ p t o) hx (by rw [hrow 52 (by omega)]; exact hT) (by
        rw [← hj]
        unfold ltr
        simp (disch := omega) only [u2e, u2n, if_pos, if_neg, ↓reduceIte, and_self]) (fun z hz => by
        have hz6 : z = 0 ∨ z = 1 ∨ z = 2 ∨ z = 3 ∨ z = 4 ∨ z = 5 := by omega
        unfold ltr
        rcases hz6 with rfl | rfl | rfl | rfl | rfl | rfl <;> simp (disch := omega) only [if_pos, if_neg, ↓reduceIte] <;> omega)
      rw [hf]
      simp only [mz_b2, fX12_sleepOf_146, hv]
      refine ⟨j', _, ?_, ?_, ?_, Or.inr rfl⟩
      · rw [clp_z hf1 (by omega)]
        rfl
      · intro z hz
        rw [hfr z (fun e => hz (by simp at e; simp [e])), hrow z (fun e => hz (by simp [e]))]
      · intro z hz
        rw [hf5 z hz, hrow 50 (by omega)]
    · have hu : ∀ (x : Tb) k v, CarM K x → CarM K (u2 x 54 k v) := fun x k v h1 => by
        unfold CarM at h1 ⊢
        rw [u2r _ _ _ _ _ (by omega), u2r _ _ _ _ _ (by omega), u2r _ _ _ _ _ (by omega), u2r _ _ _ _ _ (by omega)]
        exact h1
      exact hu _ _ _ (hu _ _ _ (hu _ _ _ (hu _ _ _ (hu _ _ _ h'))))
    · simp (disch := omega) only [u2r]
      exact hw
end LS2
