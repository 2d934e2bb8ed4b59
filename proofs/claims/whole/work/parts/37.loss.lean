/-! sleep lost: class and reference work out the same number -/
theorem sumTo_congr {f g : Nat → Nat} : ∀ {n : Nat}, (∀ z, z < n → f z = g z) → sumTo f n = sumTo g n := by
  intro n
  induction n with
  | zero => intro _; rfl
  | succ n ih =>
    intro h
    show sumTo f n + f n = sumTo g n + g n
    rw [ih (fun z hz => h z (by omega)), h n (by omega)]
theorem sumTo_add (f g : Nat → Nat) (n : Nat) : sumTo (fun z => f z + g z) n = sumTo f n + sumTo g n := by
  induction n with
  | zero => rfl
  | succ n ih =>
    show sumTo (fun z => f z + g z) n + (f n + g n) = (sumTo f n + f n) + (sumTo g n + g n)
    rw [ih]
    omega
theorem sumTo_zero {f : Nat → Nat} : ∀ {n : Nat}, (∀ z, z < n → f z = 0) → sumTo f n = 0 := by
  intro n
  induction n with
  | zero => intro _; rfl
  | succ n ih =>
    intro h
    show sumTo f n + f n = 0
    rw [ih (fun z hz => h z (by omega)), h n (by omega)]
theorem sumTo_only {f : Nat → Nat} {q : Nat} : ∀ {n : Nat}, q < n → (∀ z, z < n → z ≠ q → f z = 0) → sumTo f n = f q := by
  intro n
  induction n with
  | zero => intro h; omega
  | succ n ih =>
    intro hq h
    show sumTo f n + f n = f q
    by_cases hn : q = n
    · subst hn
      rw [sumTo_zero (fun z hz => h z (by omega) (by omega))]
      omega
    · rw [ih (by omega) (fun z hz => h z (by omega)), h n (by omega) (fun e => hn e.symm)]
      omega
theorem sumTo_le {f : Nat → Nat} {m : Nat} : ∀ {n : Nat}, (∀ z, z < n → f z ≤ m) → sumTo f n ≤ n * m := by
  intro n
  induction n with
  | zero => intro _; exact Nat.zero_le _
  | succ n ih =>
    intro h
    show sumTo f n + f n ≤ _
    have := ih (fun z hz => h z (by omega))
    have := h n (by omega)
    rw [Nat.succ_mul]
    omega
/-- snores of both beside p -/
def snr (K : Nat → Nat → Nat) (σ : Nat → Nat) (p : Nat) : Nat := sumTo (fun z => if σ z + 1 = σ p ∨ σ z = σ p + 1 then sv K z 3 else 0) (K 0 3)
def clp (v : Int) : Nat := (max 0 (min 99 v)).toNat
def ltr (K : Nat → Nat → Nat) (σ : Nat → Nat) (p t o : Nat) : Nat → Nat := fun z => if z = 0 then sv K p 2 else if z = 1 then σ (36 + p) else if z = 2 then t else if z = 3 then sv K p 5 else if z = 4 then o else snr K σ p
def lossN (K : Nat → Nat → Nat) (W : Option ((Nat → Nat) → Int)) (σ : Nat → Nat) (p t o : Nat) : Nat := clp (match W with
  | none => ((5 + sv K p 2 + 5 * σ (36 + p) : Nat) : Int)
  | some f => f (ltr K σ p t o))
def LawAt (a : Nat) (cs : List Int) (i : Tb) : Prop := i a 2 = nI cs.length ∧ cs.length ≤ 240 ∧ ∀ k, k < cs.length → i (a + 1) k = zI (cs.getD k 0)
/-- these codes are worth f -/
def WorthOK (cs : List Int) (f : (Nat → Nat) → Int) : Prop := ∀ (a : Nat) (i : Tb) (l : Nat → Nat), (a = 6 ∨ 74 ≤ a) → LawAt a cs i → (∀ z, z < 6 → i 24 z = nI (l z) ∧ l z ≤ 100000) → (-1000000 ≤ f l ∧ f l ≤ 1000000) ∧ ∃ i', fX4_worth a 24 6 i = some (zI (f l), i') ∧ ∀ q k, q ≠ a + 2 → ¬ (q = a ∧ k = 3) → i' q k = i q k
/-- this text is worth f to the reference -/
def TextOK (T : Nat → Nat) (L : Nat) (f : (Nat → Nat) → Int) : Prop := ∀ (j : Tb) (rv : Nat → Nat → Option Nat) (x : Nat) (l : Nat → Nat), x < 4 → (∀ k, k < L → j 52 (240 * x + k) = bS (T k)) → (j 54 110 = nI (l 0) ∧ j 54 119 = nI (l 1) ∧ j 54 116 = nI (l 2) ∧ j 54 99 = nI (l 3) ∧ j 54 111 = nI (l 4) ∧ j 54 115 = nI (l 5)) → (∀ z, z < 6 → l z ≤ 100000) → (-1000000 ≤ f l ∧ f l ≤ 1000000) ∧ ∃ j', fX12_goThrough 52 (nI (240 * x)) (nI L) j rv = some (j', u2 rv 50 5 (some (100 + 52))) ∧ j' 50 14 = zI (f l) ∧ Fr [50] j j' ∧ F5 [8, 9, 10, 11, 12, 13, 14, 17] j j'
def LawC (W : Option ((Nat → Nat) → Int)) (i : Tb) (rv : Nat → Nat → Option Nat) : Prop := (W = none ∧ rv 23 2 = none) ∨ ∃ f a cs, W = some f ∧ rv 23 2 = some (100 + a) ∧ (a = 6 ∨ 74 ≤ a) ∧ LawAt a cs i ∧ WorthOK cs f
def LawM (W : Option ((Nat → Nat) → Int)) (j : Tb) : Prop := (W = none ∧ j 50 35 = NN) ∨ ∃ f x T L, W = some f ∧ x < 4 ∧ j 50 35 = nI x ∧ j 53 x = nI L ∧ L ≤ 240 ∧ (∀ k, k < L → j 52 (240 * x + k) = bS (T k)) ∧ TextOK T L f
/-- what waking may change in the class besides l -/
def FrL (l : List Nat) (rv : Nat → Nat → Option Nat) (i i' : Tb) : Prop := ∀ q k, q ∉ l → (∀ a, rv 23 2 = some (100 + a) → q ≠ a + 2 ∧ ¬ (q = a ∧ k = 3)) → i' q k = i q k
section LS
variable {i i' j : Tb} {rv : Nat → Nat → Option Nat} {K g : Nat → Nat → Nat} {W : Option ((Nat → Nat) → Int)} {σ : Nat → Nat} {q p o k b d t : Nat} {l l' : List Nat}
theorem FrL_t {a b c : Tb} (h : FrL l rv a b) (h' : FrL l rv b c) : FrL l rv a c := fun q k h1 h2 => (h' q k h1 h2).trans (h q k h1 h2)
theorem FrL_w {a b : Tb} (hl : ∀ q, q ∈ l → q ∈ l') (h : FrL l rv a b) : FrL l' rv a b := fun q k h1 h2 => h q k (fun e => h1 (hl q e)) h2
theorem FrL_f {a b : Tb} (h : Fr l a b) : FrL l rv a b := fun q k h1 _ => by rw [h q h1]
theorem FrL_row (hL : LawC W i rv) (h : FrL l rv i i') (hq : q ∉ l) (h6 : q ≠ 6) (h8 : q ≠ 8) (h74 : q < 74) : i' q = i q := by
  funext k
  refine h q k hq (fun a ha => ?_)
  rcases hL with ⟨_, h0⟩ | ⟨f, a', cs, _, h1, h2, _⟩
  · rw [h0] at ha
    cases ha
  · rw [h1] at ha
    have := Option.some.inj ha
    omega
theorem FrL_law (hL : LawC W i rv) (h : FrL l rv i i') (hl : ∀ x, x ∈ l → x ≠ 6 ∧ x ≠ 7 ∧ x < 74) : LawC W i' rv := by
  rcases hL with h0 | ⟨f, a, cs, h1, h2, h3, h4, h5⟩
  · exact Or.inl h0
  · have h6 : a ∉ l := fun e => by have := hl a e; omega
    have h7 : a + 1 ∉ l := fun e => by have := hl _ e; omega
    refine Or.inr ⟨f, a, cs, h1, h2, h3, ⟨?_, h4.2.1, fun k hk => ?_⟩, h5⟩
    · rw [h a 2 h6 (fun a' ha => by rw [h2] at ha; have := Option.some.inj ha; omega)]
      exact h4.1
    · rw [h (a + 1) k h7 (fun a' ha => by rw [h2] at ha; have := Option.some.inj ha; omega)]
      exact h4.2.2 k hk
theorem CarC_f (h : CarC 15 K i) (hr : ∀ q, 15 ≤ q → q < 19 → i' q = i q) : CarC 15 K i' := by
  unfold CarC at h ⊢
  rw [hr 15 (by omega) (by omega), hr (15 + 1) (by omega) (by omega), hr (15 + 2) (by omega) (by omega), hr (15 + 3) (by omega) (by omega)]
  exact h
theorem CarC_L (h : CarC 15 K i) (hL : LawC W i rv) (hf : FrL l rv i i') (hl : ∀ q, 15 ≤ q → q < 19 → q ∉ l) : CarC 15 K i' := CarC_f h (fun q h1 h2 => FrL_row hL hf (hl q h1 h2) (by omega) (by omega) (by omega))
theorem snr_le (hK : OkK K) : snr K σ p ≤ 81 := by
  have h := sumTo_le (f := fun z => if σ z + 1 = σ p ∨ σ z = σ p + 1 then sv K z 3 else 0) (m := 9) (n := K 0 3) (fun z hz => by
    show (if _ then _ else _) ≤ 9
    split
    · exact hK.2.2.2.2.2.2.2.2.2.1 z 3 hz (by omega)
    · omega)
  have := hK.1
  unfold snr
  omega
theorem c_snores_5 (h : CarC 15 K i) (hK : OkK K) (hb : OkS K b σ) (hs : ScC σ (i (q + 1))) (hp : p < K 0 3) : ∀ n k, k ≤ K 0 3 → K 0 3 - k < n → fX3_snoresBeside_5 q n (nI p) (nI (sumTo (fun z => if σ z + 1 = σ p ∨ σ z = σ p + 1 then sv K z 3 else 0) k)) (nI k) i = some (nI (snr K σ p)) := by
  have hm := hK.1
  intro n
  induction n with
  | zero => intro k h1 h2; omega
  | succ n ih =>
    intro k h1 h2
    rw [fX3_snoresBeside_5]
    unfold fX1_sleepers
    by_cases h4 : k = K 0 3
    · subst h4
      simp (disch := omega) only [↓mz_lt, ↓mz_b1, ↓mz_b2, ↓mz_b3, mz_b1, mz_b2, mz_b3, mz_lt, mz_o0, mz_o1, nI_add, mz_mul, mz_sub, nI_clamp, mz_in, mz_le, mz_ltp, mz_eq, mz_nm, mz_mn, mz_ml, mz_mlt, mz_nl, mz_mle, qNN, q0, q1, q2, q3, q4, q5, q6, q7, q8, q9, q10, q11, q12, q13, q14, q15, q16, q17, q18, q19, q20, q21, q22, q23, q24, q25, q26, q27, q28, q29, q30, q31, q32, q33, q34, q35, q36, q37, q38, q39, q40, q41, q42, q43, q44, q45, q46, q47, q48, q49, q50, q51, q52, q53, q54, q55, q56, q57, q58, q59, q60, q61, q62, q63, q64, q65, q66, q67, q68, q69, q70, q71, q72, q73, q74, q75, q76, q77, q78, q79, q80, q81, q82, q83, q84, q85, q86, q87, q88, q89, q90, q91, q92, q93, q94, q95, q96, q97, q98, q99, q100, q101, q102, q103, q104, q105, q106, q107, q108, q109, q110, q111, q112, q113, q114, q115, q116, q117, q118, q119, q120, q121, q122, q123, q124, q125, q126, q127, q128, q129, q130, q240, q255, q256, q296, q400, q600, q896, q960, q999, q1000, q11544, q11840, q1000000, q1000000000, ↓reduceIte, if_pos, if_neg, ↓reduceIte, u2r, u2e, u2n, cp2r, cp2s, h.1]
      rfl
    · rw [s_areBeside hb hK hs hp (by omega), q3, c_ofSleeper h (by omega) (by omega)]
      simp (disch := omega) only [↓mz_lt, ↓mz_b1, ↓mz_b2, ↓mz_b3, mz_b1, mz_b2, mz_b3, mz_lt, mz_o0, mz_o1, nI_add, mz_mul, mz_sub, nI_clamp, mz_in, mz_le, mz_ltp, mz_eq, mz_nm, mz_mn, mz_ml, mz_mlt, mz_nl, mz_mle, qNN, q0, q1, q2, q3, q4, q5, q6, q7, q8, q9, q10, q11, q12, q13, q14, q15, q16, q17, q18, q19, q20, q21, q22, q23, q24, q25, q26, q27, q28, q29, q30, q31, q32, q33, q34, q35, q36, q37, q38, q39, q40, q41, q42, q43, q44, q45, q46, q47, q48, q49, q50, q51, q52, q53, q54, q55, q56, q57, q58, q59, q60, q61, q62, q63, q64, q65, q66, q67, q68, q69, q70, q71, q72, q73, q74, q75, q76, q77, q78, q79, q80, q81, q82, q83, q84, q85, q86, q87, q88, q89, q90, q91, q92, q93, q94, q95, q96, q97, q98, q99, q100, q101, q102, q103, q104, q105, q106, q107, q108, q109, q110, q111, q112, q113, q114, q115, q116, q117, q118, q119, q120, q121, q122, q123, q124, q125, q126, q127, q128, q129, q130, q240, q255, q256, q296, q400, q600, q896, q960, q999, q1000, q11544, q11840, q1000000, q1000000000, ↓reduceIte, if_pos, if_neg, ↓reduceIte, u2r, u2e, u2n, cp2r, cp2s, h.1, fX3_snoresBeside_40]
      have e := ih (k + 1) (by omega) (by omega)
      unfold sumTo at e
      by_cases h5 : σ p + 1 = σ k ∨ σ k + 1 = σ p
      · rw [if_pos (show σ k + 1 = σ p ∨ σ k = σ p + 1 by omega)] at e
        simp (disch := omega) only [↓mz_lt, ↓mz_b1, ↓mz_b2, ↓mz_b3, mz_b1, mz_b2, mz_b3, mz_lt, mz_o0, mz_o1, nI_add, mz_mul, mz_sub, nI_clamp, mz_in, mz_le, mz_ltp, mz_eq, mz_nm, mz_mn, mz_ml, mz_mlt, mz_nl, mz_mle, qNN, q0, q1, q2, q3, q4, q5, q6, q7, q8, q9, q10, q11, q12, q13, q14, q15, q16, q17, q18, q19, q20, q21, q22, q23, q24, q25, q26, q27, q28, q29, q30, q31, q32, q33, q34, q35, q36, q37, q38, q39, q40, q41, q42, q43, q44, q45, q46, q47, q48, q49, q50, q51, q52, q53, q54, q55, q56, q57, q58, q59, q60, q61, q62, q63, q64, q65, q66, q67, q68, q69, q70, q71, q72, q73, q74, q75, q76, q77, q78, q79, q80, q81, q82, q83, q84, q85, q86, q87, q88, q89, q90, q91, q92, q93, q94, q95, q96, q97, q98, q99, q100, q101, q102, q103, q104, q105, q106, q107, q108, q109, q110, q111, q112, q113, q114, q115, q116, q117, q118, q119, q120, q121, q122, q123, q124, q125, q126, q127, q128, q129, q130, q240, q255, q256, q296, q400, q600, q896, q960, q999, q1000, q11544, q11840, q1000000, q1000000000, ↓reduceIte, if_pos, if_neg, ↓reduceIte, u2r, u2e, u2n, cp2r, cp2s]
        exact e
      · rw [if_neg (show ¬ (σ k + 1 = σ p ∨ σ k = σ p + 1) by omega)] at e
        simp (disch := omega) only [↓mz_lt, ↓mz_b1, ↓mz_b2, ↓mz_b3, mz_b1, mz_b2, mz_b3, mz_lt, mz_o0, mz_o1, nI_add, mz_mul, mz_sub, nI_clamp, mz_in, mz_le, mz_ltp, mz_eq, mz_nm, mz_mn, mz_ml, mz_mlt, mz_nl, mz_mle, qNN, q0, q1, q2, q3, q4, q5, q6, q7, q8, q9, q10, q11, q12, q13, q14, q15, q16, q17, q18, q19, q20, q21, q22, q23, q24, q25, q26, q27, q28, q29, q30, q31, q32, q33, q34, q35, q36, q37, q38, q39, q40, q41, q42, q43, q44, q45, q46, q47, q48, q49, q50, q51, q52, q53, q54, q55, q56, q57, q58, q59, q60, q61, q62, q63, q64, q65, q66, q67, q68, q69, q70, q71, q72, q73, q74, q75, q76, q77, q78, q79, q80, q81, q82, q83, q84, q85, q86, q87, q88, q89, q90, q91, q92, q93, q94, q95, q96, q97, q98, q99, q100, q101, q102, q103, q104, q105, q106, q107, q108, q109, q110, q111, q112, q113, q114, q115, q116, q117, q118, q119, q120, q121, q122, q123, q124, q125, q126, q127, q128, q129, q130, q240, q255, q256, q296, q400, q600, q896, q960, q999, q1000, q11544, q11840, q1000000, q1000000000, ↓reduceIte, if_pos, if_neg, ↓reduceIte, u2r, u2e, u2n, cp2r, cp2s]
        exact e
theorem c_snores (h : CarC 15 K i) (hK : OkK K) (hb : OkS K b σ) (hs : ScC σ (i (q + 1))) (hp : p < K 0 3) : fX3_snoresBeside q (nI p) i = some (nI (snr K σ p)) := c_snores_5 h hK hb hs hp fuel 0 (by omega) (by have hm := hK.1; show K 0 3 - 0 < 30000; omega)
theorem clp_z {v : Int} (h1 : -1000000 ≤ v) (h2 : v ≤ 2000000) : (if (0 : Int32) < (if zI v < (99 : Int32) then zI v else (99 : Int32)) then (if zI v < (99 : Int32) then zI v else (99 : Int32)) else (0 : Int32)) = nI (clp v) := by
  have e1 : (if zI v < (99 : Int32) then zI v else (99 : Int32)) = zI (min 99 v) := by
    rw [show (99 : Int32) = zI 99 from rfl]
    have e3 : (zI v < zI 99) = (v < 99) := zI_lt (by omega) (by omega) (by omega) (by omega)
    simp only [e3]
    split <;> congr 1 <;> omega
  rw [e1, show (0 : Int32) = zI 0 from rfl]
  have e2 : (zI 0 < zI (min 99 v)) = (0 < min 99 v) := zI_lt (by omega) (by omega) (by omega) (by omega)
  simp only [e2]
  unfold clp
  rw [zI_n]
  split <;> congr 1 <;> omega
end LS
