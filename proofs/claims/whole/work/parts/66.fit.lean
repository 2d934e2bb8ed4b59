/-! fit, best, heads -/
theorem mz_xor (a b : Nat) : nI a ^^^ nI b = nI (a ^^^ b) := by
  apply Int32.toBitVec_inj.1
  show BitVec.ofNat 32 a ^^^ BitVec.ofNat 32 b = BitVec.ofNat 32 (a ^^^ b)
  apply BitVec.eq_of_getLsbD_eq
  intro i hi
  simp [hi]
/-- one set lies within another -/
theorem mz_sset {s c : Nat} (hs : s < 2 ^ 31) (hc : c < 2 ^ 31) : (nI s &&& (nI c ^^^ (-1 : Int32)) = 0) = (s &&& c = s) := by
  rw [show (-1 : Int32) = nI (2 ^ 32 - 1) from by decide +kernel, mz_xor, mz_and, show (0 : Int32) = nI 0 from rfl]
  have hx : s &&& (c ^^^ (2 ^ 32 - 1)) < 2 ^ 31 := Nat.lt_of_le_of_lt Nat.and_le_left hs
  rw [mz_eq hx (by omega)]
  apply propext
  have hbit : ∀ k, (s &&& (c ^^^ (2 ^ 32 - 1))).testBit k = (s.testBit k && !(c.testBit k)) := by
    intro k
    rw [Nat.testBit_and, Nat.testBit_xor, Nat.testBit_two_pow_sub_one]
    by_cases hk : k < 32
    · simp [hk]
    · have : s.testBit k = false := Nat.testBit_lt_two_pow (Nat.lt_of_lt_of_le hs (Nat.pow_le_pow_right (by omega) (by omega)))
      simp [this]
  constructor
  · intro h
    apply Nat.eq_of_testBit_eq
    intro k
    have h1 := hbit k
    rw [h, Nat.zero_testBit] at h1
    rw [Nat.testBit_and]
    cases h2 : s.testBit k <;> cases h3 : c.testBit k <;> simp [h2, h3] at h1 ⊢
  · intro h
    apply Nat.eq_of_testBit_eq
    intro k
    rw [hbit k, Nat.zero_testBit]
    have h1 : (s &&& c).testBit k = s.testBit k := by rw [h]
    rw [Nat.testBit_and] at h1
    cases h2 : s.testBit k <;> cases h3 : c.testBit k <;> simp [h2, h3] at h1 ⊢
/-- the first of those that fit whose number is a1, or how many -/
def srch (P : Nat → Bool) (val : Nat → Int32) (a1 : Int32) : Nat → Nat → Nat → Int32
  | 0, _, c => if a1 = NN then nI c else NN
  | d + 1, w, c => if P w = true then (if nI c = a1 then val w else srch P val a1 d (w + 1) (c + 1)) else srch P val a1 d (w + 1) c
theorem srch_skip {P : Nat → Bool} {val : Nat → Int32} {a1 : Int32} : ∀ (k d w c : Nat), (∀ z, w ≤ z → z < w + k → P z = false) → srch P val a1 (d + k) w c = srch P val a1 d (w + k) c := by
  intro k
  induction k with
  | zero => intro d w c _; rfl
  | succ k ih =>
    intro d w c h
    show srch P val a1 ((d + k) + 1) w c = _
    rw [srch, if_neg (by rw [h w (by omega) (by omega)]; decide), ih d (w + 1) c (fun z h1 h2 => h z (by omega) (by omega))]
    congr 1
    omega
/-- all looks are so, if x1 and x2 were swapped -/
def soN (g : Nat → Nat → Nat) (x1 x2 : Int32) : Bool := decide (∀ k, k < g 0 1 → g 4 k = (if nI (g 3 k) = x1 ∨ nI (g 3 k) = x2 then 0 else 1))
/-- a way fits -/
def wayB (K g : Nat → Nat → Nat) (w : Nat) : Bool := if w = 0 then soN g NN NN else decide (w / 10 < w % 10 ∧ w % 10 < K 0 3 ∧ sv K (w / 10) 4 ≠ sv K (w % 10) 4) && soN g (nI (w / 10)) (nI (w % 10))
def wayV (w : Nat) : Int32 := if w = 0 then nI 0 else nI (101 + w)
section FT
variable {i i' i1 i2 i3 j j' j1 j2 : Tb} {rv rv' rv1 rv2 : Nat → Nat → Option Nat} {W : Option ((Nat → Nat) → Int)} {K g : Nat → Nat → Nat} {σ τ σ' ρ : Nat → Nat} {q p o k b b' t w v n r z c s x a m y : Nat} {a1 x1 x2 : Int32}
theorem so_0 {k : Nat} (hk : k < g 0 1) (h : ¬ g 4 k = (if nI (g 3 k) = x1 ∨ nI (g 3 k) = x2 then 0 else 1)) : soN g x1 x2 = false := decide_eq_false (fun e => h (e k hk))
theorem c_fits_l (hg : GuC g i) (ho : OkG K g) (hK : OkK K) : ∀ n k, k ≤ g 0 1 → g 0 1 - k < n → (∀ z, z < k → g 4 z = (if nI (g 3 z) = x1 ∨ nI (g 3 z) = x2 then 0 else 1)) → fX2_fits_30 n x1 x2 (nI k) i = some (if soN g x1 x2 = true then 1 else 0) := by
  have h10 := ho.2.1
  intro n
  induction n with
  | zero => intro k h1 h2; omega
  | succ n ih =>
    intro k h1 h2 h3
    rw [fX2_fits_30, hg.2.1]
    by_cases h4 : k = g 0 1
    · rw [if_pos (nI_le (by omega) (by omega)), if_pos (show soN g x1 x2 = true from decide_eq_true (fun z hz => h3 z (by omega)))]
    · have hk := hg.2.2.2 k (by omega)
      have hb := ho.2.2.2 k (by omega)
      simp only [fX2_fits_62, fX2_fits_63]
      have hin : aIn (nI k) 10 = true := mz_in (by omega) (by omega)
      simp only [hin, if_true]
      rw [if_neg (nI_ge (by omega) (by omega)), nI_clamp (by omega), hk.1, hk.2, nI_1]
      have key : ∀ e : Nat, e ≤ 1 → e = (if nI (g 3 k) = x1 ∨ nI (g 3 k) = x2 then 0 else 1) → (if nI e = nI (g 4 k) then fX2_fits_30 n x1 x2 (nI (k + 1)) i else some 0) = some (if soN g x1 x2 = true then 1 else 0) := by
        intro e he1 he
        by_cases h5 : g 4 k = e
        · rw [if_pos (by rw [h5])]
          refine ih (k + 1) (by omega) (by omega) (fun z hz => ?_)
          by_cases hz2 : z = k
          · subst hz2
            rw [h5]
            exact he
          · exact h3 z (by omega)
        · rw [if_neg (fun e2 => h5 (nI_inj e2 (by omega) (by omega)).symm), so_0 (k := k) (by omega) (by rw [← he]; exact h5)]
          rfl
      by_cases h6 : nI (g 3 k) = x1
      · rw [if_pos h6]
        exact key 0 (by omega) (by rw [if_pos (Or.inl h6)])
      · rw [if_neg h6]
        by_cases h7 : nI (g 3 k) = x2
        · rw [if_pos h7]
          exact key 0 (by omega) (by rw [if_pos (Or.inr h7)])
        · rw [if_neg h7]
          exact key 1 (by omega) (by rw [if_neg (fun e => by rcases e with e | e <;> contradiction)])
theorem m_areSo_l (hg : GuM g j) (ho : OkG K g) (hK : OkK K) : ∀ n k, k ≤ g 0 1 → g 0 1 - k < n → (∀ z, z < k → g 4 z = (if nI (g 3 z) = x1 ∨ nI (g 3 z) = x2 then 0 else 1)) → fX12_areSo_2 n x1 x2 (nI k) j = some (if soN g x1 x2 = true then 1 else 0) := by
  have h10 := ho.2.1
  intro n
  induction n with
  | zero => intro k h1 h2; omega
  | succ n ih =>
    intro k h1 h2 h3
    rw [fX12_areSo_2, hg.2.1]
    by_cases h4 : k = g 0 1
    · rw [if_pos (nI_le (by omega) (by omega)), if_pos (show soN g x1 x2 = true from decide_eq_true (fun z hz => h3 z (by omega)))]
    · have hk := hg.2.2.2 k (by omega)
      have hb := ho.2.2.2 k (by omega)
      simp only [fX12_areSo_36, fX12_areSo_41]
      have hin : aIn (nI k) 10 = true := mz_in (by omega) (by omega)
      simp only [hin, if_true]
      rw [if_neg (nI_ge (by omega) (by omega)), nI_clamp (by omega), hk.1, hk.2, nI_1]
      have key : ∀ e : Nat, e ≤ 1 → e = (if nI (g 3 k) = x1 ∨ nI (g 3 k) = x2 then 0 else 1) → (if nI (g 4 k) = nI (1 - e) then some 0 else fX12_areSo_2 n x1 x2 (nI (k + 1)) j) = some (if soN g x1 x2 = true then 1 else 0) := by
        intro e he1 he
        by_cases h5 : g 4 k = e
        · rw [if_neg (fun e2 => by have := nI_inj e2 (by omega) (by omega); omega)]
          refine ih (k + 1) (by omega) (by omega) (fun z hz => ?_)
          by_cases hz2 : z = k
          · subst hz2
            rw [h5]
            exact he
          · exact h3 z (by omega)
        · rw [if_pos (by congr 1; omega), so_0 (k := k) (by omega) (by rw [← he]; exact h5)]
          rfl
      by_cases h6 : nI (g 3 k) = x1
      · rw [if_pos h6]
        exact key 0 (by omega) (by rw [if_pos (Or.inl h6)])
      · rw [if_neg h6]
        by_cases h7 : nI (g 3 k) = x2
        · rw [if_pos h7]
          exact key 0 (by omega) (by rw [if_pos (Or.inr h7)])
        · rw [if_neg h7]
          exact key 1 (by omega) (by rw [if_neg (fun e => by rcases e with e | e <;> contradiction)])
theorem c_fits0 (hg : GuC g i) (ho : OkG K g) (hK : OkK K) : fX2_fits (-1) (-1) i = some (if wayB K g 0 = true then 1 else 0) := by
  unfold fX2_fits fX2_fits_28
  rw [if_pos rfl]
  obtain ⟨fu, hfu, hfu2⟩ := fuel_g
  rw [hfu]
  exact c_fits_l hg ho hK fu 0 (by omega) (by have := ho.2.1; omega) (fun z hz => by omega)
theorem c_fits2 (h : CarC 15 K i) (hg : GuC g i) (ho : OkG K g) (hK : OkK K) (hxy : x < y) (hy : y < K 0 3) : fX2_fits (nI x) (nI y) i = some (if wayB K g (10 * x + y) = true then 1 else 0) := by
  have hm := hK.1
  have b1 := hK.2.2.2.2.2.2.2.2.2.1 x 4 (by omega) (by omega)
  have b2 := hK.2.2.2.2.2.2.2.2.2.1 y 4 (by omega) (by omega)
  unfold fX2_fits fX2_fits_28
  obtain ⟨fu, hfu, hfu2⟩ := fuel_g
  have k := c_fits_l (x1 := nI x) (x2 := nI y) hg ho hK fu 0 (by omega) (by have := ho.2.1; omega) (fun z hz => by omega)
  rw [← q0] at k
  rw [hfu, k, if_neg (show ¬ nI x = -1 from by rw [qN1, mz_nm (by omega)]; exact fun e => e), q4, c_ofSleeper h (by omega) (by omega), c_ofSleeper h (by omega) (by omega), mz_b1, mz_b1]
  unfold wayB
  rw [if_neg (show ¬ 10 * x + y = 0 by omega), show (10 * x + y) / 10 = x by omega, show (10 * x + y) % 10 = y by omega]
  by_cases h1 : sv K x 4 = sv K y 4
  · rw [if_pos (show nI (sv K x 4) = nI (sv K y 4) by rw [h1]), decide_eq_false (fun e => e.2.2 h1)]
    rfl
  · rw [if_neg (fun e => h1 (nI_inj e (by omega) (by omega))), decide_eq_true ⟨hxy, hy, h1⟩, Bool.true_and]
theorem m_wayOf (h' : CarM K j) (hg : GuM g j) (ho : OkG K g) (hK : OkK K) (hw : w < 10 * K 0 3) : fX12_wayOf (nI w) j = some (if wayB K g w = true then wayV w else 99) := by
  have hm := hK.1
  unfold fX12_wayOf fX12_areSo wayB wayV
  obtain ⟨fu, hfu, hfu2⟩ := fuel_g
  rw [hfu]
  by_cases h0 : w = 0
  · subst h0
    have k := m_areSo_l (x1 := NN) (x2 := NN) hg ho hK fu 0 (by omega) (by have := ho.2.1; omega) (fun z hz => by omega)
    rw [if_pos (show nI 0 = 0 from rfl), if_pos rfl, if_pos rfl, show fX12_areSo_2 fu (-1) (-1) 0 j = some (if soN g NN NN = true then 1 else 0) from k, mz_b1]
    cases soN g NN NN <;> rfl
  · have e1 : nI w / 10 = nI (w / 10) := by rw [q10, mz_div (by omega) (by omega)]
    have e2 : nI w - nI (w / 10) * 10 = nI (w % 10) := by
      rw [q10, mz_mul, mz_sub (by omega)]
      congr 1
      omega
    have k := m_areSo_l (x1 := nI (w / 10)) (x2 := nI (w % 10)) hg ho hK fu 0 (by omega) (by have := ho.2.1; omega) (fun z hz => by omega)
    rw [← q0] at k
    have b1 := hK.2.2.2.2.2.2.2.2.2.1 (w / 10) 4 (by omega) (by omega)
    have f1 : j 57 (6 * (w / 10) + 4) = nI (sv K (w / 10) 4) := h'.2.2.2.2.1 _ (by omega)
    rw [if_neg (show ¬ nI w = 0 from by rw [q0, nI_eq (by omega) (by omega)]; exact h0), if_neg h0, if_neg h0, e1, mz_lt, e2, h'.1, k]
    by_cases h1 : w / 10 < w % 10
    · rw [if_neg (nI_ge h1 (by omega))]
      by_cases h2 : w % 10 < K 0 3
      · have b2 := hK.2.2.2.2.2.2.2.2.2.1 (w % 10) 4 h2 (by omega)
        have f2 : j 57 (6 * (w % 10) + 4) = nI (sv K (w % 10) 4) := h'.2.2.2.2.1 _ (by omega)
        rw [if_neg (nI_ge h2 (by omega)), show 6 * nI (w / 10) + 4 = nI (6 * (w / 10) + 4) from by rw [q6, mz_mul, q4, nI_add], show 6 * nI (w % 10) + 4 = nI (6 * (w % 10) + 4) from by rw [q6, mz_mul, q4, nI_add], if_pos (mz_in (by omega) (by omega)), if_pos (mz_in (by omega) (by omega)), nI_clamp (by omega), nI_clamp (by omega), f1, f2]
        by_cases h3 : sv K (w / 10) 4 = sv K (w % 10) 4
        · rw [if_pos (by rw [h3]), decide_eq_false (fun e => e.2.2 h3)]
          rfl
        · rw [if_neg (fun e => h3 (nI_inj e (by omega) (by omega))), mz_b1, decide_eq_true ⟨h1, h2, h3⟩, Bool.true_and, show (101 : Int32) + nI w = nI (101 + w) from by rw [q101, nI_add]]
          cases soN g (nI (w / 10)) (nI (w % 10)) <;> rfl
      · rw [if_pos (nI_le (by omega) (by omega)), decide_eq_false (fun e => h2 e.2.1)]
        rfl
    · rw [if_pos (nI_le (by omega) (by omega)), decide_eq_false (fun e => h1 e.1)]
      rfl
theorem wayV_99 : wayV w ≠ 99 ∨ 90 ≤ w := by
  rcases Nat.lt_or_ge w 90 with h | h
  · refine Or.inl ?_
    unfold wayV
    split
    · decide
    · rw [q99]
      exact fun e => by have := nI_inj e (by omega) (by omega); omega
  · exact Or.inr h
theorem m_fit_l (h' : CarM K j) (hg : GuM g j) (ho : OkG K g) (hK : OkK K) : ∀ n w c, w ≤ 10 * K 0 3 → 10 * K 0 3 - w < n → fX12_fit_23 n a1 (nI c) (nI w) j = some (srch (wayB K g) wayV a1 (10 * K 0 3 - w) w c, j) := by
  have hm := hK.1
  intro n
  induction n with
  | zero => intro w c h1 h2; omega
  | succ n ih =>
    intro w c h1 h2
    rw [fX12_fit_23, h'.1, show (10 : Int32) * nI (K 0 3) = nI (10 * K 0 3) from by rw [q10, mz_mul]]
    by_cases h3 : w = 10 * K 0 3
    · rw [if_pos (nI_le (by omega) (by omega)), show 10 * K 0 3 - w = 0 by omega, srch, qN1]
      split <;> rfl
    · obtain ⟨d, hd⟩ : ∃ d, 10 * K 0 3 - w = d + 1 := ⟨10 * K 0 3 - w - 1, by omega⟩
      have e := ih (w + 1) c (by omega) (by omega)
      have e' := ih (w + 1) (c + 1) (by omega) (by omega)
      rw [show 10 * K 0 3 - (w + 1) = d by omega] at e e'
      rw [if_neg (nI_ge (by omega) (by omega)), m_wayOf h' hg ho hK (by omega), mz_b1, hd, srch]
      unfold fX12_fit_62
      rw [nI_1, nI_1]
      by_cases h4 : wayB K g w = true
      · rw [if_pos h4, if_pos h4, if_neg (by rcases wayV_99 (w := w) with h | h; exact h; omega)]
        by_cases h5 : nI c = a1
        · rw [if_pos h5, if_pos h5]
        · rw [if_neg h5, if_neg h5, e']
      · rw [if_neg h4, if_neg h4, if_pos rfl, e]
theorem wayB_hi (h1 : z ≠ 0) (h2 : K 0 3 ≤ z % 10) : wayB K g z = false := by
  unfold wayB
  rw [if_neg h1, decide_eq_false (fun e => by omega)]
  rfl
theorem wayB_lo (h1 : z ≠ 0) (h2 : z % 10 ≤ z / 10) : wayB K g z = false := by
  unfold wayB
  rw [if_neg h1, decide_eq_false (fun e => by omega)]
  rfl
theorem c_fit2_l {kh : Int32 → Int32 → Int32 → (Nat → Nat → Int32) → Option ((Int32))} (h : CarC 15 K i) (hg : GuC g i) (ho : OkG K g) (hK : OkK K) (hx : x < K 0 3) (hkh : ∀ c, kh a1 (nI c) (nI (x + 1)) i = some (srch (wayB K g) wayV a1 (10 * K 0 3 - (10 * x + K 0 3)) (10 * x + K 0 3) c)) : ∀ n y c, x < y → y ≤ K 0 3 → K 0 3 - y < n → fX2_fitting_38 kh n a1 (nI c) (nI x) (nI y) i = some (srch (wayB K g) wayV a1 (10 * K 0 3 - (10 * x + y)) (10 * x + y) c) := by
  have hm := hK.1
  intro n
  induction n with
  | zero => intro y c h1 h2 h3; omega
  | succ n ih =>
    intro y c h1 h2 h3
    rw [fX2_fitting_38]
    unfold fX1_sleepers
    rw [h.1, mz_b1]
    by_cases h4 : y = K 0 3
    · subst h4
      rw [if_pos (nI_le (by omega) (by omega)), nI_1, hkh]
    · obtain ⟨d, hd⟩ : ∃ d, 10 * K 0 3 - (10 * x + y) = d + 1 := ⟨10 * K 0 3 - (10 * x + y) - 1, by omega⟩
      have e := ih (y + 1) c (by omega) (by omega) (by omega)
      have e' := ih (y + 1) (c + 1) (by omega) (by omega) (by omega)
      rw [show 10 * K 0 3 - (10 * x + (y + 1)) = d by omega, show 10 * x + (y + 1) = 10 * x + y + 1 by omega] at e e'
      rw [if_neg (nI_ge (by omega) (by omega)), c_fits2 h hg ho hK h1 (by omega), mz_b1, hd, srch]
      unfold fX2_fitting_79
      rw [nI_1, nI_1]
      by_cases h5 : wayB K g (10 * x + y) = true
      · rw [if_pos h5, if_neg (show ¬ (1 : Int32) = 0 by decide)]; try rw [if_pos h5]
        by_cases h6 : nI c = a1
        · rw [if_pos h6, if_pos h6]
          unfold wayV
          rw [if_neg (by omega), q101, q10, mz_mul, nI_add, nI_add]
          congr 2
          omega
        · rw [if_neg h6, if_neg h6, e']
      · rw [if_neg h5, if_pos (show (0 : Int32) = 0 from rfl), e]; try rw [if_neg h5]
theorem c_fit1_l (h : CarC 15 K i) (hg : GuC g i) (ho : OkG K g) (hK : OkK K) : ∀ n x c, x ≤ K 0 3 → K 0 3 - x < n → (x = 0 → 0 < K 0 3) → fX2_fitting_22 n a1 (nI c) (nI x) i = some (srch (wayB K g) wayV a1 (10 * K 0 3 - (10 * x + x + 1)) (10 * x + x + 1) c) := by
  have hm := hK.1
  intro n
  induction n with
  | zero => intro x c h1 h2; omega
  | succ n ih =>
    intro x c h1 h2 h0
    rw [fX2_fitting_22]
    unfold fX1_sleepers
    rw [h.1, mz_b1]
    by_cases h3 : x = K 0 3
    · rw [if_pos (nI_le (by omega) (by omega)), show 10 * K 0 3 - (10 * x + x + 1) = 0 by omega, srch, qN1]
      split <;> rfl
    · obtain ⟨fu, hfu, hfu2⟩ := fuel_g
      rw [if_neg (nI_ge (by omega) (by omega)), hfu, nI_1]
      have hkh : ∀ c, fX2_fitting_22 n a1 (nI c) (nI (x + 1)) i = some (srch (wayB K g) wayV a1 (10 * K 0 3 - (10 * x + K 0 3)) (10 * x + K 0 3) c) := by
        intro c
        rw [ih (x + 1) c (by omega) (by omega) (by omega)]
        by_cases h4 : x + 1 = K 0 3
        · rw [show 10 * K 0 3 - (10 * x + K 0 3) = 0 + (10 * K 0 3 - (10 * x + K 0 3)) by omega, srch_skip _ _ _ _ (fun z h5 h6 => wayB_hi (by omega) (by omega)), show 10 * K 0 3 - (10 * (x + 1) + (x + 1) + 1) = 0 by omega]
          rfl
        · rw [show 10 * K 0 3 - (10 * x + K 0 3) = (10 * K 0 3 - (10 * (x + 1) + (x + 1) + 1)) + ((10 * (x + 1) + (x + 1) + 1) - (10 * x + K 0 3)) by omega, srch_skip _ _ _ _ (fun z h5 h6 => by
            by_cases h7 : z < 10 * (x + 1)
            · exact wayB_hi (by omega) (by omega)
            · exact wayB_lo (by omega) (by omega))]
          congr 2
          omega
      exact c_fit2_l h hg ho hK (by omega) hkh fu (x + 1) c (by omega) (by omega) (by omega)
theorem srch_neg (ha : a1 < NN) {P : Nat → Bool} {val : Nat → Int32} : ∀ d w c, c + d < 2 ^ 31 → srch P val a1 d w c = NN := by
  intro d
  induction d with
  | zero =>
    intro w c _
    rw [srch, if_neg]
    intro e
    rw [e] at ha
    exact absurd ha (by decide)
  | succ d ih =>
    intro w c h
    rw [srch, ih _ _ (by omega), ih _ _ (by omega), if_neg (show ¬ nI c = a1 from fun e => by rw [← e, mz_nl (by omega)] at ha; exact ha)]
    split <;> rfl
theorem c_fitting (h : CarC 15 K i) (hg : GuC g i) (ho : OkG K g) (hK : OkK K) (hn : 0 < K 0 3) : fX2_fitting a1 i = some (srch (wayB K g) wayV a1 (10 * K 0 3) 0 0) := by
  have hm := hK.1
  unfold fX2_fitting fX2_fitting_20
  obtain ⟨fu, hfu, hfu2⟩ := fuel_g
  rw [hfu, c_fits0 hg ho hK, mz_b1]
  obtain ⟨d, hd⟩ : ∃ d, 10 * K 0 3 = d + 1 := ⟨10 * K 0 3 - 1, by omega⟩
  have e0 := c_fit1_l (a1 := a1) h hg ho hK fu 0 0 (by omega) (by omega) (fun _ => hn)
  have e1 := c_fit1_l (a1 := a1) h hg ho hK fu 0 1 (by omega) (by omega) (fun _ => hn)
  rw [show 10 * K 0 3 - (10 * 0 + 0 + 1) = d by omega] at e0 e1
  rw [hd, srch]
  by_cases h1 : wayB K g 0 = true
  · rw [if_pos h1, if_neg (show ¬ (1 : Int32) = 0 by decide)]; try rw [if_pos h1]
    by_cases h2 : a1 = 0
    · rw [if_pos h2, if_pos (show nI 0 = a1 from h2.symm)]
      rfl
    · rw [if_neg h2, if_neg (fun e : nI 0 = a1 => h2 e.symm)]
      exact e1
  · rw [if_neg h1, if_pos (show (0 : Int32) = 0 from rfl)]; try rw [if_neg h1]
    exact e0
/-- 29: fit -/
theorem R_fit (h : CarC 15 K i) (h' : CarM K j) (hg : GuC g i) (hg' : GuM g j) (ho : OkG K g) (hK : OkK K) (a1 : Int32) : ∃ v, fX11_fit a1 i = some v ∧ fX12_fit a1 j = some (v, u2 j 50 0 0) := by
  have hm := hK.1
  have hw0 : CarM K (u2 j 50 0 0) := m_car0 h' (by omega)
  have hg0 : GuM g (u2 j 50 0 0) := GuM_f hg' (fun q h1 h2 => u2r _ _ _ _ _ (by omega)) (u2n _ _ _ _ _ (by omega)) (u2n _ _ _ _ _ (by omega))
  unfold fX11_fit fX12_fit fX11_noCar fX1_sleepers
  obtain ⟨fu, hfu, hfu2⟩ := fuel_g
  rw [hfu]
  simp only [mz_lt]
  rw [h.1, mz_b1, u2n _ _ _ _ _ (show 26 ≠ 0 by omega), h'.1]
  by_cases h0 : K 0 3 = 0
  · rw [if_pos (show nI (K 0 3) = 0 by rw [h0]; rfl), if_pos (show nI (K 0 3) = 0 by rw [h0]; rfl), mz_b1, if_neg (by decide)]
    exact ⟨_, rfl, rfl⟩
  · have hne : ¬ nI (K 0 3) = 0 := by rw [q0, nI_eq (by omega) (by omega)]; exact h0
    have k := m_fit_l (a1 := a1) hw0 hg0 ho hK fu 0 0 (by omega) (by omega)
    rw [← q0] at k
    rw [if_neg hne, if_neg hne, mz_b1, if_pos rfl, c_fitting h hg ho hK (by omega), mz_b1, k]
    by_cases h1 : (-1 : Int32) ≤ a1
    · rw [if_pos h1]
      exact ⟨_, rfl, rfl⟩
    · rw [if_neg h1, srch_neg (Int32.not_le.mp h1) _ _ _ (by omega)]
      exact ⟨_, rfl, rfl⟩
end FT
