/-! sums, greatest numbers and sets over papers and over sleepers -/
theorem sum_perm (f : Nat → Nat) (n : Nat) : ∀ (m : Nat) (d : Nat → Nat) (P : Nat → Bool), (∀ q, q < m → d q < n ∧ P (d q) = true) → (∀ q r, q < m → r < m → d q = d r → q = r) → (∀ p, p < n → P p = true → ∃ q, q < m ∧ d q = p) → sumTo (fun q => f (d q)) m = sumTo (fun p => if P p = true then f p else 0) n := by
  intro m
  induction m with
  | zero =>
    intro d P _ _ h3
    rw [sumTo_zero (n := n)]
    · rfl
    · intro z hz
      rw [if_neg]
      intro e
      obtain ⟨q, hq, _⟩ := h3 z hz e
      omega
  | succ m ih =>
    intro d P h1 h2 h3
    have hl := h1 m (by omega)
    have e := ih d (fun p => P p && !(p == d m)) (fun q hq => ⟨(h1 q (by omega)).1, by
      have h4 : d q ≠ d m := fun e => by have := h2 q m (by omega) (by omega) e; omega
      simp [(h1 q (by omega)).2, h4]⟩) (fun q r hq hr => h2 q r (by omega) (by omega)) (fun p hp hP => by
      simp at hP
      obtain ⟨q, hq, e⟩ := h3 p hp hP.1
      refine ⟨q, ?_, e⟩
      have : q ≠ m := fun e2 => hP.2 (by rw [← e, e2])
      omega)
    show sumTo (fun q => f (d q)) m + f (d m) = _
    rw [e]
    have e2 : sumTo (fun p => if P p = true then f p else 0) n = sumTo (fun p => (if (P p && !(p == d m)) = true then f p else 0) + (if p = d m then f p else 0)) n := by
      apply sumTo_congr
      intro z hz
      by_cases h4 : z = d m
      · subst h4
        simp [hl.2]
      · simp [h4]
    rw [e2, sumTo_add, sumTo_only (f := fun p => if p = d m then f p else 0) hl.1 (fun z _ hz => if_neg hz), if_pos rfl]
def maxTo (f : Nat → Nat) : Nat → Nat
  | 0 => 0
  | n + 1 => max (maxTo f n) (f n)
theorem maxTo_le {f : Nat → Nat} {x : Nat} : ∀ {n : Nat}, maxTo f n ≤ x ↔ ∀ z, z < n → f z ≤ x := by
  intro n
  induction n with
  | zero => exact ⟨fun _ z hz => by omega, fun _ => Nat.zero_le _⟩
  | succ n ih =>
    constructor
    · intro h z hz
      have h1 : max (maxTo f n) (f n) ≤ x := h
      by_cases e : z = n
      · subst e
        omega
      · exact ih.mp (by omega) z (by omega)
    · intro h
      show max (maxTo f n) (f n) ≤ x
      have := ih.mpr (fun z hz => h z (by omega))
      have := h n (by omega)
      omega
theorem maxTo_ge {f : Nat → Nat} {n z : Nat} (h : z < n) : f z ≤ maxTo f n := maxTo_le.mp (Nat.le_refl _) z h
theorem max_perm (f : Nat → Nat) (n m : Nat) (d : Nat → Nat) (P : Nat → Bool) (h1 : ∀ q, q < m → d q < n ∧ P (d q) = true) (h3 : ∀ p, p < n → P p = true → ∃ q, q < m ∧ d q = p) : maxTo (fun q => f (d q)) m = maxTo (fun p => if P p = true then f p else 0) n := by
  apply Nat.le_antisymm
  · apply maxTo_le.mpr
    intro q hq
    have := maxTo_ge (f := fun p => if P p = true then f p else 0) (h1 q hq).1
    simp only [(h1 q hq).2, if_true] at this
    exact this
  · apply maxTo_le.mpr
    intro p hp
    show (if P p = true then f p else 0) ≤ _
    by_cases e : P p = true
    · rw [if_pos e]
      obtain ⟨q, hq, e2⟩ := h3 p hp e
      rw [← e2]
      exact maxTo_ge (f := fun q => f (d q)) hq
    · rw [if_neg e]
      exact Nat.zero_le _
def orTo (f : Nat → Nat) : Nat → Nat
  | 0 => 0
  | n + 1 => orTo f n ||| f n
theorem orTo_bit {f : Nat → Nat} {k : Nat} : ∀ {n : Nat}, (orTo f n).testBit k = true ↔ ∃ z, z < n ∧ (f z).testBit k = true := by
  intro n
  induction n with
  | zero =>
    constructor
    · intro h
      simp [orTo] at h
    · rintro ⟨z, hz, _⟩
      omega
  | succ n ih =>
    show (orTo f n ||| f n).testBit k = true ↔ _
    rw [Nat.testBit_or, Bool.or_eq_true, ih]
    constructor
    · rintro (⟨z, hz, e⟩ | e)
      · exact ⟨z, by omega, e⟩
      · exact ⟨n, by omega, e⟩
    · rintro ⟨z, hz, e⟩
      by_cases h : z = n
      · subst h
        exact Or.inr e
      · exact Or.inl ⟨z, by omega, e⟩
theorem or_perm (f : Nat → Nat) (n m : Nat) (d : Nat → Nat) (P : Nat → Bool) (h1 : ∀ q, q < m → d q < n ∧ P (d q) = true) (h3 : ∀ p, p < n → P p = true → ∃ q, q < m ∧ d q = p) : orTo (fun q => f (d q)) m = orTo (fun p => if P p = true then f p else 0) n := by
  apply Nat.eq_of_testBit_eq
  intro k
  apply Bool.eq_iff_iff.mpr
  rw [orTo_bit, orTo_bit]
  constructor
  · rintro ⟨q, hq, e⟩
    refine ⟨d q, (h1 q hq).1, ?_⟩
    simp only [(h1 q hq).2, if_true]
    exact e
  · rintro ⟨p, hp, e⟩
    by_cases h : P p = true
    · obtain ⟨q, hq, e2⟩ := h3 p hp h
      refine ⟨q, hq, ?_⟩
      simp only [h, if_true] at e
      rw [e2]
      exact e
    · simp [h] at e
theorem orTo_lt {f : Nat → Nat} {k : Nat} : ∀ {n : Nat}, (∀ z, z < n → f z < 2 ^ k) → orTo f n < 2 ^ k := by
  intro n
  induction n with
  | zero => intro _; exact Nat.two_pow_pos k
  | succ n ih =>
    intro h
    exact Nat.or_lt_two_pow (ih (fun z hz => h z (by omega))) (h n (by omega))
theorem mz_bit1 {a k : Nat} (ha : a < 2 ^ 31) (hk : k < 31) : ((nI a >>> (nI k &&& 31)) &&& (1 : Int32)) = (if a.testBit k = true then nI 1 else nI 0) := by
  rw [mz_bit ha hk, Nat.testBit_eq_decide_div_mod_eq]
  by_cases h : a / 2 ^ k % 2 = 1
  · rw [if_pos (decide_eq_true h), h]
  · rw [if_neg (by simp [h]), show a / 2 ^ k % 2 = 0 by omega]
section PMS
variable {i i' i1 i2 i3 j j' j1 j2 : Tb} {rv rv' rv2 : Nat → Nat → Option Nat} {W : Option ((Nat → Nat) → Int)} {K g : Nat → Nat → Nat} {σ τ σ' ρ : Nat → Nat} {q p o k b b' t w v n r z c s x a m y : Nat}
/-- sums over papers are sums over those who are no children -/
theorem sum_pap (hb : OkS K b σ) (f : Nat → Nat) : sumTo (fun q => f (σ (9 + q))) (K 0 5) = sumTo (fun p => if sv K p 5 = 0 then f p else 0) (K 0 3) := by
  rw [sum_perm f (K 0 3) (K 0 5) (fun q => σ (9 + q)) (fun p => decide (sv K p 5 = 0)) (fun q hq => ⟨(hb.2.2.1 q hq).1, decide_eq_true (hb.2.2.1 q hq).2⟩) (fun q r hq hr => hb.2.2.2.1 q r hq hr) (fun p hp hP => hb.2.2.2.2.1 p hp (of_decide_eq_true hP))]
  apply sumTo_congr
  intro z _
  simp only [decide_eq_true_eq]
theorem max_pap (hb : OkS K b σ) (f : Nat → Nat) : maxTo (fun q => f (σ (9 + q))) (K 0 5) = maxTo (fun p => if sv K p 5 = 0 then f p else 0) (K 0 3) := by
  rw [max_perm f (K 0 3) (K 0 5) (fun q => σ (9 + q)) (fun p => decide (sv K p 5 = 0)) (fun q hq => ⟨(hb.2.2.1 q hq).1, decide_eq_true (hb.2.2.1 q hq).2⟩) (fun p hp hP => hb.2.2.2.2.1 p hp (of_decide_eq_true hP))]
  congr 1
  funext z
  simp only [decide_eq_true_eq]
theorem or_pap (hb : OkS K b σ) (f : Nat → Nat) : orTo (fun q => f (σ (9 + q))) (K 0 5) = orTo (fun p => if sv K p 5 = 0 then f p else 0) (K 0 3) := by
  rw [or_perm f (K 0 3) (K 0 5) (fun q => σ (9 + q)) (fun p => decide (sv K p 5 = 0)) (fun q hq => ⟨(hb.2.2.1 q hq).1, decide_eq_true (hb.2.2.1 q hq).2⟩) (fun p hp hP => hb.2.2.2.2.1 p hp (of_decide_eq_true hP))]
  congr 1
  funext z
  simp only [decide_eq_true_eq]
/-- a turn and its wait, as if a coffee were there for each -/
def twB (K : Nat → Nat → Nat) (o : Nat) (σ : Nat → Nat) (p : Nat) : Nat := turnS K σ p o + waitS K p o (σ (18 + p)) 1
theorem twB_le (hK : OkK K) (hp : p < K 0 3) (ho : o < K 0 4) : twB K o σ p ≤ 135 := by
  have := turnS_le (σ := σ) hK hp ho
  have := waitS_le (o := o) (s := σ (18 + p)) (c := 1) hK hp
  unfold twB
  omega
theorem c_bound_l (h : CarC 15 K i) (hK : OkK K) (hb : OkS K b σ) (hs : ScC σ (i 20)) (ho : o < K 0 4) : ∀ n x, x ≤ K 0 5 → K 0 5 - x < n → fX7_leastPossible_7 n (nI o) (nI (sumTo (fun q => turnS K σ (σ (9 + q)) o) x)) (nI (maxTo (fun q => twB K o σ (σ (9 + q))) x)) (nI x) i = some (nI (max (sumTo (fun q => turnS K σ (σ (9 + q)) o) (K 0 5)) (maxTo (fun q => twB K o σ (σ (9 + q))) (K 0 5)))) := by
  have hm := hK.1
  have h5 := hK.2.2.1
  have hs1 : ∀ x, x ≤ K 0 5 → sumTo (fun q => turnS K σ (σ (9 + q)) o) x ≤ 27 * x := fun x hx => by
    have := sumTo_le (f := fun q => turnS K σ (σ (9 + q)) o) (m := 27) (n := x) (fun z hz => turnS_le hK (OkS_dr hb z (by omega)) ho)
    omega
  have hs2 : ∀ x, x ≤ K 0 5 → maxTo (fun q => twB K o σ (σ (9 + q))) x ≤ 135 := fun x hx => maxTo_le.mpr (fun z hz => twB_le hK (OkS_dr hb z (by omega)) ho)
  intro n
  induction n with
  | zero => intro x h1 h2; omega
  | succ n ih =>
    intro x h1 h2
    have b1 := hs1 x h1
    have b2 := hs2 x h1
    rw [fX7_leastPossible_7]
    unfold fX1_papers
    rw [h.2.2.1, mz_b1]
    by_cases h3 : x = K 0 5
    · subst h3
      rw [if_pos (nI_le (by omega) (by omega)), mz_max (by omega) (by omega)]
    · have hp := OkS_dr hb x (by omega)
      have htw := twB_le (σ := σ) hK hp ho
      rw [if_neg (nI_ge (by omega) (by omega)), s_inDrawer (q := 19) hs (by omega), mz_b1, c_turnOf (q := 19) h hK hb hs hp ho, mz_b1, s_saidFor (q := 19) hs (by omega), mz_b1, show (1 : Int32) = (if 0 < 1 then 1 else 0) from rfl, c_waitOf h hK hp ho (hb.2.2.2.2.2.1 _ hp).1, mz_b1, mz_lt, nI_add, nI_add, show turnS K σ (σ (9 + x)) o + waitS K (σ (9 + x)) o (σ (18 + σ (9 + x))) 1 = twB K o σ (σ (9 + x)) from rfl, mz_max (by omega) (by omega), show (if 0 < 1 then (1 : Int32) else 0) = 1 from rfl, nI_1]
      exact ih (x + 1) (by omega) (by omega)
theorem m_bound_l (h' : CarM K j) (hK : OkK K) (hb : OkS K b σ) (hw : ScM K σ (j 63)) (ho : o < K 0 4) : ∀ n x, x ≤ K 0 3 → K 0 3 - x < n → fX12_bound_22 n (nI o) (nI (sumTo (fun p => if sv K p 5 = 0 then turnS K σ p o else 0) x)) (nI (maxTo (fun p => if sv K p 5 = 0 then twB K o σ p else 0) x)) (nI x) j = some (nI (max (sumTo (fun p => if sv K p 5 = 0 then turnS K σ p o else 0) (K 0 3)) (maxTo (fun p => if sv K p 5 = 0 then twB K o σ p else 0) (K 0 3))), j) := by
  have hm := hK.1
  have hs1 : ∀ x, x ≤ K 0 3 → sumTo (fun p => if sv K p 5 = 0 then turnS K σ p o else 0) x ≤ 27 * x := fun x hx => by
    have := sumTo_le (f := fun p => if sv K p 5 = 0 then turnS K σ p o else 0) (m := 27) (n := x) (fun z hz => by
      show (if _ then _ else _) ≤ 27
      split
      · exact turnS_le hK (by omega) ho
      · omega)
    omega
  have hs2 : ∀ x, x ≤ K 0 3 → maxTo (fun p => if sv K p 5 = 0 then twB K o σ p else 0) x ≤ 135 := fun x hx => maxTo_le.mpr (fun z hz => by
    show (if _ then _ else _) ≤ 135
    split
    · exact twB_le hK (by omega) ho
    · omega)
  intro n
  induction n with
  | zero => intro x h1 h2; omega
  | succ n ih =>
    intro x h1 h2
    have b1 := hs1 x h1
    have b2 := hs2 x h1
    rw [fX12_bound_22, h'.1]
    by_cases h3 : x = K 0 3
    · subst h3
      rw [if_pos (nI_le (by omega) (by omega)), mz_max (by omega) (by omega)]
    · have hp : x < K 0 3 := by omega
      have hch := hK.2.2.2.2.2.2.2.2.2.2.1 x hp
      have hl9 := hK.2.2.2.2.2.2.2.2.2.1 x 1 hp (by omega)
      have htw := twB_le (σ := σ) hK hp ho
      have el : j 57 (6 * x + 1) = nI (sv K x 1) := h'.2.2.2.2.1 _ (by omega)
      have ih' := ih (x + 1) (by omega) (by omega)
      have es : sumTo (fun p => if sv K p 5 = 0 then turnS K σ p o else 0) (x + 1) = sumTo (fun p => if sv K p 5 = 0 then turnS K σ p o else 0) x + (if sv K x 5 = 0 then turnS K σ x o else 0) := rfl
      have em : maxTo (fun p => if sv K p 5 = 0 then twB K o σ p else 0) (x + 1) = max (maxTo (fun p => if sv K p 5 = 0 then twB K o σ p else 0) x) (if sv K x 5 = 0 then twB K o σ x else 0) := rfl
      rw [if_neg (nI_ge (by omega) (by omega)), m_isChild h' hK hp, mz_b1]
      simp only [fX12_bound_100, fX12_bound_105, mz_lt]
      by_cases h4 : sv K x 5 = 0
      · rw [if_pos h4] at es em
        rw [if_pos (by rw [h4]; rfl), m_turnOf h' hK hb hw hp ho, mz_b1, mz_b1, show 6 * nI x + 1 = nI (6 * x + 1) from by rw [q6, mz_mul, q1, nI_add], if_pos (mz_in (by omega) (by omega)), nI_clamp (by omega), el]
        by_cases h5 : sv K x 1 = 0
        · have e0 : twB K o σ x = turnS K σ x o := by
            unfold twB
            rw [waitS_0 h5]
            rfl
          rw [if_pos (by rw [h5]; rfl), nI_add, q0, nI_add, Nat.add_zero, ← e0, mz_max (by omega) (by omega), e0, ← es, ← e0, ← em, nI_1]
          exact ih'
        · rw [if_neg (by rw [q0, nI_eq (by omega) (by omega)]; exact h5), show (fX12_waitOf 63 296 (nI x) (nI o) 1 j) = some (nI (waitS K x o (σ (18 + x)) 1)) from m_waitOf (c := 1) h' hK hw hp ho (hb.2.2.2.2.2.1 x hp).1, mz_b1, nI_add, nI_add, show turnS K σ x o + waitS K x o (σ (18 + x)) 1 = twB K o σ x from rfl, mz_max (by omega) (by omega), ← es, ← em, nI_1]
          exact ih'
      · rw [if_neg h4] at es em
        rw [if_neg (by rw [q0, nI_eq (by omega) (by omega)]; exact h4), nI_1]
        rw [es, em, Nat.add_zero, Nat.max_zero] at ih'
        exact ih'
/-- 23: bound -/
theorem R_bound (h : CarC 15 K i) (h' : CarM K j) (hK : OkK K) (hb : OkS K b σ) (hs : ScC σ (i 20)) (hw : ScM K σ (j 63)) (a1 : Int32) : ∃ v, fX11_bound a1 i = some v ∧ fX12_bound a1 j = some (v, u2 j 50 0 0) := by
  have hm := hK.1
  have h5 := hK.2.2.1
  have hw0 : CarM K (u2 j 50 0 0) := m_car0 h' (by omega)
  have hs0 : ScM K σ (u2 j 50 0 0 63) := by rw [u2r _ _ _ _ _ (by omega)]; exact hw
  unfold fX11_bound fX12_bound fX7_leastPossible
  obtain ⟨fu, hfu, hfu2⟩ := fuel_g
  rw [hfu]
  simp only [mz_lt]
  rcases mz_cases a1 with c1 | ⟨o, ho, rfl⟩
  · rw [c_hasOfficer0 c1, m_isOfficer0 c1]
    exact ⟨_, rfl, rfl⟩
  rw [c_hasOfficer h hK ho, m_isOfficer hw0 hK ho, mz_b1, mz_b1]
  by_cases h2 : o < K 0 4
  · rw [if_pos h2, if_neg (by decide), if_neg (by decide)]
    have k1 := c_bound_l h hK hb hs h2 fu 0 (by omega) (by omega)
    have k2 := m_bound_l hw0 hK hb hs0 h2 fu 0 (by omega) (by omega)
    rw [show sumTo (fun q => turnS K σ (σ (9 + q)) o) 0 = 0 from rfl, show maxTo (fun q => twB K o σ (σ (9 + q))) 0 = 0 from rfl] at k1
    rw [show sumTo (fun p => if sv K p 5 = 0 then turnS K σ p o else 0) 0 = 0 from rfl, show maxTo (fun p => if sv K p 5 = 0 then twB K o σ p else 0) 0 = 0 from rfl] at k2
    rw [← q0] at k1 k2
    rw [k1, k2, mz_b1, sum_pap hb (fun p => turnS K σ p o), max_pap hb (fun p => twB K o σ p)]
    exact ⟨_, rfl, rfl⟩
  · rw [if_neg h2]
    exact ⟨_, rfl, rfl⟩
end PMS
