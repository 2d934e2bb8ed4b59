/-! order: the papers' best order -/
/-- the first of d numbers from k on, or the one behind them -/
def fs (P : Nat → Bool) : Nat → Nat → Nat
  | 0, k => k
  | d + 1, k => if P k = true then k else fs P d (k + 1)
theorem fs_eq {P : Nat → Bool} : ∀ d k p, k ≤ p → p ≤ k + d → (∀ z, k ≤ z → z < p → P z = false) → (p < k + d → P p = true) → fs P d k = p := by
  intro d
  induction d with
  | zero => intro k p h1 h2 _ _; show k = p; omega
  | succ d ih =>
    intro k p h1 h2 h3 h4
    rw [fs]
    by_cases h5 : k = p
    · rw [if_pos (by rw [h5]; exact h4 (by omega)), h5]
    · rw [if_neg (by rw [h3 k (by omega) (by omega)]; decide)]
      exact ih (k + 1) p (by omega) (by omega) (fun z z1 z2 => h3 z (by omega) z2) (fun e => h4 (by omega))
def nb (K : Nat → Nat → Nat) (p : Nat) : Nat := sumTo (fun z => if sv K z 5 = 0 then 1 else 0) p
def pp (K : Nat → Nat → Nat) (k : Nat) : Nat := fs (fun p => decide (sv K p 5 = 0 ∧ nb K p = k)) 9 0
/-- a sum over a set -/
def sS (f : Nat → Nat) (s : Nat) : Nat := sumTo (fun k => if s.testBit k = true then f k else 0) 9
def mnTo (P : Nat → Bool) (f : Nat → Nat) : Nat → Nat
  | 0 => 1000000000
  | k + 1 => if P k = true then min (mnTo P f k) (f k) else mnTo P f k
section OD
variable {i i' i1 i2 i3 j j' j1 j2 : Tb} {rv rv' rv1 rv2 : Nat → Nat → Option Nat} {W : Option ((Nat → Nat) → Int)} {K g : Nat → Nat → Nat} {σ τ σ' ρ : Nat → Nat} {q p o k b b' t w v n r z c s x a m y : Nat} {a1 a2 x1 x2 : Int32}
theorem nb_s : nb K (p + 1) = nb K p + (if sv K p 5 = 0 then 1 else 0) := rfl
theorem nb_mono (h : p ≤ q) : nb K p ≤ nb K q := by
  induction q with
  | zero => rw [show p = 0 by omega]; exact Nat.le_refl _
  | succ q ih =>
    by_cases e : p = q + 1
    · rw [e]; exact Nat.le_refl _
    · have := ih (by omega)
      rw [nb_s]
      omega
theorem nb_lt (h : sv K p 5 = 0) (hq : p < q) : nb K p < nb K q := by
  have h1 : nb K (p + 1) ≤ nb K q := nb_mono hq
  rw [nb_s, if_pos h] at h1
  omega
theorem pp_nb (h9 : p < 9) (h : sv K p 5 = 0) : pp K (nb K p) = p := by
  unfold pp
  apply fs_eq 9 0 p (by omega) (by omega)
  · intro z _ hz
    exact decide_eq_false (fun e => by have := nb_lt e.1 hz; omega)
  · intro _
    exact decide_eq_true ⟨h, rfl⟩
theorem nb_ex : ∀ n, k < nb K n → ∃ p, p < n ∧ sv K p 5 = 0 ∧ nb K p = k := by
  intro n
  induction n with
  | zero => intro h; exact absurd h (by unfold nb sumTo; omega)
  | succ n ih =>
    intro h
    by_cases h1 : k < nb K n
    · obtain ⟨p, e1, e2⟩ := ih h1
      exact ⟨p, by omega, e2⟩
    · rw [nb_s] at h
      by_cases h2 : sv K n 5 = 0
      · rw [if_pos h2] at h
        exact ⟨n, by omega, h2, by omega⟩
      · rw [if_neg h2] at h
        omega
theorem pp_ok (hn : n ≤ 9) (h : k < nb K n) : pp K k < n ∧ sv K (pp K k) 5 = 0 ∧ nb K (pp K k) = k := by
  obtain ⟨p, e1, e2, e3⟩ := nb_ex n h
  have := pp_nb (K := K) (by omega) e2
  rw [e3] at this
  rw [this]
  exact ⟨e1, e2, e3⟩
theorem nb_N (hb : OkS K b σ) : nb K (K 0 3) = K 0 5 := by
  have e := sum_pap hb (fun _ => 1)
  have e1 : sumTo (fun _ => 1) (K 0 5) = K 0 5 := by
    generalize K 0 5 = n
    induction n with
    | zero => rfl
    | succ n ih => show sumTo (fun _ => 1) n + 1 = n + 1; rw [ih]
  exact e.symm.trans e1
theorem sS_add {f : Nat → Nat} (hk : k < 9) (h : s.testBit k = false) : sS f (s ||| 2 ^ k) = sS f s + f k := by
  unfold sS
  have e : sumTo (fun z => if (s ||| 2 ^ k).testBit z = true then f z else 0) 9 = sumTo (fun z => (if s.testBit z = true then f z else 0) + (if z = k then f k else 0)) 9 := by
    apply sumTo_congr
    intro z hz
    rw [Nat.testBit_or, Nat.testBit_two_pow]
    by_cases h1 : z = k
    · subst h1
      rw [h]
      simp
    · have h2 : ¬ k = z := fun e => h1 e.symm
      simp [h1, h2]
  rw [e, sumTo_add, sumTo_only (f := fun z => if z = k then f k else 0) hk (fun z _ hz => if_neg hz), if_pos rfl]
theorem sS_0 {f : Nat → Nat} : sS f 0 = 0 := by
  unfold sS
  apply sumTo_zero
  intro z _
  rw [Nat.zero_testBit]
  rfl
theorem sS_le {f : Nat → Nat} (h : ∀ z, s.testBit z = true → f z ≤ m) : sS f s ≤ 9 * m := by
  apply sumTo_le
  intro z _
  by_cases e : s.testBit z = true
  · rw [if_pos e]; exact h z e
  · rw [if_neg e]; omega
theorem bit_lt (hs : s < 2 ^ m) (h : s.testBit k = true) : k < m := by
  rcases Nat.lt_or_ge k m with e | e
  · exact e
  · rw [Nat.testBit_lt_two_pow (Nat.lt_of_lt_of_le hs (Nat.pow_le_pow_right (by omega) e))] at h
    exact absurd h (by decide)
theorem cnt_ex (hm : m ≤ 9) (hs : s < 2 ^ m) (h : sS (fun _ => 1) s < m) : ∃ k, k < m ∧ s.testBit k = false := by
  rcases Classical.em (∃ k, k < m ∧ s.testBit k = false) with e | e
  · exact e
  · exfalso
    have h1 : ∀ k, k < m → s.testBit k = true := fun k hk => by
      cases h2 : s.testBit k
      · exact absurd ⟨k, hk, h2⟩ e
      · rfl
    have h2 : sS (fun _ => 1) s = m := by
      unfold sS
      rw [sumTo_9 hm (fun z z1 z2 => if_neg (fun e => by have := bit_lt hs e; omega)), sumTo_congr (g := fun _ => 1) (fun z hz => if_pos (h1 z hz))]
      generalize m = n
      induction n with
      | zero => rfl
      | succ n ih => show sumTo (fun _ => 1) n + 1 = n + 1; rw [ih]
    omega
theorem cnt_lt (hm : m ≤ 9) (hs : s < 2 ^ m) (hk : k < m) (h : s.testBit k = false) : sS (fun _ => 1) s < m := by
  unfold sS
  rw [sumTo_9 hm (fun z z1 z2 => if_neg (fun e => by have := bit_lt hs e; omega))]
  have h1 : sumTo (fun z => (if s.testBit z = true then 1 else 0) + (if z = k then 1 else 0)) m ≤ m * 1 := by
    apply sumTo_le
    intro z _
    by_cases e : z = k
    · subst e
      rw [h]
      simp
    · rw [if_neg e]
      split <;> omega
  rw [sumTo_add, sumTo_only (f := fun z => if z = k then 1 else 0) hk (fun z _ hz => if_neg hz), if_pos rfl] at h1
  omega
theorem cnt_le (hm : m ≤ 9) (hs : s < 2 ^ m) : sS (fun _ => 1) s ≤ m := by
  unfold sS
  rw [sumTo_9 hm (fun z z1 z2 => if_neg (fun e => by have := bit_lt hs e; omega))]
  have h1 : sumTo (fun z => (if s.testBit z = true then 1 else 0)) m ≤ m * 1 := by
    apply sumTo_le
    intro z _
    split <;> omega
  omega
theorem full_of (hs : s < 2 ^ m) (h : ∀ k, k < m → s.testBit k = true) : s = 2 ^ m - 1 := by
  apply Nat.eq_of_testBit_eq
  intro k
  rw [Nat.testBit_two_pow_sub_one]
  by_cases hk : k < m
  · rw [h k hk, decide_eq_true hk]
  · rw [decide_eq_false hk]
    cases e : s.testBit k
    · rfl
    · exact absurd (bit_lt hs e) hk
theorem full_bit (hk : k < m) : (2 ^ m - 1).testBit k = true := by
  rw [Nat.testBit_two_pow_sub_one, decide_eq_true hk]
theorem or_lt (hs : s < 2 ^ m) (hk : k < m) : s ||| 2 ^ k < 2 ^ m := Nat.or_lt_two_pow hs (Nat.pow_lt_pow_right (by omega) hk)
theorem or_gt (h : s.testBit k = false) : s < s ||| 2 ^ k := by
  have h1 : s ≤ s ||| 2 ^ k := Nat.left_le_or
  rcases Nat.lt_or_ge s (s ||| 2 ^ k) with e | e
  · exact e
  · have e2 : s = s ||| 2 ^ k := by omega
    rw [e2, Nat.testBit_or, Nat.testBit_two_pow_self, Bool.or_true] at h
    exact absurd h (by decide)
theorem mn_le {P : Nat → Bool} {f : Nat → Nat} : ∀ n, k < n → P k = true → mnTo P f n ≤ f k := by
  intro n
  induction n with
  | zero => intro h; omega
  | succ n ih =>
    intro h1 h2
    rw [mnTo]
    by_cases e : k = n
    · subst e
      rw [if_pos h2]
      omega
    · have := ih (by omega) h2
      split <;> omega
theorem mn_ex {P : Nat → Bool} {f : Nat → Nat} : ∀ n, mnTo P f n = 1000000000 ∨ ∃ k, k < n ∧ P k = true ∧ mnTo P f n = f k := by
  intro n
  induction n with
  | zero => exact Or.inl rfl
  | succ n ih =>
    rw [mnTo]
    by_cases h : P n = true
    · rw [if_pos h]
      by_cases h1 : f n < mnTo P f n
      · exact Or.inr ⟨n, by omega, h, by omega⟩
      · rcases ih with e | ⟨k, e1, e2, e3⟩
        · exact Or.inl (by omega)
        · exact Or.inr ⟨k, by omega, e2, by omega⟩
    · rw [if_neg h]
      rcases ih with e | ⟨k, e1, e2, e3⟩
      · exact Or.inl e
      · exact Or.inr ⟨k, by omega, e2, e3⟩
theorem mn_hi {P : Nat → Bool} {f : Nat → Nat} : ∀ n, mnTo P f n ≤ 1000000000 := by
  intro n
  induction n with
  | zero => exact Nat.le_refl _
  | succ n ih =>
    rw [mnTo]
    split <;> omega
/-- the turn, the coffees drunk, and the end of the wait behind a set -/
def tnO (K : Nat → Nat → Nat) (o : Nat) (σ : Nat → Nat) (k : Nat) : Nat := turnS K σ (pp K k) o
def cuO (K : Nat → Nat → Nat) (σ : Nat → Nat) (s : Nat) : Nat := sS (fun k => if σ (18 + pp K k) = 2 then 1 else 0) s
def enO (K : Nat → Nat → Nat) (o : Nat) (σ : Nat → Nat) (s k : Nat) : Nat := sS (tnO K o σ) s + tnO K o σ k + waitS K (pp K k) o (σ (18 + pp K k)) (σ 54 - cuO K σ s)
def owO (K : Nat → Nat → Nat) (o : Nat) (σ T : Nat → Nat) (s k : Nat) : Nat := max (enO K o σ s k) (T (s ||| 2 ^ k))
/-- the table of the least -/
def TbO (K : Nat → Nat → Nat) (o : Nat) (σ T : Nat → Nat) : Prop := T (2 ^ K 0 5 - 1) = sS (tnO K o σ) (2 ^ K 0 5 - 1) ∧ ∀ s, s < 2 ^ K 0 5 - 1 → T s = mnTo (fun k => !(s.testBit k)) (owO K o σ T s) (K 0 5)
def dgO (K : Nat → Nat → Nat) (o : Nat) (σ T : Nat → Nat) (X : Nat) : Nat → Nat → Nat → Nat
  | 0, _, x => x
  | d + 1, s, x => dgO K o σ T X d (s ||| 2 ^ fs (fun k => !(s.testBit k) && decide (owO K o σ T s k ≤ X)) (K 0 5 - 1) 0) (10 * x + pp K (fs (fun k => !(s.testBit k) && decide (owO K o σ T s k ≤ X)) (K 0 5 - 1) 0))
theorem enO_lt {K : Nat → Nat → Nat} {σ : Nat → Nat} {s k o b : Nat} (hK : OkK K) (hb : OkS K b σ) (ho : o < K 0 4) (hs : s < 2 ^ K 0 5) (hk : k < K 0 5) : enO K o σ s k < 1000 := by
  have hm := hK.1
  have hp := hK.2.2.1
  have ht : ∀ z, z < K 0 5 → tnO K o σ z ≤ 27 := fun z hz => turnS_le hK (pp_ok (n := K 0 3) hm (by rw [nb_N hb]; exact hz)).1 ho
  have h1 := sS_le (f := tnO K o σ) (s := s) (m := 27) (fun z hz => ht z (bit_lt hs hz))
  have h2 := ht k hk
  have h3 := waitS_le (o := o) (s := σ (18 + pp K k)) (c := σ 54 - cuO K σ s) hK (pp_ok (n := K 0 3) hm (by rw [nb_N hb]; exact hk)).1
  unfold enO
  omega
theorem TbO_lt {K : Nat → Nat → Nat} {σ T : Nat → Nat} {o b : Nat} (hK : OkK K) (hb : OkS K b σ) (ho : o < K 0 4) (hT : TbO K o σ T) : ∀ n s, s < 2 ^ K 0 5 → 2 ^ K 0 5 - s ≤ n → T s < 1000 := by
  have hm := hK.1
  have hp := hK.2.2.1
  intro n
  induction n with
  | zero => intro s h1 h2; omega
  | succ n ih =>
    intro s h1 h2
    by_cases h3 : s = 2 ^ K 0 5 - 1
    · rw [h3, hT.1]
      have h4 := sS_le (f := tnO K o σ) (s := 2 ^ K 0 5 - 1) (m := 27) (fun z hz => turnS_le hK (pp_ok (n := K 0 3) hm (by rw [nb_N hb]; exact bit_lt (by rw [← h3]; exact h1) hz)).1 ho)
      omega
    · have h4 : ∃ k, k < K 0 5 ∧ s.testBit k = false := by
        rcases Classical.em (∃ k, k < K 0 5 ∧ s.testBit k = false) with e | e
        · exact e
        · exfalso
          apply h3
          apply full_of h1
          intro k hk
          cases h2 : s.testBit k
          · exact absurd ⟨k, hk, h2⟩ e
          · rfl
      obtain ⟨k, hk, hk2⟩ := h4
      have h5 := or_gt hk2
      have h6 := or_lt h1 hk
      have h7 := ih (s ||| 2 ^ k) h6 (by omega)
      have h8 := enO_lt (s := s) hK hb ho h1 hk
      have h9 := mn_le (P := fun k => !(s.testBit k)) (f := owO K o σ T s) (k := k) (K 0 5) hk (by simp [hk2])
      rw [hT.2 s (by omega)]
      have h10 : owO K o σ T s k < 1000 := by unfold owO; omega
      omega
end OD
