/-! words: bounds of a word's beginning, words whose coffees are there; a code's words and back -/
def plQ (σ : Nat → Nat) (p : Nat) : Nat := fs (fun z => decide (σ (9 + z) = p)) 9 0
def ftW (K : Nat → Nat → Nat) (σ : Nat → Nat) (o k v : Nat) : Nat := tB K o σ (plQ σ (lk K k) + 1) + waitS K (lk K k) o v 1
def pkW (K : Nat → Nat → Nat) (σ w : Nat → Nat) (o : Nat) : Nat → Nat
  | 0 => tB K o σ (K 0 5)
  | k + 1 => max (pkW K σ w o k) (ftW K σ o k (w k))
def mnF (K : Nat → Nat → Nat) (σ : Nat → Nat) (o k : Nat) : Nat := min (min (ftW K σ o k 0) (ftW K σ o k 1)) (ftW K σ o k 2)
def reW (K : Nat → Nat → Nat) (σ : Nat → Nat) (o m : Nat) : Nat → Nat
  | 0 => tB K o σ (K 0 5)
  | d + 1 => max (mnF K σ o (m - (d + 1))) (reW K σ o m d)
def bW (K : Nat → Nat → Nat) (σ w : Nat → Nat) (m k : Nat) : Nat := sumTo (fun o => ov K o 0 * max (pkW K σ w o k) (reW K σ o m (m - k))) (K 0 4)
def tw (w : Nat → Nat) (k : Nat) : Nat := sumTo (fun z => if w z = 2 then 1 else 0) k
def ExW (m C : Nat) (w : Nat → Nat) (k : Nat) (w' : Nat → Nat) : Prop := (∀ j, j < k → w' j = w j) ∧ (∀ j, w' j ≤ 2) ∧ tw w' m ≤ C
def cdW (w : Nat → Nat) : Nat → Nat
  | 0 => 0
  | k + 1 => 3 * cdW w k + w k
/-- a word without the coffees that are not there -/
def nfW (K : Nat → Nat → Nat) (σ w : Nat → Nat) (k : Nat) : Nat := if w k = 2 ∧ cB (saQ K σ w (K 0 3)) (plQ σ (lk K k)) = 0 then 0 else w k
section WR
variable {i i' i1 i2 i3 j j' j1 j2 : Tb} {K g : Nat → Nat → Nat} {σ τ σ' ρ T w w' w'' : Nat → Nat} {q p o k b b' t v n r z c s x a m y l d u C : Nat}
theorem sumTo_mo {f g : Nat → Nat} : ∀ {n : Nat}, (∀ z, z < n → f z ≤ g z) → sumTo f n ≤ sumTo g n := by
  intro n
  induction n with
  | zero => intro _; exact Nat.le_refl _
  | succ n ih =>
    intro h
    have h1 := ih (fun z hz => h z (by omega))
    have h2 := h n (by omega)
    rw [sumTo, sumTo]
    omega
theorem sumTo_up {f : Nat → Nat} (h : a ≤ n) : sumTo f a ≤ sumTo f n := by
  induction n with
  | zero => rw [show a = 0 by omega]; exact Nat.le_refl _
  | succ n ih =>
    by_cases e : a = n + 1
    · rw [e]; exact Nat.le_refl _
    · have := ih (by omega)
      rw [sumTo]
      omega
theorem up_e : up w k v k = v := if_pos rfl
theorem up_n (h : z ≠ k) : up w k v z = w z := if_neg h
theorem pkW_congr : ∀ k, (∀ z, z < k → w' z = w z) → pkW K σ w' o k = pkW K σ w o k := by
  intro k
  induction k with
  | zero => intro _; rfl
  | succ k ih => intro h; rw [pkW, pkW, ih (fun z hz => h z (by omega)), h k (by omega)]
theorem bW_congr (h : ∀ z, z < k → w' z = w z) : bW K σ w' m k = bW K σ w m k := by
  unfold bW
  apply sumTo_congr
  intro o _
  rw [pkW_congr k h]
theorem tw_congr : ∀ k, (∀ z, z < k → w' z = w z) → tw w' k = tw w k := fun k h => sumTo_congr (fun z hz => by rw [h z hz])
theorem dg_congr : ∀ k, (∀ z, z < k → w' z = w z) → dgW w' k = dgW w k := by
  intro k
  induction k with
  | zero => intro _; rfl
  | succ k ih => intro h; rw [dgW, dgW, ih (fun z hz => h z (by omega)), h k (by omega)]
theorem cd_congr : ∀ k, (∀ z, z < k → w' z = w z) → cdW w' k = cdW w k := by
  intro k
  induction k with
  | zero => intro _; rfl
  | succ k ih => intro h; rw [cdW, cdW, ih (fun z hz => h z (by omega)), h k (by omega)]
theorem mnF_le (h : v ≤ 2) : mnF K σ o k ≤ ftW K σ o k v := by
  unfold mnF
  rcases (show v = 0 ∨ v = 1 ∨ v = 2 by omega) with rfl | rfl | rfl <;> omega
theorem bW_s (hw : ∀ k, w k ≤ 2) (hk : k < m) : bW K σ w m k ≤ bW K σ w m (k + 1) := by
  unfold bW
  apply sumTo_mo
  intro o _
  apply Nat.mul_le_mul_left
  have h1 := mnF_le (K := K) (σ := σ) (o := o) (k := k) (hw k)
  obtain ⟨d, hd⟩ : ∃ d, m - k = d + 1 := ⟨m - k - 1, by omega⟩
  rw [hd, show m - (k + 1) = d by omega, pkW, reW, show m - (d + 1) = k by omega]
  omega
theorem bW_up (hw : ∀ k, w k ≤ 2) : ∀ d, k + d ≤ m → bW K σ w m k ≤ bW K σ w m (k + d) := by
  intro d
  induction d with
  | zero => intro _; exact Nat.le_refl _
  | succ d ih =>
    intro h
    exact Nat.le_trans (ih (by omega)) (bW_s hw (by omega))
theorem bW_m (hw : ∀ k, w k ≤ 2) (hk : k ≤ m) : bW K σ w m k ≤ bW K σ w m m := by
  have := bW_up (K := K) (σ := σ) (k := k) (m := m) hw (m - k) (by omega)
  rw [show k + (m - k) = m by omega] at this
  exact this
theorem Ex_b (h : ExW m C w k w') (hk : k ≤ m) : bW K σ w m k ≤ bW K σ w' m m := by
  rw [← bW_congr h.1]
  exact bW_m h.2.1 hk
theorem Ex_up (h : ExW m C w k w') : ExW m C (up w k (w' k)) (k + 1) w' := by
  refine ⟨fun j hj => ?_, h.2⟩
  by_cases e : j = k
  · rw [e, up_e]
  · rw [up_n e]
    exact h.1 j (by omega)
theorem Ex_dn (h : ExW m C (up w k v) (k + 1) w') : ExW m C w k w' ∧ w' k = v := by
  refine ⟨⟨fun j hj => ?_, h.2⟩, ?_⟩
  · have := h.1 j (by omega)
    rw [up_n (by omega)] at this
    exact this
  · have := h.1 k (by omega)
    rw [up_e] at this
    exact this
theorem Ex_2 (h : ExW m C w k w') (hk : k < m) (h2 : w' k = 2) : tw w k < C := by
  have h1 : tw w' (k + 1) ≤ tw w' m := sumTo_up hk
  have h3 : tw w' (k + 1) = tw w' k + 1 := by
    show tw w' k + (if w' k = 2 then 1 else 0) = _
    rw [if_pos h2]
  rw [tw_congr k h.1] at h3
  have := h.2.2
  omega
theorem cd_lt (hw : ∀ k, w k ≤ 2) : ∀ k, cdW w k < 3 ^ k := by
  intro k
  induction k with
  | zero => exact Nat.one_pos
  | succ k ih =>
    have := hw k
    rw [cdW, Nat.pow_succ]
    omega
theorem cd_lex (hw : ∀ k, w k ≤ 2) (h : cdW w k < cdW w' k) : ∀ d, cdW w (k + d) < cdW w' (k + d) := by
  intro d
  induction d with
  | zero => exact h
  | succ d ih =>
    have := hw (k + d)
    show 3 * cdW w (k + d) + w (k + d) < 3 * cdW w' (k + d) + w' (k + d)
    omega
theorem cd_mo : ∀ k, (∀ z, z < k → w' z ≤ w z) → cdW w' k ≤ cdW w k := by
  intro k
  induction k with
  | zero => intro _; exact Nat.le_refl _
  | succ k ih =>
    intro h
    have h1 := ih (fun z hz => h z (by omega))
    have h2 := h k (by omega)
    rw [cdW, cdW]
    omega
theorem cd_st : ∀ k, (∀ z, z < k → w' z ≤ w z) → z < k → w' z < w z → cdW w' k < cdW w k := by
  intro k
  induction k with
  | zero => intro _ h; omega
  | succ k ih =>
    intro h h1 h2
    have h4 := h k (by omega)
    rw [cdW, cdW]
    by_cases e : z = k
    · have h3 := cd_mo k (fun z hz => h z (by omega))
      rw [e] at h2
      omega
    · have h3 := ih (fun z hz => h z (by omega)) (by omega) h2
      omega
theorem cd_div (hw : ∀ k, w k ≤ 2) : ∀ d, cdW w (k + d) / 3 ^ d = cdW w k := by
  intro d
  induction d with
  | zero => rw [Nat.pow_zero, Nat.div_one]; rfl
  | succ d ih =>
    have := hw (k + d)
    have e : cdW w (k + (d + 1)) / 3 = cdW w (k + d) := by
      show (3 * cdW w (k + d) + w (k + d)) / 3 = _
      omega
    rw [Nat.pow_succ, Nat.mul_comm, ← Nat.div_div_eq_div_mul, e, ih]
theorem wdU_cd (hw : ∀ k, w k ≤ 2) (hk : k < m) : wdU m (cdW w m) k = w k := by
  unfold wdU
  have e := cd_div (k := k + 1) hw (m - 1 - k)
  rw [show k + 1 + (m - 1 - k) = m by omega] at e
  have := hw k
  rw [e, cdW]
  omega
theorem cd_wdU (hu : u < 3 ^ m) : ∀ k, k ≤ m → cdW (wdU m u) k = u / 3 ^ (m - k) := by
  intro k
  induction k with
  | zero =>
    intro _
    rw [Nat.sub_zero, Nat.div_eq_of_lt hu]
    rfl
  | succ k ih =>
    intro hk
    obtain ⟨d, hd⟩ : ∃ d, m - k = d + 1 := ⟨m - k - 1, by omega⟩
    have e : wdU m u k = u / 3 ^ d % 3 := by unfold wdU; rw [show m - 1 - k = d by omega]
    rw [cdW, ih (by omega), e, hd, show m - (k + 1) = d by omega, Nat.pow_succ, ← Nat.div_div_eq_div_mul]
    omega
theorem cd_U (hu : u < 3 ^ m) : cdW (wdU m u) m = u := by
  rw [cd_wdU hu m (Nat.le_refl _), Nat.sub_self, Nat.pow_zero, Nat.div_one]
/-! the drawer -/
theorem pl_dr (hK : OkK K) (hb : OkS K b σ) (hz : z < K 0 5) : plQ σ (σ (9 + z)) = z := by
  have hm := hK.1
  have hp := hK.2.2.1
  unfold plQ
  apply fs_eq 9 0 z (by omega) (by omega)
  · intro y _ hy
    exact decide_eq_false (fun e => by have := hb.2.2.2.1 y z (by omega) hz e; omega)
  · intro _
    exact decide_eq_true rfl
theorem pl_lk (hK : OkK K) (hb : OkS K b σ) (hk : k < nl K (K 0 3)) : plQ σ (lk K k) < K 0 5 ∧ σ (9 + plQ σ (lk K k)) = lk K k ∧ lk K k < K 0 3 ∧ isL K (lk K k) = true ∧ nl K (lk K k) = k := by
  obtain ⟨e1, e2, e3⟩ := lk_ok hK.1 hk
  obtain ⟨q, f1, f2⟩ := hb.2.2.2.2.1 _ e1 (of_decide_eq_true e2).1
  have e := pl_dr hK hb f1
  rw [f2] at e
  rw [e]
  exact ⟨f1, f2, e1, e2, e3⟩
theorem sa_dr (hK : OkK K) (hz : z < K 0 5) : saQ K σ w (K 0 3) (9 + z) = σ (9 + z) := by
  have hm := hK.1
  have hp := hK.2.2.1
  exact saQ_o (by omega) hm
theorem sa_tB (hK : OkK K) (hb : OkS K b σ) (hz : z ≤ K 0 5) : tB K o (saQ K σ w (K 0 3)) z = tB K o σ z := by
  unfold tB
  apply sumTo_congr
  intro y hy
  have hpl := OkS_dr hb y (by omega)
  rw [sa_dr hK (by omega)]
  unfold turnS
  rw [saQ_o (by omega) hK.1]
/-- twos in the drawer -/
def n2 (K : Nat → Nat → Nat) (σ : Nat → Nat) (z : Nat) : Nat := sumTo (fun y => if σ (18 + σ (9 + y)) = 2 then 1 else 0) z
theorem sa_wd (hb : OkS K b σ) (hp : p < K 0 3) : saQ K σ w (K 0 3) (18 + p) = if isL K p = true then w (nl K p) else 0 := by
  rw [saQ_a hp]
  by_cases h : isL K p = true
  · rw [if_pos h, if_pos h]
  · rw [if_neg h, if_neg h]
    rcases Nat.eq_zero_or_pos (σ (18 + p)) with e | e
    · exact e
    · exact absurd (decide_eq_true ((hb.2.2.2.2.2.1 p hp).2 (by omega))) h
theorem tw_nl : ∀ n, tw w (nl K n) = sumTo (fun p => if isL K p = true then (if w (nl K p) = 2 then 1 else 0) else 0) n := by
  intro n
  induction n with
  | zero => rfl
  | succ n ih =>
    rw [nl_s, sumTo, ← ih]
    by_cases h : isL K n = true
    · rw [if_pos h, if_pos h]
      rfl
    · rw [if_neg h, if_neg h]
      rfl
theorem n2_tw (hK : OkK K) (hb : OkS K b σ) (hw : ∀ k, w k ≤ 2) : n2 K (saQ K σ w (K 0 3)) (K 0 5) = tw w (nl K (K 0 3)) := by
  have hb3 := OkS_sa (w := w) hK hb hw _ (Nat.le_refl _)
  have e := sum_pap hb3 (fun p => if saQ K σ w (K 0 3) (18 + p) = 2 then 1 else 0)
  unfold n2
  rw [e, tw_nl]
  apply sumTo_congr
  intro p hp
  rw [sa_wd hb hp]
  by_cases h : isL K p = true
  · rw [if_pos (of_decide_eq_true h).1, if_pos h, if_pos h]
  · rw [if_neg h, if_neg h, if_neg (show ¬ (0 : Nat) = 2 by omega)]
    split <;> rfl
theorem n2_s : n2 K σ (z + 1) = n2 K σ z + (if σ (18 + σ (9 + z)) = 2 then 1 else 0) := rfl
theorem cB_n2 : cB σ z = σ 54 - n2 K σ z := rfl
/-- one of a word's waits -/
theorem sa_wait (hK : OkK K) (hb : OkS K b σ) (hk : k < nl K (K 0 3)) : dB K o (saQ K σ w (K 0 3)) (plQ σ (lk K k)) = ftW K σ o k (nfW K σ w k) := by
  obtain ⟨e1, e2, e3, e4, e5⟩ := pl_lk hK hb hk
  unfold dB ftW
  rw [sa_tB hK hb (by omega), sa_dr hK e1, e2, sa_wd hb e3, if_pos e4, e5]
  unfold nfW
  congr 1
  by_cases h : w k = 2 ∧ cB (saQ K σ w (K 0 3)) (plQ σ (lk K k)) = 0
  · rw [if_pos h, h.1, h.2]
    rfl
  · rw [if_neg h]
    unfold waitS
    by_cases h1 : w k = 1
    · rw [if_pos h1, if_pos h1]
    · rw [if_neg h1, if_neg h1]
      by_cases h2 : w k = 2
      · have : 0 < cB (saQ K σ w (K 0 3)) (plQ σ (lk K k)) := by
          rcases Nat.eq_zero_or_pos (cB (saQ K σ w (K 0 3)) (plQ σ (lk K k))) with e | e
          · exact absurd ⟨h2, e⟩ h
          · exact e
        rw [if_pos ⟨h2, this⟩, if_pos ⟨h2, by omega⟩]
      · rw [if_neg (fun e => h2 e.1), if_neg (fun e => h2 e.1)]
theorem oB_lei : oB K o σ z ≤ x ↔ ∀ y, y < z → dB K o σ y ≤ x := by
  induction z with
  | zero => exact ⟨fun _ y hy => by omega, fun _ => Nat.zero_le _⟩
  | succ z ih =>
    have e : oB K o σ (z + 1) = max (oB K o σ z) (dB K o σ z) := rfl
    rw [e]
    constructor
    · intro h y hy
      by_cases e2 : y = z
      · rw [e2]; omega
      · exact ih.mp (by omega) y (by omega)
    · intro h
      have h1 := ih.mpr (fun y hy => h y (by omega))
      have h2 := h z (by omega)
      omega
theorem pkW_lei : pkW K σ w o k ≤ x ↔ tB K o σ (K 0 5) ≤ x ∧ ∀ z, z < k → ftW K σ o z (w z) ≤ x := by
  induction k with
  | zero => exact ⟨fun h => ⟨h, fun y hy => by omega⟩, fun h => h.1⟩
  | succ k ih =>
    rw [pkW]
    constructor
    · intro h
      have h1 := ih.mp (show pkW K σ w o k ≤ x by omega)
      refine ⟨h1.1, fun z hz => ?_⟩
      by_cases e2 : z = k
      · rw [e2]; omega
      · exact h1.2 z (by omega)
    · intro h
      have h1 := ih.mpr ⟨h.1, fun y hy => h.2 y (by omega)⟩
      have h2 := h.2 k (by omega)
      omega
theorem oB_nf (hK : OkK K) (hb : OkS K b σ) (hw : ∀ k, w k ≤ 2) : oB K o (saQ K σ w (K 0 3)) (K 0 5) = pkW K σ (nfW K σ w) o (nl K (K 0 3)) := by
  have hb3 := OkS_sa (w := w) hK hb hw _ (Nat.le_refl _)
  apply Nat.le_antisymm
  · apply oB_lei.mpr
    have hpk := pkW_lei.mp (Nat.le_refl (pkW K σ (nfW K σ w) o (nl K (K 0 3))))
    intro y hy
    have hpl := OkS_dr hb y hy
    by_cases h : isL K (σ (9 + y)) = true
    · have hk := nl_lt h hpl
      have hkl := lk_nl (K := K) (by have := hK.1; omega) h
      have e := sa_wait (o := o) (w := w) hK hb hk
      rw [hkl, pl_dr hK hb hy] at e
      rw [e]
      exact hpk.2 _ hk
    · have h5 := (hb.2.2.1 y hy).2
      have h1 : sv K (σ (9 + y)) 1 = 0 := by
        rcases Nat.eq_zero_or_pos (sv K (σ (9 + y)) 1) with e | e
        · exact e
        · exact absurd (decide_eq_true ⟨h5, e⟩) h
      unfold dB
      rw [sa_dr hK hy, waitS_0 h1, sa_tB hK hb (by omega)]
      have : tB K o σ (y + 1) ≤ tB K o σ (K 0 5) := sumTo_up (by omega)
      have := hpk.1
      omega
  · apply pkW_lei.mpr
    constructor
    · rw [← sa_tB (w := w) hK hb (Nat.le_refl _)]
      have := oB_m (o := o) hK hb3 (K 0 5) (Nat.le_refl _)
      rw [this]
      omega
    · intro k hk
      rw [← sa_wait hK hb hk]
      exact oB_lei.mp (Nat.le_refl _) _ (pl_lk hK hb hk).1
theorem vW_nf (hK : OkK K) (hb : OkS K b σ) (hw : ∀ k, w k ≤ 2) : vW K σ w = bW K σ (nfW K σ w) (nl K (K 0 3)) (nl K (K 0 3)) := by
  unfold vW bW
  apply sumTo_congr
  intro o _
  have h := (pkW_lei.mp (Nat.le_refl (pkW K σ (nfW K σ w) o (nl K (K 0 3))))).1
  rw [oB_nf hK hb hw, Nat.sub_self, reW]
  congr 1
  omega
theorem nf_le : nfW K σ w k ≤ w k := by
  unfold nfW
  split <;> omega
theorem nf_2 (hw : ∀ k, w k ≤ 2) : ∀ k, nfW K σ w k ≤ 2 := fun k => Nat.le_trans nf_le (hw k)
/-- a word whose coffees are there is its own -/
theorem nf_id (hK : OkK K) (hb : OkS K b σ) (hw : ∀ k, w k ≤ 2) (ht : tw w (nl K (K 0 3)) ≤ σ 54) (hk : k < nl K (K 0 3)) : nfW K σ w k = w k := by
  unfold nfW
  apply if_neg
  intro h
  obtain ⟨e1, e2, e3, e4, e5⟩ := pl_lk hK hb hk
  have h1 := n2_tw hK hb hw
  have h2 : n2 K (saQ K σ w (K 0 3)) (plQ σ (lk K k) + 1) ≤ n2 K (saQ K σ w (K 0 3)) (K 0 5) := sumTo_up (by omega)
  rw [n2_s, sa_dr hK e1, e2, sa_wd hb e3, if_pos e4, e5, if_pos h.1] at h2
  have h3 := h.2
  rw [cB_n2 (K := K), saQ_o (by omega) hK.1] at h3
  omega
theorem nf_tw (hK : OkK K) (hb : OkS K b σ) (hw : ∀ k, w k ≤ 2) : tw (nfW K σ w) (nl K (K 0 3)) ≤ σ 54 := by
  rw [← n2_tw hK hb (nf_2 hw)]
  have key : ∀ z, z ≤ K 0 5 → n2 K (saQ K σ (nfW K σ w) (K 0 3)) z = min (n2 K (saQ K σ w (K 0 3)) z) (σ 54) := by
    intro z
    induction z with
    | zero => intro _; exact (Nat.zero_min _).symm
    | succ z ih =>
      intro hz
      have hpl := OkS_dr hb z (by omega)
      rw [n2_s, n2_s, ih (by omega), sa_dr hK (by omega), sa_dr hK (by omega), sa_wd hb hpl, sa_wd hb hpl]
      by_cases h : isL K (σ (9 + z)) = true
      · have hkl := lk_nl (K := K) (by have := hK.1; omega) h
        rw [if_pos h, if_pos h]
        unfold nfW
        rw [hkl, pl_dr hK hb (by omega), cB_n2 (K := K), saQ_o (k := 54) (by omega) hK.1]
        by_cases h2 : w (nl K (σ (9 + z))) = 2
        · by_cases h3 : σ 54 - n2 K (saQ K σ w (K 0 3)) z = 0
          · rw [if_pos (show w (nl K (σ (9 + z))) = 2 ∧ σ 54 - n2 K (saQ K σ w (K 0 3)) z = 0 from ⟨h2, h3⟩), if_neg (show ¬ (0 : Nat) = 2 by omega), if_pos h2]
            omega
          · rw [if_neg (show ¬ (w (nl K (σ (9 + z))) = 2 ∧ σ 54 - n2 K (saQ K σ w (K 0 3)) z = 0) from fun e => h3 e.2), if_pos h2]
            omega
        · rw [if_neg (show ¬ (w (nl K (σ (9 + z))) = 2 ∧ σ 54 - n2 K (saQ K σ w (K 0 3)) z = 0) from fun e => h2 e.1), if_neg h2]
          omega
      · rw [if_neg h, if_neg h, if_neg (show ¬ (0 : Nat) = 2 by omega)]
        omega
  rw [key _ (Nat.le_refl _)]
  omega
theorem saQ_congr (h : ∀ k, k < nl K (K 0 3) → w' k = w k) : saQ K σ w' (K 0 3) = saQ K σ w (K 0 3) := by
  funext k
  unfold saQ
  by_cases e : 18 ≤ k ∧ k < 18 + K 0 3 ∧ isL K (k - 18) = true
  · rw [if_pos e, if_pos e, h _ (nl_lt e.2.2 (by omega))]
  · rw [if_neg e, if_neg e]
theorem vW_congr (h : ∀ k, k < nl K (K 0 3) → w' k = w k) : vW K σ w' = vW K σ w := by
  unfold vW
  rw [saQ_congr h]
/-- the class's word is the model's code -/
theorem W_same (hK : OkK K) (hb : OkS K b σ) {s : Nat} (hs : s < 3 ^ nl K (K 0 3)) (h1 : ∀ z, z < 3 ^ nl K (K 0 3) → vW K σ (wdU (nl K (K 0 3)) s) ≤ vW K σ (wdU (nl K (K 0 3)) z)) (h2 : ∀ z, z < s → vW K σ (wdU (nl K (K 0 3)) s) < vW K σ (wdU (nl K (K 0 3)) z))
    (w0 : Nat → Nat) (g1 : ∀ w', ExW (nl K (K 0 3)) (σ 54) w0 0 w' → x ≤ bW K σ w' (nl K (K 0 3)) (nl K (K 0 3))) (hw : ExW (nl K (K 0 3)) (σ 54) w0 0 w) (g2 : bW K σ w (nl K (K 0 3)) (nl K (K 0 3)) ≤ x) (g3 : ∀ w', ExW (nl K (K 0 3)) (σ 54) w0 0 w' → bW K σ w' (nl K (K 0 3)) (nl K (K 0 3)) ≤ x → cdW w (nl K (K 0 3)) ≤ cdW w' (nl K (K 0 3))) :
    dgW w (nl K (K 0 3)) = dgW (wdU (nl K (K 0 3)) s) (nl K (K 0 3)) ∧ x = vW K σ (wdU (nl K (K 0 3)) s) := by
  have ex : ∀ w' : Nat → Nat, (∀ k, w' k ≤ 2) → tw w' (nl K (K 0 3)) ≤ σ 54 → ExW (nl K (K 0 3)) (σ 54) w0 0 w' := fun w' a1 a2 => ⟨fun j hj => by omega, a1, a2⟩
  have good : ∀ w' : Nat → Nat, (∀ k, w' k ≤ 2) → tw w' (nl K (K 0 3)) ≤ σ 54 → vW K σ w' = bW K σ w' (nl K (K 0 3)) (nl K (K 0 3)) := fun w' a1 a2 => by
    rw [vW_nf hK hb a1]
    exact bW_congr (fun z hz => nf_id hK hb a1 a2 hz)
  have all : ∀ w' : Nat → Nat, (∀ k, w' k ≤ 2) → vW K σ (wdU (nl K (K 0 3)) s) ≤ vW K σ w' := fun w' a1 => by
    have e := h1 _ (cd_lt a1 (nl K (K 0 3)))
    rw [vW_congr (w := w') (w' := wdU (nl K (K 0 3)) (cdW w' (nl K (K 0 3)))) (fun k hk => wdU_cd a1 hk)] at e
    exact e
  have lower : ∀ w' : Nat → Nat, (∀ k, w' k ≤ 2) → vW K σ w' ≤ vW K σ (wdU (nl K (K 0 3)) s) → s ≤ cdW w' (nl K (K 0 3)) := fun w' a1 a2 => by
    rcases Nat.lt_or_ge (cdW w' (nl K (K 0 3))) s with e | e
    · have e2 := h2 _ e
      rw [vW_congr (w := w') (w' := wdU (nl K (K 0 3)) (cdW w' (nl K (K 0 3)))) (fun k hk => wdU_cd a1 hk)] at e2
      omega
    · exact e
  have hs2 : ∀ k, wdU (nl K (K 0 3)) s k ≤ 2 := fun _ => wdU_le
  have hnf : ∀ k, k < nl K (K 0 3) → nfW K σ (wdU (nl K (K 0 3)) s) k = wdU (nl K (K 0 3)) s k := by
    intro k hk
    rcases Nat.lt_or_ge (nfW K σ (wdU (nl K (K 0 3)) s) k) (wdU (nl K (K 0 3)) s k) with e | e
    · have c1 := cd_st (nl K (K 0 3)) (fun z _ => nf_le (K := K) (σ := σ) (w := wdU (nl K (K 0 3)) s) (k := z)) hk e
      rw [cd_U hs] at c1
      have c2 := lower (nfW K σ (wdU (nl K (K 0 3)) s)) (nf_2 hs2) (by rw [good _ (nf_2 hs2) (nf_tw hK hb hs2), vW_nf hK hb hs2]; exact Nat.le_refl _)
      omega
    · have := nf_le (K := K) (σ := σ) (w := wdU (nl K (K 0 3)) s) (k := k)
      omega
  have htw : tw (wdU (nl K (K 0 3)) s) (nl K (K 0 3)) ≤ σ 54 := by
    rw [← tw_congr _ hnf]
    exact nf_tw hK hb hs2
  have es := good _ hs2 htw
  have e1 := g1 _ (ex _ hs2 htw)
  have e2 := good w hw.2.1 hw.2.2
  have e3 := all w hw.2.1
  have ex' : x = vW K σ (wdU (nl K (K 0 3)) s) := by omega
  have e4 := g3 _ (ex _ hs2 htw) (by omega)
  rw [cd_U hs] at e4
  have e5 := lower w hw.2.1 (by omega)
  have e6 : cdW w (nl K (K 0 3)) = s := by omega
  refine ⟨?_, ex'⟩
  rw [← e6]
  exact (dg_congr _ (fun k hk => wdU_cd hw.2.1 hk)).symm
end WR
