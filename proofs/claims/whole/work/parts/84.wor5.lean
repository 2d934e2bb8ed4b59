/-! words: the class's search -/
def AdT (K : Nat → Nat → Nat) (σ : Nat → Nat) (m : Nat) (i : Tb) : Prop := CarC 15 K i ∧ i 35 12 = nI m ∧ (∀ k v o, k < m → v < 3 → o < K 0 4 → i 42 ((k * 3 + v) * 4 + o) = nI (ftW K σ o k v)) ∧ (∀ k o, k ≤ m → o < K 0 4 → i 44 (k * 4 + o) = nI (reW K σ o m (m - k)))
def PkT (K : Nat → Nat → Nat) (σ w : Nat → Nat) (k : Nat) (i : Tb) : Prop := ∀ z o, z ≤ k → o < K 0 4 → i 43 (z * 4 + o) = nI (pkW K σ w o z)
/-- row 43 above the level k, row 35 at 13 and 14: nothing else -/
def FrW (k c : Nat) (i i' : Tb) : Prop := Fr [35, 43] i i' ∧ (∀ z, z < k * 4 + 4 → i' 43 z = i 43 z) ∧ (∀ z, z ≠ c → i' 35 z = i 35 z)
def ct3 (T : Nat) : Nat := (T.testBit 0).toNat + (T.testBit 1).toNat + (T.testBit 2).toNat
theorem ct3_a : ∀ T, T < 8 → ∀ v, v < 3 → T.testBit v = false → ct3 (T ||| 2 ^ v) = ct3 T + 1 ∧ T ||| 2 ^ v < 8 := by decide +kernel
theorem ct3_3 : ∀ T, T < 8 → ct3 T = 3 → ∀ v, v < 3 → T.testBit v = true := by decide +kernel
section WS
variable {i i' i1 i2 i3 j j' j1 j2 : Tb} {K g : Nat → Nat → Nat} {σ τ σ' ρ w w' w'' : Nat → Nat} {q p o k b b' t v n r z c s x a m y l d u C T : Nat} {a1 a2 x1 x2 x3 x4 x5 x6 x7 x9 : Int32}
theorem FrW_r : FrW k c i i := ⟨Fr_r _ _, fun _ _ => rfl, fun _ _ => rfl⟩
theorem FrW_t (h : FrW k c i i1) (h' : FrW k c i1 i2) : FrW k c i i2 := ⟨Fr_t h.1 h'.1, fun z hz => (h'.2.1 z hz).trans (h.2.1 z hz), fun z hz => (h'.2.2 z hz).trans (h.2.2 z hz)⟩
theorem FrW_s (h : FrW (k + 1) c i i1) : FrW k c i i1 := ⟨h.1, fun z hz => h.2.1 z (by omega), h.2.2⟩
theorem FrW_l (h : Fr [43] i i1) (h2 : ∀ z, z < k * 4 + 4 → i1 43 z = i 43 z) : FrW k c i i1 := ⟨Fr_w (by decide) h, h2, fun z _ => by rw [h 35 (by decide)]⟩
theorem AdT_f (h : AdT K σ m i) (hc : c ≠ 12) (hf : FrW k c i i') : AdT K σ m i' := by
  obtain ⟨h1, h2, h3, h4⟩ := h
  obtain ⟨f1, f2, f3⟩ := hf
  refine ⟨CarC_f h1 (fun q a b => f1 q (by simp; omega)), by rw [f3 12 (by omega)]; exact h2, ?_, ?_⟩
  · rw [f1 42 (by decide)]; exact h3
  · rw [f1 44 (by decide)]; exact h4
theorem PkT_f (hK : OkK K) (h : PkT K σ w k i) (hf : FrW k c i i') : PkT K σ w k i' := by
  have hm4 := hK.2.1
  intro z o hz ho
  rw [hf.2.1 _ (by omega)]
  exact h z o hz ho
theorem ft_le (hK : OkK K) (hb : OkS K b σ) (hk : k < nl K (K 0 3)) (ho : o < K 0 4) : ftW K σ o k v ≤ 400 := by
  obtain ⟨e1, e2, e3, e4, e5⟩ := pl_lk hK hb hk
  have h1 := tB_le (z := plQ σ (lk K k) + 1) hK hb ho (by omega)
  have h2 := waitS_le (o := o) (s := v) (c := 1) hK e3
  have := hK.1
  have := hK.2.2.1
  unfold ftW
  omega
theorem pkW_hi (hK : OkK K) (hb : OkS K b σ) (ho : o < K 0 4) (hk : k ≤ nl K (K 0 3)) : pkW K σ w o k ≤ 400 := by
  apply pkW_lei.mpr
  refine ⟨?_, fun z hz => ft_le hK hb (by omega) ho⟩
  have h1 := tB_le (z := K 0 5) hK hb ho (Nat.le_refl _)
  have := hK.1
  have := hK.2.2.1
  omega
theorem re_le (hK : OkK K) (hb : OkS K b σ) (ho : o < K 0 4) : ∀ d, d ≤ nl K (K 0 3) → reW K σ o (nl K (K 0 3)) d ≤ 400 := by
  intro d
  induction d with
  | zero =>
    intro _
    have h1 := tB_le (z := K 0 5) hK hb ho (Nat.le_refl _)
    have := hK.1
    have := hK.2.2.1
    rw [reW]
    omega
  | succ d ih =>
    intro hd
    have h1 := ih (by omega)
    have h2 := mnF_le (K := K) (σ := σ) (o := o) (k := nl K (K 0 3) - (d + 1)) (v := 0) (by omega)
    have h3 := ft_le (k := nl K (K 0 3) - (d + 1)) (v := 0) hK hb (by omega) ho
    rw [reW]
    omega
theorem bW_hi (hK : OkK K) (hb : OkS K b σ) (hk : k ≤ nl K (K 0 3)) : bW K σ w (nl K (K 0 3)) k ≤ 14400 := by
  have hm4 := hK.2.1
  have h := sumTo_le (f := fun o => ov K o 0 * max (pkW K σ w o k) (reW K σ o (nl K (K 0 3)) (nl K (K 0 3) - k))) (m := 9 * 400) (n := K 0 4) (fun o ho => Nat.mul_le_mul (hK.2.2.2.2.2.2.2.2.2.2.2.1 o 0 ho (by omega)) (by
    have h1 := pkW_hi (w := w) hK hb ho hk
    have h2 := re_le (o := o) hK hb ho (nl K (K 0 3) - k) (by omega)
    omega))
  have h2 : bW K σ w (nl K (K 0 3)) k ≤ K 0 4 * (9 * 400) := h
  omega
theorem c_say1_l (hK : OkK K) (hb : OkS K b σ) (h : AdT K σ (nl K (K 0 3)) i) (hp : PkT K σ w k i) (hk : k < nl K (K 0 3)) (hv : v < 3) : ∀ n o i1, o ≤ K 0 4 → K 0 4 - o < n → Fr [43] i i1 → (∀ z, z < k * 4 + 4 → i1 43 z = i 43 z) → (∀ y, y < o → i1 43 (k * 4 + 4 + y) = nI (max (pkW K σ w y k) (ftW K σ y k v))) →
    ∃ i2, fX0_sayOne_16 n (nI (k * 4)) (nI ((k * 3 + v) * 4)) (nI o) i1 = some i2 ∧ Fr [43] i i2 ∧ (∀ z, z < k * 4 + 4 → i2 43 z = i 43 z) ∧ (∀ y, y < K 0 4 → i2 43 (k * 4 + 4 + y) = nI (max (pkW K σ w y k) (ftW K σ y k v))) := by
  have hm4 := hK.2.1
  have hm := hK.1
  have hN := nl_le (K := K) (p := K 0 3)
  intro n
  induction n with
  | zero => intro o i1 h1 h2; omega
  | succ n ih =>
    intro o i1 h1 h2 g1 g2 g3
    have hc1 : CarC 15 K i1 := CarC_f h.1 (fun q a b => g1 q (by simp; omega))
    rw [fX0_sayOne_16]
    unfold fX1_officers
    rw [hc1.2.1, mz_b1]
    by_cases h3 : o = K 0 4
    · rw [h3] at g3
      rw [if_pos (nI_le (by omega) (by omega))]
      exact ⟨i1, rfl, g1, g2, g3⟩
    · have ho : o < K 0 4 := by omega
      have a1 := pkW_hi (w := w) hK hb ho (show k ≤ nl K (K 0 3) by omega)
      have a2 := ft_le (v := v) hK hb hk ho
      have e43 : i1 43 (k * 4 + o) = nI (pkW K σ w o k) := by rw [g2 _ (by omega)]; exact hp k o (Nat.le_refl _) ho
      have e42 : i1 42 ((k * 3 + v) * 4 + o) = nI (ftW K σ o k v) := by rw [g1 42 (by decide)]; exact h.2.2.1 k v o hk hv ho
      rw [if_neg (nI_ge (by omega) (by omega)), nI_add, nI_add, q4, nI_add, nI_add, if_pos (mz_in (by omega) (by omega)), if_pos (mz_in (by omega) (by omega)), nI_clamp (by omega), nI_clamp (by omega), e43, e42, mz_max (by omega) (by omega), mz_lt, if_pos (mz_in (by omega) (by omega)), mz_lt, nI_clamp (by omega), nI_1]
      refine ih (o + 1) _ (by omega) (by omega) (Fr_t g1 Fr_u) ?_ ?_
      · intro z hz
        rw [u2n _ _ _ _ _ (by omega)]
        exact g2 z hz
      · intro y hy
        by_cases e : y = o
        · rw [e, u2e]
        · rw [u2n _ _ _ _ _ (by omega)]
          exact g3 y (by omega)
theorem c_say1 (hK : OkK K) (hb : OkS K b σ) (h : AdT K σ (nl K (K 0 3)) i) (hp : PkT K σ w k i) (hk : k < nl K (K 0 3)) (hv : v < 3) : ∃ i2, fX0_sayOne (nI k) (nI v) i = some i2 ∧ (∀ c, FrW k c i i2) ∧ PkT K σ (up w k v) (k + 1) i2 := by
  have hm4 := hK.2.1
  obtain ⟨fu, hfu, hfu2⟩ := fuel_g
  obtain ⟨i2, e1, e2, e3, e4⟩ := c_say1_l (v := v) hK hb h hp hk hv fu 0 i (by omega) (by omega) (Fr_r _ _) (fun _ _ => rfl) (fun y hy => by omega)
  refine ⟨i2, ?_, fun c => FrW_l e2 e3, ?_⟩
  · unfold fX0_sayOne
    rw [hfu, mz_lt, q4, q3, mz_mul, mz_mul, nI_add, mz_mul]
    exact e1
  · intro z o hz ho
    by_cases e : z = k + 1
    · rw [e, show (k + 1) * 4 + o = k * 4 + 4 + o by omega, e4 o ho, pkW, up_e, pkW_congr k (w := w) (w' := up w k v) (fun z hz => up_n (by omega))]
    · rw [e3 _ (by omega), hp z o (by omega) ho, pkW_congr z (w := w) (w' := up w k v) (fun z hz => up_n (by omega))]
theorem c_wal_l (hK : OkK K) (hb : OkS K b σ) (h : AdT K σ (nl K (K 0 3)) i) (hp : PkT K σ w k i) (hk : k ≤ nl K (K 0 3)) : ∀ n o, o ≤ K 0 4 → K 0 4 - o < n →
    fX0_worthAtLeast_9 n (nI (k * 4)) (nI (sumTo (fun o => ov K o 0 * max (pkW K σ w o k) (reW K σ o (nl K (K 0 3)) (nl K (K 0 3) - k))) o)) (nI o) i = some (nI (bW K σ w (nl K (K 0 3)) k)) := by
  have hm4 := hK.2.1
  have hm := hK.1
  have hN := nl_le (K := K) (p := K 0 3)
  intro n
  induction n with
  | zero => intro o h1 h2; omega
  | succ n ih =>
    intro o h1 h2
    rw [fX0_worthAtLeast_9]
    unfold fX1_officers
    rw [h.1.2.1, mz_b1]
    by_cases h3 : o = K 0 4
    · rw [if_pos (nI_le (by omega) (by omega)), h3]
      rfl
    · have ho : o < K 0 4 := by omega
      have a1 := pkW_hi (w := w) hK hb ho hk
      have a2 := re_le (o := o) hK hb ho (nl K (K 0 3) - k) (by omega)
      have ih' := ih (o + 1) (by omega) (by omega)
      rw [sumTo] at ih'
      rw [if_neg (nI_ge (by omega) (by omega)), nI_add, if_pos (mz_in (by omega) (by omega)), if_pos (mz_in (by omega) (by omega)), nI_clamp (by omega), hp k o (Nat.le_refl _) ho, h.2.2.2 k o hk ho, mz_max (by omega) (by omega), mz_lt, q0, c_ofOfficer h.1 (by omega) (by omega), mz_b1, mz_mul, nI_add, nI_1]
      exact ih'
theorem c_wal (hK : OkK K) (hb : OkS K b σ) (h : AdT K σ (nl K (K 0 3)) i) (hp : PkT K σ w k i) (hk : k ≤ nl K (K 0 3)) : fX0_worthAtLeast (nI k) i = some (nI (bW K σ w (nl K (K 0 3)) k)) := by
  have hm4 := hK.2.1
  obtain ⟨fu, hfu, hfu2⟩ := fuel_g
  unfold fX0_worthAtLeast
  rw [hfu, q4, mz_mul]
  exact c_wal_l hK hb h hp hk fu 0 (by omega) (by omega)
/-- the coffees behind a word -/
theorem c_cof (hC : C ≤ 9) (ht : tw w k ≤ C) (hv : v < 3) : (v = 2 ∧ tw w k = C ∧ ∃ y, fX0_coffeesBehind (nI v) (nI (C - tw w k)) = some y ∧ y < 0) ∨ (tw (up w k v) (k + 1) ≤ C ∧ fX0_coffeesBehind (nI v) (nI (C - tw w k)) = some (nI (C - tw (up w k v) (k + 1)))) := by
  have e : tw (up w k v) (k + 1) = tw w k + (if v = 2 then 1 else 0) := by
    show tw (up w k v) k + (if up w k v k = 2 then 1 else 0) = _
    rw [up_e, tw_congr k (w := w) (fun z hz => up_n (by omega))]
  unfold fX0_coffeesBehind
  rw [e]
  by_cases h2 : v = 2
  · rw [if_pos h2, h2, if_pos (show nI 2 = 2 from rfl)]
    by_cases h3 : tw w k = C
    · refine Or.inl ⟨rfl, h3, _, rfl, ?_⟩
      rw [h3, Nat.sub_self]
      decide
    · refine Or.inr ⟨by omega, ?_⟩
      rw [q1, mz_sub (by omega)]
      congr 2
  · refine Or.inr ⟨by rw [if_neg h2]; omega, ?_⟩
    rw [if_neg h2, if_neg (show ¬ nI v = 2 by rw [q2, nI_eq (by omega) (by omega)]; exact h2), Nat.add_zero]
/-- what stands behind a search for the least -/
def LsW (K : Nat → Nat → Nat) (σ w : Nat → Nat) (m C k x x' : Nat) : Prop := x' ≤ x ∧ (∀ w', ExW m C w k w' → x' ≤ bW K σ w' m m) ∧ (x' = x ∨ ∃ w', ExW m C w k w' ∧ x' = bW K σ w' m m)
/-- the choice of one turn: none, or one that is free -/
def BsW (w : Nat → Nat) (C k T x bw : Nat) (x5 : Int32) : Prop := (x5 = NN ∧ bw = x) ∨ ∃ v, v < 3 ∧ x5 = nI v ∧ T.testBit v = false ∧ tw (up w k v) (k + 1) ≤ C
theorem c_cl48 {gs : Int32 → Int32 → (Nat → Nat → Int32) → Option ((Nat → Nat → Int32))} {kh : Int32 → Int32 → Int32 → Int32 → (Nat → Nat → Int32) → Option ((Nat → Nat → Int32))} (hK : OkK K) (hb : OkS K b σ) (hC : C ≤ 9) (h : AdT K σ (nl K (K 0 3)) i) (hp : PkT K σ w k i) (hk : k < nl K (K 0 3)) (ht : tw w k ≤ C) (hT : T < 8) (hx : x ≤ 1000000000) : ∀ n v x5 bw i1, v ≤ 3 → 3 - v < n → FrW k 14 i i1 → i1 35 14 = i 35 14 → bw ≤ x → BsW w C k T x bw x5 → (∀ y, y < v → T.testBit y = false → tw (up w k y) (k + 1) ≤ C → bw ≤ bW K σ (up w k y) (nl K (K 0 3)) (k + 1)) →
    ∃ n' x5' bw' i2, fX0_chooseLeast_48 gs kh n (nI k) (nI (C - tw w k)) (nI T) x4 x5 (nI bw) (nI v) i1 = fX0_chooseLeast_48 gs kh (n' + 1) (nI k) (nI (C - tw w k)) (nI T) x4 x5' (nI bw') 3 i2 ∧ FrW k 14 i i2 ∧ i2 35 14 = i 35 14 ∧ bw' ≤ x ∧ BsW w C k T x bw' x5' ∧ (∀ y, y < 3 → T.testBit y = false → tw (up w k y) (k + 1) ≤ C → bw' ≤ bW K σ (up w k y) (nl K (K 0 3)) (k + 1)) := by
  have hm := hK.1
  have hN := nl_le (K := K) (p := K 0 3)
  intro n
  induction n with
  | zero => intro v x5 bw i1 h1 h2; omega
  | succ n ih =>
    intro v x5 bw i1 h1 h2 g1 g2 g3 g4 g5
    by_cases h3 : v = 3
    · rw [h3] at g5
      rw [h3]
      exact ⟨n, x5, bw, i1, rfl, g1, g2, g3, g4, g5⟩
    · have hv : v < 3 := by omega
      rw [fX0_chooseLeast_48, if_neg (show ¬ (3 : Int32) ≤ nI v by rw [q3, mz_le (by omega) (by omega)]; omega), mz_bit1 (by omega) (by omega)]
      unfold fX0_chooseLeast_103
      rw [nI_1]
      by_cases h4 : T.testBit v = true
      · rw [if_pos h4, if_neg (show ¬ nI 1 = 0 by decide)]
        refine ih (v + 1) x5 bw i1 (by omega) (by omega) g1 g2 g3 g4 ?_
        intro y hy hyT
        by_cases e : y = v
        · rw [e, h4] at hyT; exact absurd hyT (by decide)
        · exact g5 y (by omega) hyT
      · have h4' : T.testBit v = false := by simpa using h4
        rw [if_neg h4, if_pos (show nI 0 = 0 from rfl)]
        rcases c_cof (w := w) (k := k) (v := v) hC ht hv with ⟨a1, a2, y0, a3, a4⟩ | ⟨a1, a2⟩
        · rw [a3, mz_b1, if_pos a4]
          refine ih (v + 1) x5 bw i1 (by omega) (by omega) g1 g2 g3 g4 ?_
          intro y hy hyT hyC
          by_cases e : y = v
          · exfalso
            have : tw (up w k y) (k + 1) = tw w k + (if y = 2 then 1 else 0) := by
              show tw (up w k y) k + (if up w k y k = 2 then 1 else 0) = _
              rw [up_e, tw_congr k (w := w) (fun z hz => up_n (by omega))]
            rw [if_pos (by omega)] at this
            omega
          · exact g5 y (by omega) hyT hyC
        · have hA1 := AdT_f h (by omega) g1
          have hP1 := PkT_f hK hp g1
          obtain ⟨i2, s1, s2, s3⟩ := c_say1 (v := v) hK hb hA1 hP1 hk hv
          have hA2 := AdT_f hA1 (c := 14) (by omega) (s2 14)
          have hbv := bW_hi (w := up w k v) (k := k + 1) hK hb (by omega)
          have f2 : FrW k 14 i i2 := FrW_t g1 (s2 14)
          have e2 : i2 35 14 = i 35 14 := by rw [(s2 12).2.2 14 (by omega)]; exact g2
          rw [a2, mz_b1, if_neg (show ¬ nI (C - tw (up w k v) (k + 1)) < 0 by rw [q0, mz_ltp (by omega) (by omega)]; omega), s1, mz_b1, q1, nI_add, c_wal hK hb hA2 s3 (by omega), mz_b1]
          by_cases h5 : bw ≤ bW K σ (up w k v) (nl K (K 0 3)) (k + 1)
          · rw [if_pos (nI_le h5 (by omega))]
            refine ih (v + 1) x5 bw i2 (by omega) (by omega) f2 e2 g3 g4 ?_
            intro y hy hyT hyC
            by_cases e : y = v
            · rw [e]; exact h5
            · exact g5 y (by omega) hyT hyC
          · rw [if_neg (nI_ge (by omega) (by omega))]
            refine ih (v + 1) (nI v) _ i2 (by omega) (by omega) f2 e2 (by omega) (Or.inr ⟨v, hv, rfl, h4', a1⟩) ?_
            intro y hy hyT hyC
            by_cases e : y = v
            · rw [e]; exact Nat.le_refl _
            · have := g5 y (by omega) hyT hyC
              omega
theorem c_cl30 {gs : Int32 → Int32 → (Nat → Nat → Int32) → Option ((Nat → Nat → Int32))} (hK : OkK K) (hb : OkS K b σ) (hC : C ≤ 9) (h : AdT K σ (nl K (K 0 3)) i) (hp : PkT K σ w k i) (hk : k < nl K (K 0 3)) (ht : tw w k ≤ C) (hx : x ≤ 1000000000) (hw : ∀ k, w k ≤ 2)
    (hgs : ∀ v x1 i1, v < 3 → tw (up w k v) (k + 1) ≤ C → AdT K σ (nl K (K 0 3)) i1 → PkT K σ (up w k v) (k + 1) i1 → i1 35 14 = nI x1 → x1 ≤ 1000000000 → ∃ i2 x2, gs (nI (k + 1)) (nI (C - tw (up w k v) (k + 1))) i1 = some i2 ∧ FrW (k + 1) 14 i1 i2 ∧ i2 35 14 = nI x2 ∧ LsW K σ (up w k v) (nl K (K 0 3)) C (k + 1) x1 x2) : ∀ n t T x1 i1, t ≤ 3 → 3 - t < n → T < 8 → ct3 T = t → FrW k 14 i i1 → i1 35 14 = nI x1 → x1 ≤ x → (∀ w', ExW (nl K (K 0 3)) C w k w' → T.testBit (w' k) = true → x1 ≤ bW K σ w' (nl K (K 0 3)) (nl K (K 0 3))) → (x1 = x ∨ ∃ w', ExW (nl K (K 0 3)) C w k w' ∧ x1 = bW K σ w' (nl K (K 0 3)) (nl K (K 0 3))) →
    ∃ i2 x2, fX0_chooseLeast_30 gs n (nI k) (nI (C - tw w k)) (nI T) (nI t) i1 = some i2 ∧ FrW k 14 i i2 ∧ i2 35 14 = nI x2 ∧ LsW K σ w (nl K (K 0 3)) C k x x2 := by
  have hm := hK.1
  have hN := nl_le (K := K) (p := K 0 3)
  intro n
  induction n with
  | zero => intro t T x1 i1 h1 h2; omega
  | succ n ih =>
    intro t T x1 i1 h1 h2 h3 h4 g1 g2 g3 g4 g5
    rw [fX0_chooseLeast_30]
    by_cases h5 : t = 3
    · rw [if_pos (show (3 : Int32) ≤ nI t by rw [h5]; decide)]
      refine ⟨i1, x1, rfl, g1, g2, g3, fun w' hw' => g4 w' hw' ?_, g5⟩
      exact ct3_3 T h3 (by omega) _ (by have := hw'.2.1 k; omega)
    · have hn1 : t + 1 ≤ 3 := by clear g5; omega
      have hn2 : 3 - (t + 1) < n := by clear g5; omega
      rw [if_neg (show ¬ (3 : Int32) ≤ nI t by rw [q3, mz_le (by omega) (by omega)]; omega), g2]
      have hA1 := AdT_f h (by omega) g1
      have hP1 := PkT_f hK hp g1
      obtain ⟨fu, hfu, hfu2⟩ := fuel_g
      obtain ⟨n', x5', bw', i2, e1, e2, e3, e4, e5, e6⟩ := c_cl48 (gs := gs) (kh := fX0_chooseLeast_30 gs n) (x4 := nI t) (x := x1) hK hb hC hA1 hP1 hk ht h3 (by omega) fu 0 NN x1 i1 (by omega) (by omega) FrW_r rfl (Nat.le_refl _) (Or.inl ⟨rfl, rfl⟩) (fun y hy => by omega)
      rw [hfu, show (0 : Int32) = nI 0 from rfl, qN1, e1, fX0_chooseLeast_48, if_pos (show (3 : Int32) ≤ 3 by decide)]
      rw [qN1]
      have hbnd : ∀ w', ExW (nl K (K 0 3)) C w k w' → T.testBit (w' k) = false → bw' ≤ bW K σ w' (nl K (K 0 3)) (nl K (K 0 3)) := by
        intro w' hw' hT'
        have hu := Ex_up hw'
        have hle := Ex_b (K := K) (σ := σ) hu (by omega)
        have h2w := hw'.2.1 k
        have htw : tw (up w k (w' k)) (k + 1) ≤ C := by
          have a1 : tw w' (k + 1) ≤ tw w' (nl K (K 0 3)) := sumTo_up (by omega)
          rw [tw_congr (k + 1) hu.1] at a1
          have := hw'.2.2
          omega
        have := e6 (w' k) (by omega) hT' htw
        omega
      rcases e5 with ⟨a1, a2⟩ | ⟨v, a1, a2, a3, a4⟩
      · rw [if_pos a1]
        refine ⟨i2, x1, rfl, FrW_t g1 e2, by rw [e3]; exact g2, g3, fun w' hw' => ?_, g5⟩
        cases hT' : T.testBit (w' k) with
        | true => exact g4 w' hw' hT'
        | false =>
          have := hbnd w' hw' hT'
          omega
      · have hA2 := AdT_f hA1 (c := 14) (by omega) e2
        have hP2 := PkT_f hK hP1 e2
        obtain ⟨i3, s1, s2, s3⟩ := c_say1 (v := v) hK hb hA2 hP2 hk a1
        have hA3 := AdT_f hA2 (c := 14) (by omega) (s2 14)
        rcases c_cof (w := w) (k := k) (v := v) hC ht a1 with ⟨b1, b2, y0, b3, b4⟩ | ⟨b1, b2⟩
        · exfalso
          have : tw (up w k v) (k + 1) = tw w k + (if v = 2 then 1 else 0) := by
            show tw (up w k v) k + (if up w k v k = 2 then 1 else 0) = _
            rw [up_e, tw_congr k (w := w) (fun z hz => up_n (by omega))]
          rw [if_pos b1] at this
          omega
        · obtain ⟨i4, x4, r1, r2, r3, r4, r5, r6⟩ := hgs v x1 i3 a1 a4 hA3 s3 (by rw [(s2 12).2.2 14 (by omega), e3]; exact g2) (by omega)
          obtain ⟨c1, c2⟩ := ct3_a T h3 v a1 a3
          rw [if_neg (show ¬ x5' = NN by rw [a2, mz_nm (by omega)]; exact fun e => e), a2, mz_1l _ (by omega), mz_or, mz_lt, s1, mz_b1, b2, mz_b1, q1, nI_add, r1, mz_b1, nI_add]
          refine ih (t + 1) (T ||| 2 ^ v) x4 i4 hn1 hn2 c2 (by rw [c1, h4]) (FrW_t g1 (FrW_t e2 (FrW_t (s2 14) (FrW_s r2)))) r3 (Nat.le_trans r4 g3) ?_ ?_
          · intro w' hw' hT'
            by_cases ev : w' k = v
            · have hu := Ex_up hw'
              rw [ev] at hu
              exact r5 w' hu
            · rw [Nat.testBit_or, Nat.testBit_two_pow, decide_eq_false (fun e => ev e.symm), Bool.or_false] at hT'
              have := g4 w' hw' hT'
              omega
          · rcases r6 with r6 | ⟨w', r7, r8⟩
            · rw [r6]; exact g5
            · exact Or.inr ⟨w', (Ex_dn r7).1, r8⟩
theorem up_2 (hw : ∀ k, w k ≤ 2) (hv : v < 3) : ∀ z, up w k v z ≤ 2 := by
  intro z
  by_cases e : z = k
  · rw [e, up_e]; omega
  · rw [up_n e]; exact hw z
/-- the least -/
theorem C_least (hK : OkK K) (hb : OkS K b σ) (hC : C ≤ 9) : ∀ n k w x i, k ≤ nl K (K 0 3) → nl K (K 0 3) - k < n → (∀ k, w k ≤ 2) → tw w k ≤ C → AdT K σ (nl K (K 0 3)) i → PkT K σ w k i → i 35 14 = nI x → x ≤ 1000000000 →
    ∃ i2 x2, fX0_chooseLeast n (nI k) (nI (C - tw w k)) i = some i2 ∧ FrW k 14 i i2 ∧ i2 35 14 = nI x2 ∧ LsW K σ w (nl K (K 0 3)) C k x x2 := by
  have hm := hK.1
  have hN := nl_le (K := K) (p := K 0 3)
  intro n
  induction n with
  | zero => intro k w x i h1 h2; omega
  | succ n ih =>
    intro k w x i h1 h2 hw ht hA hP hx hx9
    rw [fX0_chooseLeast]
    unfold fX0_chooseLeastb
    rw [hA.2.1]
    by_cases h3 : k = nl K (K 0 3)
    · have hbv := bW_hi (w := w) (k := k) hK hb h1
      rw [if_neg (show ¬ nI k < nI (nl K (K 0 3)) by rw [mz_ltp (by omega) (by omega)]; omega), c_wal hK hb hA hP h1, mz_b1, hx, mz_min (by omega) (by omega), mz_lt]
      refine ⟨_, _, rfl, ⟨Fr_w (by decide) Fr_u, fun z _ => by rw [u2r _ _ _ _ _ (by omega)], fun z hz => u2n _ _ _ _ _ hz⟩, u2e _ _ _ _, Nat.min_le_left _ _, fun w' hw' => ?_, ?_⟩
      · have := Ex_b (K := K) (σ := σ) hw' h1
        omega
      · by_cases e : x ≤ bW K σ w (nl K (K 0 3)) k
        · exact Or.inl (Nat.min_eq_left e)
        · refine Or.inr ⟨w, ⟨fun _ _ => rfl, hw, by rw [← h3]; exact ht⟩, ?_⟩
          rw [h3] at e ⊢
          omega
    · have hk : k < nl K (K 0 3) := by omega
      obtain ⟨fu, hfu, hfu2⟩ := fuel_g
      rw [if_pos (show nI k < nI (nl K (K 0 3)) by rw [mz_ltp (by omega) (by omega)]; omega), hfu]
      exact c_cl30 (gs := fX0_chooseLeast n) (x := x) hK hb hC hA hP hk ht hx9 hw (fun v x1 i1 b1 b2 b3 b4 b5 b6 => ih (k + 1) (up w k v) x1 i1 (by omega) (by omega) (up_2 hw b1) b2 b3 b4 b5 b6) fu 0 0 x i (by omega) (by omega) (by omega) (by decide) FrW_r hx (Nat.le_refl _) (fun w' _ e => by rw [Nat.zero_testBit] at e; exact absurd e (by decide)) (Or.inl rfl)
/-- the digits -/
def DgW (K : Nat → Nat → Nat) (σ w : Nat → Nat) (m C k x : Nat) (r : Int32) (i : Tb) : Prop := (r = 0 ∧ ∀ w', ExW m C w k w' → x < bW K σ w' m m) ∨ (r = 1 ∧ ∃ w', ExW m C w k w' ∧ bW K σ w' m m ≤ x ∧ i 35 13 = nI (dgW w' m) ∧ ∀ w'', ExW m C w k w'' → bW K σ w'' m m ≤ x → cdW w' m ≤ cdW w'' m)
theorem c_cd32 {gs : Int32 → Int32 → Int32 → (Nat → Nat → Int32) → Option ((Int32) × (Nat → Nat → Int32))} (hK : OkK K) (hb : OkS K b σ) (hC : C ≤ 9) (h : AdT K σ (nl K (K 0 3)) i) (hp : PkT K σ w k i) (hk : k < nl K (K 0 3)) (ht : tw w k ≤ C) (hw : ∀ k, w k ≤ 2) (hx14 : i 35 14 = nI x)
    (hgs : ∀ v i1, v < 3 → tw (up w k v) (k + 1) ≤ C → AdT K σ (nl K (K 0 3)) i1 → PkT K σ (up w k v) (k + 1) i1 → i1 35 14 = nI x → ∃ r i2, gs (nI (k + 1)) (nI (C - tw (up w k v) (k + 1))) (nI (dgW (up w k v) (k + 1))) i1 = some (r, i2) ∧ FrW (k + 1) 13 i1 i2 ∧ DgW K σ (up w k v) (nl K (K 0 3)) C (k + 1) x r i2) : ∀ n v i1, v ≤ 3 → 3 - v < n → FrW k 13 i i1 → (∀ w', ExW (nl K (K 0 3)) C w k w' → w' k < v → x < bW K σ w' (nl K (K 0 3)) (nl K (K 0 3))) →
    ∃ r i2, fX0_chooseDigits_32 gs n (nI k) (nI (C - tw w k)) (nI (dgW w k)) (nI v) i1 = some (r, i2) ∧ FrW k 13 i i2 ∧ DgW K σ w (nl K (K 0 3)) C k x r i2 := by
  have hm := hK.1
  have hN := nl_le (K := K) (p := K 0 3)
  intro n
  induction n with
  | zero => intro v i1 h1 h2; omega
  | succ n ih =>
    intro v i1 h1 h2 g1 g2
    rw [fX0_chooseDigits_32]
    by_cases h3 : v = 3
    · rw [if_pos (show (3 : Int32) ≤ nI v by rw [h3]; decide)]
      exact ⟨0, i1, rfl, g1, Or.inl ⟨rfl, fun w' hw' => g2 w' hw' (by have := hw'.2.1 k; omega)⟩⟩
    · have hv : v < 3 := by omega
      rw [if_neg (show ¬ (3 : Int32) ≤ nI v by rw [q3, mz_le (by omega) (by omega)]; omega)]
      unfold fX0_chooseDigits_79
      rw [nI_1]
      have hno : ∀ y, FrW k 13 i y → (∀ w', ExW (nl K (K 0 3)) C w k w' → w' k = v → x < bW K σ w' (nl K (K 0 3)) (nl K (K 0 3))) → ∃ r i2, fX0_chooseDigits_32 gs n (nI k) (nI (C - tw w k)) (nI (dgW w k)) (nI (v + 1)) y = some (r, i2) ∧ FrW k 13 i i2 ∧ DgW K σ w (nl K (K 0 3)) C k x r i2 := by
        intro y hy hn
        refine ih (v + 1) y (by omega) (by omega) hy ?_
        intro w' hw' hlt
        by_cases e : w' k = v
        · exact hn w' hw' e
        · exact g2 w' hw' (by omega)
      rcases c_cof (w := w) (k := k) (v := v) hC ht hv with ⟨a1, a2, y0, a3, a4⟩ | ⟨a1, a2⟩
      · rw [a3, mz_b1, if_pos a4]
        refine hno i1 g1 (fun w' hw' e => ?_)
        have := Ex_2 hw' hk (by omega)
        omega
      · have hA1 := AdT_f h (by omega) g1
        have hP1 := PkT_f hK hp g1
        obtain ⟨i2, s1, s2, s3⟩ := c_say1 (v := v) hK hb hA1 hP1 hk hv
        have hA2 := AdT_f hA1 (c := 14) (by omega) (s2 14)
        obtain ⟨r, i3, r1, r2, r3⟩ := hgs v i2 hv a1 hA2 s3 (by rw [(s2 12).2.2 14 (by omega), g1.2.2 14 (by omega)]; exact hx14)
        have edg : dgW (up w k v) (k + 1) = 10 * dgW w k + v := by
          show 10 * dgW (up w k v) k + up w k v k = _
          rw [up_e, dg_congr k (w := w) (fun z hz => up_n (by omega))]
        have f3 : FrW k 13 i i3 := FrW_t g1 (FrW_t (s2 13) (FrW_s r2))
        rw [edg] at r1
        rw [a2, mz_b1, if_neg (show ¬ nI (C - tw (up w k v) (k + 1)) < 0 by rw [q0, mz_ltp (by omega) (by omega)]; omega), s1, mz_b1, q1, nI_add, q10, mz_mul, nI_add, r1, mz_b2]
        rcases r3 with ⟨t1, t2⟩ | ⟨t1, w', t2, t3, t4, t5⟩
        · rw [if_pos t1]
          refine hno i3 f3 (fun w' hw' e => ?_)
          have hu := Ex_up hw'
          rw [e] at hu
          exact t2 w' hu
        · rw [if_neg (show ¬ r = 0 by rw [t1]; decide)]
          refine ⟨1, i3, rfl, f3, Or.inr ⟨rfl, w', (Ex_dn t2).1, t3, t4, ?_⟩⟩
          intro w'' hw'' hx''
          by_cases e : w'' k = v
          · have hu := Ex_up hw''
            rw [e] at hu
            exact t5 w'' hu hx''
          · by_cases e2 : w'' k < v
            · have := g2 w'' hw'' e2
              omega
            · have hd := Ex_dn t2
              have c1 : cdW w' (k + 1) < cdW w'' (k + 1) := by
                show 3 * cdW w' k + w' k < 3 * cdW w'' k + w'' k
                rw [cd_congr k hd.1.1, cd_congr k hw''.1, hd.2]
                omega
              have c2 := cd_lex t2.2.1 c1 (nl K (K 0 3) - (k + 1))
              rw [show k + 1 + (nl K (K 0 3) - (k + 1)) = nl K (K 0 3) by omega] at c2
              omega
theorem C_digits (hK : OkK K) (hb : OkS K b σ) (hC : C ≤ 9) (hx9 : x ≤ 1000000000) : ∀ n k w i, k ≤ nl K (K 0 3) → nl K (K 0 3) - k < n → (∀ k, w k ≤ 2) → tw w k ≤ C → AdT K σ (nl K (K 0 3)) i → PkT K σ w k i → i 35 14 = nI x →
    ∃ r i2, fX0_chooseDigits n (nI k) (nI (C - tw w k)) (nI (dgW w k)) i = some (r, i2) ∧ FrW k 13 i i2 ∧ DgW K σ w (nl K (K 0 3)) C k x r i2 := by
  have hm := hK.1
  have hN := nl_le (K := K) (p := K 0 3)
  intro n
  induction n with
  | zero => intro k w i h1 h2; omega
  | succ n ih =>
    intro k w i h1 h2 hw ht hA hP hx
    have hbv := bW_hi (w := w) (k := k) hK hb h1
    rw [fX0_chooseDigits]
    unfold fX0_chooseDigitsb
    rw [c_wal hK hb hA hP h1, mz_b1, hx, hA.2.1]
    by_cases h4 : bW K σ w (nl K (K 0 3)) k ≤ x
    · rw [if_pos (nI_le h4 (by omega))]
      by_cases h3 : k = nl K (K 0 3)
      · rw [if_neg (show ¬ nI k < nI (nl K (K 0 3)) by rw [mz_ltp (by omega) (by omega)]; omega), mz_lt]
        refine ⟨1, _, rfl, ⟨Fr_w (by decide) Fr_u, fun z _ => by rw [u2r _ _ _ _ _ (by omega)], fun z hz => u2n _ _ _ _ _ hz⟩, Or.inr ⟨rfl, w, ⟨fun _ _ => rfl, hw, by rw [← h3]; exact ht⟩, by rw [h3] at h4; exact h4, by rw [u2e, h3], fun w'' hw'' _ => ?_⟩⟩
        rw [← h3, cd_congr k hw''.1]
        exact Nat.le_refl _
      · have hk : k < nl K (K 0 3) := by omega
        obtain ⟨fu, hfu, hfu2⟩ := fuel_g
        rw [if_pos (show nI k < nI (nl K (K 0 3)) by rw [mz_ltp (by omega) (by omega)]; omega), hfu]
        exact c_cd32 (gs := fX0_chooseDigits n) hK hb hC hA hP hk ht hw hx (fun v i1 b1 b2 b3 b4 b5 => ih (k + 1) (up w k v) i1 (by omega) (by omega) (up_2 hw b1) b2 b3 b4 b5) fu 0 i (by omega) (by omega) FrW_r (fun w' _ e => by omega)
    · rw [if_neg (nI_ge (by omega) (by omega))]
      refine ⟨0, i, rfl, FrW_r, Or.inl ⟨rfl, fun w' hw' => ?_⟩⟩
      have := Ex_b (K := K) (σ := σ) hw' h1
      omega
end WS
