/-! give: the berths -/
/-- what a sleeper c, given out as the r-th behind l, adds to the trouble -/
def gcG (K : Nat → Nat → Nat) (r l c : Nat) : Nat := sv K c 2 * (K 0 3 - 1 - r) + (if r = 0 then 0 else sv K c 2 * sv K l 3 + sv K l 2 * sv K c 3)
def vG (K : Nat → Nat → Nat) : Nat → Nat → Nat → Nat
  | 0, _, _ => 0
  | d + 1, s, l => mnTo (fun c => !(s.testBit c)) (fun c => gcG K (K 0 3 - (d + 1)) l c + vG K d (s ||| 2 ^ c) c) (K 0 3)
def twG (K : Nat → Nat → Nat) (d s l c : Nat) : Nat := gcG K (K 0 3 - (d + 1)) l c + vG K d (s ||| 2 ^ c) c
def dgG (K : Nat → Nat → Nat) : Nat → Nat → Nat → Nat → Nat
  | 0, _, _, x => x
  | d + 1, s, l, x => dgG K d (s ||| 2 ^ fs (fun c => !(s.testBit c) && decide (twG K d s l c ≤ vG K (d + 1) s l)) (K 0 3 - 1) 0) (fs (fun c => !(s.testBit c) && decide (twG K d s l c ≤ vG K (d + 1) s l)) (K 0 3 - 1) 0) (10 * x + fs (fun c => !(s.testBit c) && decide (twG K d s l c ≤ vG K (d + 1) s l)) (K 0 3 - 1) 0)
def acG (K : Nat → Nat → Nat) (q : Nat → Nat) : Nat → Nat
  | 0 => 0
  | z + 1 => acG K q z + gcG K z (q (z - 1)) (q z)
section GV
variable {i i' i1 i2 i3 j j' j1 j2 : Tb} {rv rv' rv1 rv2 : Nat → Nat → Option Nat} {W : Option ((Nat → Nat) → Int)} {K g : Nat → Nat → Nat} {σ τ σ' ρ T : Nat → Nat} {p o k b b' t w v n r z c s x a m y l d : Nat} {a1 a2 x1 x2 : Int32}
theorem vG_s : vG K (d + 1) s l = mnTo (fun c => !(s.testBit c)) (twG K d s l) (K 0 3) := rfl
theorem gcG_le (hK : OkK K) (hc : c < K 0 3) (hl : l < K 0 3 ∨ r = 0) : gcG K r l c ≤ 250 := by
  have hm := hK.1
  have h2 := hK.2.2.2.2.2.2.2.2.2.1 c 2 hc (by omega)
  have h3 := hK.2.2.2.2.2.2.2.2.2.1 c 3 hc (by omega)
  have e1 : sv K c 2 * (K 0 3 - 1 - r) ≤ 9 * 8 := Nat.mul_le_mul h2 (by omega)
  unfold gcG
  by_cases hr : r = 0
  · rw [if_pos hr]
    omega
  · rw [if_neg hr]
    rcases hl with hl | hl
    · have l2 := hK.2.2.2.2.2.2.2.2.2.1 l 2 hl (by omega)
      have l3 := hK.2.2.2.2.2.2.2.2.2.1 l 3 hl (by omega)
      have e2 : sv K c 2 * sv K l 3 ≤ 9 * 9 := Nat.mul_le_mul h2 l3
      have e3 : sv K l 2 * sv K c 3 ≤ 9 * 9 := Nat.mul_le_mul l2 h3
      omega
    · exact absurd hl hr
theorem vG_le (hK : OkK K) : ∀ d s l, s < 2 ^ K 0 3 → sS (fun _ => 1) s + d = K 0 3 → (l < K 0 3 ∨ K 0 3 - d = 0) → vG K d s l ≤ 250 * d := by
  have hm := hK.1
  intro d
  induction d with
  | zero => intro s l _ _ _; exact Nat.zero_le _
  | succ d ih =>
    intro s l h1 h2 h3
    obtain ⟨c, hc, hc2⟩ := cnt_ex hm h1 (by omega)
    have e1 := ih (s ||| 2 ^ c) c (or_lt h1 hc) (by rw [sS_add (by omega) hc2]; omega) (Or.inl hc)
    have e2 := gcG_le (r := K 0 3 - (d + 1)) (l := l) hK hc h3
    have e3 := mn_le (P := fun c => !(s.testBit c)) (f := twG K d s l) (k := c) (K 0 3) hc (by simp [hc2])
    rw [vG_s]
    unfold twG at e3 ⊢
    omega
theorem twG_le (hK : OkK K) (h1 : s < 2 ^ K 0 3) (h2 : sS (fun _ => 1) s + (d + 1) = K 0 3) (h3 : l < K 0 3 ∨ K 0 3 - (d + 1) = 0) (hc : c < K 0 3) (hc2 : s.testBit c = false) : twG K d s l c ≤ 250 * (d + 1) := by
  have hm := hK.1
  have e1 := vG_le hK d (s ||| 2 ^ c) c (or_lt h1 hc) (by rw [sS_add (by omega) hc2]; omega) (Or.inl hc)
  have e2 := gcG_le (r := K 0 3 - (d + 1)) (l := l) hK hc h3
  unfold twG
  omega
theorem acG_le {q : Nat → Nat} (hK : OkK K) : ∀ r, (∀ z, z < r → q z < K 0 3) → acG K q r ≤ 250 * r := by
  intro r
  induction r with
  | zero => intro _; exact Nat.zero_le _
  | succ r ih =>
    intro h
    have e1 := ih (fun z hz => h z (by omega))
    have e2 := gcG_le (r := r) (l := q (r - 1)) hK (h r (by omega)) (by
      rcases Nat.eq_zero_or_pos r with e | e
      · exact Or.inr e
      · exact Or.inl (h _ (by omega)))
    rw [acG]
    omega
theorem acG_congr {q q' : Nat → Nat} : ∀ r, (∀ z, z < r → q' z = q z) → acG K q' r = acG K q r := by
  intro r
  induction r with
  | zero => intro _; rfl
  | succ r ih =>
    intro h
    rw [acG, acG, ih (fun z hz => h z (by omega)), h r (by omega), h (r - 1) (by omega)]
theorem m_trou_l {q : Nat → Nat} (h' : CarM K j) (hK : OkK K) (hn : 0 < K 0 3) (hq : ∀ z, z < K 0 3 → q z < K 0 3 ∧ j 71 z = nI (q z)) : ∀ n z, z ≤ K 0 3 → K 0 3 - z < n →
    fX12_troubleOf_4 n (nI (acG K q z + (if 0 < z ∧ z < K 0 3 then sv K (q (z - 1)) 2 * sv K (q z) 3 else 0))) (nI z) j = some (nI (acG K q (K 0 3))) := by
  have hm := hK.1
  intro n
  induction n with
  | zero => intro z h1 h2; omega
  | succ n ih =>
    intro z h1 h2
    rw [fX12_troubleOf_4, h'.1]
    by_cases h3 : z = K 0 3
    · rw [if_pos (nI_le (by omega) (by omega)), if_neg (by omega), h3]
      rfl
    · have e57 : ∀ y k, y < K 0 3 → k < 6 → j 57 (6 * q y + k) = nI (sv K (q y) k) := fun y k hy hk => h'.2.2.2.2.1 _ (by have := (hq y hy).1; omega)
      have hql : ∀ y, y < K 0 3 → q y < K 0 3 := fun y hy => (hq y hy).1
      have hz := hq z (by omega)
      have ih' := ih (z + 1) (by omega) (by omega)
      rw [acG, show z + 1 - 1 = z by omega] at ih'
      rw [if_neg (nI_ge (by omega) (by omega))]
      have t70 : ∀ (x L R : Nat), x + sv K (q z) 2 * (L + R + K 0 3 - 1 - z) = acG K q z + gcG K z (q (z - 1)) (q z) + (if 0 < z + 1 ∧ z + 1 < K 0 3 then sv K (q z) 2 * sv K (q (z + 1)) 3 else 0) → fX12_troubleOf_70 (fX12_troubleOf_4 n) (nI x) (nI z) (nI L) (nI R) j = some (nI (acG K q (K 0 3))) := by
        intro x L R hx
        unfold fX12_troubleOf_70
        rw [if_pos (mz_in (by omega) (by omega)), nI_clamp (by omega), hz.2, show 6 * nI (q z) + 2 = nI (6 * q z + 2) from by rw [q6, mz_mul, q2, nI_add], if_pos (mz_in (by have := hz.1; omega) (by omega)), mz_lt, nI_clamp (by have := hz.1; omega), e57 z 2 (by omega) (by omega), nI_add, h'.1, nI_add, q1, mz_sub (by omega), mz_sub (by omega), mz_mul, nI_add, hx, ← q1, nI_1]
        exact ih'
      have t38 : ∀ (x L : Nat), (∀ R, R = (if z + 1 < K 0 3 then sv K (q (z + 1)) 3 else 0) → x + sv K (q z) 2 * (L + R + K 0 3 - 1 - z) = acG K q z + gcG K z (q (z - 1)) (q z) + (if 0 < z + 1 ∧ z + 1 < K 0 3 then sv K (q z) 2 * sv K (q (z + 1)) 3 else 0)) → fX12_troubleOf_38 (fX12_troubleOf_4 n) (nI x) (nI z) (nI L) j = some (nI (acG K q (K 0 3))) := by
        intro x L hx
        unfold fX12_troubleOf_38
        rw [h'.1, q1, mz_sub (by omega), ← q1, nI_1]
        by_cases h4 : z + 1 < K 0 3
        · have hz1 := hq (z + 1) h4
          rw [if_neg (nI_ge (by omega) (by omega)), if_pos (mz_in (by omega) (by omega)), nI_clamp (by omega), hz1.2, show 6 * nI (q (z + 1)) + 3 = nI (6 * q (z + 1) + 3) from by rw [q6, mz_mul, q3, nI_add], if_pos (mz_in (by have := hz1.1; omega) (by omega)), nI_clamp (by have := hz1.1; omega), e57 (z + 1) 3 h4 (by omega)]
          exact t70 x L _ (hx _ (by rw [if_pos h4]))
        · rw [if_pos (nI_le (by omega) (by omega))]
          exact t70 x L 0 (hx _ (by rw [if_neg h4]))
      by_cases h4 : z = 0
      · subst h4
        rw [if_neg (show ¬ (0 < 0 ∧ 0 < K 0 3) by omega), if_pos (show nI 0 ≤ 0 by decide)]
        refine t38 (acG K q 0 + 0) 0 ?_
        intro R hR
        unfold gcG
        rw [if_pos rfl, hR]
        by_cases h5 : 0 + 1 < K 0 3
        · rw [if_pos h5, if_pos ⟨by omega, h5⟩, show 0 + sv K (q (0 + 1)) 3 + K 0 3 - 1 - 0 = (K 0 3 - 1 - 0) + sv K (q (0 + 1)) 3 by omega, Nat.mul_add]
          omega
        · rw [if_neg h5, if_neg (fun e => h5 e.2), show 0 + 0 + K 0 3 - 1 - 0 = K 0 3 - 1 - 0 by omega]
          omega
      · have hz1 := hq (z - 1) (by omega)
        rw [if_neg (show ¬ nI z ≤ 0 by rw [q0, mz_le (by omega) (by omega)]; omega), q1, mz_sub (by omega), if_pos (mz_in (by omega) (by omega)), nI_clamp (by omega), hz1.2, show 6 * nI (q (z - 1)) + 3 = nI (6 * q (z - 1) + 3) from by rw [q6, mz_mul, q3, nI_add], if_pos (mz_in (by have := hz1.1; omega) (by omega)), nI_clamp (by have := hz1.1; omega), e57 (z - 1) 3 (by omega) (by omega), if_pos (show 0 < z ∧ z < K 0 3 by omega)]
        refine t38 _ _ ?_
        intro R hR
        unfold gcG
        rw [if_neg h4, hR]
        by_cases h5 : z + 1 < K 0 3
        · rw [if_pos h5, if_pos ⟨by omega, h5⟩, show sv K (q (z - 1)) 3 + sv K (q (z + 1)) 3 + K 0 3 - 1 - z = (K 0 3 - 1 - z) + sv K (q (z - 1)) 3 + sv K (q (z + 1)) 3 by omega, Nat.mul_add, Nat.mul_add]
          omega
        · rw [if_neg h5, if_neg (fun e => h5 e.2), show sv K (q (z - 1)) 3 + 0 + K 0 3 - 1 - z = (K 0 3 - 1 - z) + sv K (q (z - 1)) 3 by omega, Nat.mul_add]
          omega
theorem m_trou {q : Nat → Nat} (h' : CarM K j) (hK : OkK K) (hn : 0 < K 0 3) (hq : ∀ z, z < K 0 3 → q z < K 0 3 ∧ j 71 z = nI (q z)) : fX12_troubleOf j = some (nI (acG K q (K 0 3))) := by
  have hm := hK.1
  unfold fX12_troubleOf
  obtain ⟨fu, hfu, hfu2⟩ := fuel_g
  have k := m_trou_l h' hK hn hq fu 0 (by omega) (by omega)
  rw [if_neg (show ¬ (0 < 0 ∧ 0 < K 0 3) by omega)] at k
  rw [hfu]
  exact k
end GV
