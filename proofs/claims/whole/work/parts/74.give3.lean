/-! give: the class's table -/
section GX
variable {i i' i1 i2 i3 j j' j1 j2 : Tb} {rv rv' rv1 rv2 : Nat → Nat → Option Nat} {W : Option ((Nat → Nat) → Int)} {K g : Nat → Nat → Nat} {σ τ σ' ρ T : Nat → Nat} {p o k b b' t w v n r z c s x a m y l d : Nat} {a1 a2 x1 x2 : Int32}
/-- the last who was given a berth -/
def laG (d l : Nat) (N : Nat) (x : Int32) : Prop := (N - d = 0 ∧ x = NN) ∨ (0 < N - d ∧ x = nI l ∧ l < N)
theorem laG_o (h : laG d l (K 0 3) x1) : l < K 0 3 ∨ K 0 3 - d = 0 := by
  rcases h with h | h
  · exact Or.inr h.1
  · exact Or.inl h.2.2
theorem c_trou (h : CarC 15 K i) (hK : OkK K) (h7 : K 0 3 ≤ 7) (h30 : i 30 7 = nI (K 0 3)) (hs : s < 2 ^ K 0 3) (hd : sS (fun _ => 1) s + (d + 1) = K 0 3) (hl : laG (d + 1) l (K 0 3) x1) (hc : c < K 0 3) (hc2 : s.testBit c = false) (hT : i 34 ((s ||| 2 ^ c) * 7 + c) = nI (vG K d (s ||| 2 ^ c) c)) : fX7_troubleWith (nI s) x1 (nI c) i = some (nI (twG K d s l c)) := by
  have hp2 : 2 ^ K 0 3 ≤ 2 ^ 7 := Nat.pow_le_pow_right (by omega) h7
  have hor := or_lt hs hc
  unfold fX7_troubleWith
  rw [bc_cnt _ (by omega), mz_b1, h30, q1, mz_sub (by omega), mz_sub (by omega), mz_lt, q2, c_ofSleeper h (by omega) (by omega), mz_b1, ← q1, mz_1l _ (by omega), mz_or, q7, mz_mul, nI_add, if_pos (mz_in (by omega) (by omega)), mz_lt, nI_clamp (by omega), hT, mz_mul, nI_add]
  unfold twG gcG
  rw [show K 0 3 - (d + 1) = sS (fun _ => 1) s by omega]
  rcases hl with ⟨e1, e2⟩ | ⟨e1, e2, e3⟩
  · rw [if_pos (show x1 = -1 from e2), if_pos (by omega)]
    rfl
  · rw [if_neg (show ¬ x1 = -1 by rw [e2, qN1, mz_nm (by omega)]; exact fun e => e), if_neg (by omega), e2, q3, c_ofSleeper h (by omega) (by omega), mz_b1, c_ofSleeper h (by omega) (by omega), mz_b1, c_ofSleeper h (by omega) (by omega), mz_b1, mz_lt, mz_mul, mz_mul, nI_add, nI_add]
    congr 2
    omega
theorem c_least_l (h : CarC 15 K i) (hK : OkK K) (h7 : K 0 3 ≤ 7) (h30 : i 30 7 = nI (K 0 3)) (hs : s < 2 ^ K 0 3) (hd : sS (fun _ => 1) s + (d + 1) = K 0 3) (hl : laG (d + 1) l (K 0 3) x1) (hT : ∀ c, c < K 0 3 → s.testBit c = false → i 34 ((s ||| 2 ^ c) * 7 + c) = nI (vG K d (s ||| 2 ^ c) c)) : ∀ n c, c ≤ K 0 3 → K 0 3 - c < n → fX7_leastBehind_6 n (nI s) x1 (nI (mnTo (fun c => !(s.testBit c)) (twG K d s l) c)) (nI c) i = some (nI (vG K (d + 1) s l)) := by
  have hp2 : 2 ^ K 0 3 ≤ 2 ^ 7 := Nat.pow_le_pow_right (by omega) h7
  intro n
  induction n with
  | zero => intro c h1 h2; omega
  | succ n ih =>
    intro c h1 h2
    rw [fX7_leastBehind_6, h30]
    unfold fX7_leastBehind_37
    rw [nI_1]
    by_cases h3 : c = K 0 3
    · rw [if_pos (nI_le (by omega) (by omega)), h3, vG_s]
    · have ih' := ih (c + 1) (by omega) (by omega)
      rw [mnTo] at ih'
      rw [if_neg (nI_ge (by omega) (by omega)), mz_bit1 (by omega) (by omega)]
      by_cases h4 : s.testBit c = true
      · rw [if_neg (by simp [h4])] at ih'
        rw [if_pos h4, if_neg (show ¬ nI 1 = 0 by decide), ih']
      · have h4' : s.testBit c = false := by simpa using h4
        have hmn := mn_hi (P := fun c => !(s.testBit c)) (f := twG K d s l) c
        have htw := twG_le (c := c) hK hs hd (laG_o hl) (by omega) h4'
        rw [if_pos (by simp [h4'])] at ih'
        rw [if_neg h4, if_pos (show nI 0 = 0 from rfl), c_trou (l := l) h hK h7 h30 hs hd hl (by omega) h4' (hT c (by omega) h4'), mz_b1, mz_lt, mz_min (by omega) (by omega), ih']
theorem c_least (h : CarC 15 K i) (hK : OkK K) (h7 : K 0 3 ≤ 7) (h30 : i 30 7 = nI (K 0 3)) (hs : s < 2 ^ K 0 3) (hd : sS (fun _ => 1) s + (d + 1) = K 0 3) (hl : laG (d + 1) l (K 0 3) x1) (hT : ∀ c, c < K 0 3 → s.testBit c = false → i 34 ((s ||| 2 ^ c) * 7 + c) = nI (vG K d (s ||| 2 ^ c) c)) : fX7_leastBehind (nI s) x1 i = some (nI (vG K (d + 1) s l)) := by
  unfold fX7_leastBehind
  obtain ⟨fu, hfu, hfu2⟩ := fuel_g
  rw [hfu]
  exact c_least_l h hK h7 h30 hs hd hl hT fu 0 (by omega) (by omega)
/-- the table, from a set on -/
def TaG (K : Nat → Nat → Nat) (s : Nat) (i : Tb) : Prop := ∀ y c, s ≤ y → y < 2 ^ K 0 3 → c < K 0 3 → y.testBit c = true → i 34 (y * 7 + c) = nI (vG K (K 0 3 - sS (fun _ => 1) y) y c)
theorem TaG_u (hK : OkK K) (h : TaG K m i) (hd : sS (fun _ => 1) s + (d + 1) = K 0 3) (hs : s < 2 ^ K 0 3) (hms : m ≤ s + 1) (hc : c < K 0 3) (hc2 : s.testBit c = false) : i 34 ((s ||| 2 ^ c) * 7 + c) = nI (vG K d (s ||| 2 ^ c) c) := by
  have hm := hK.1
  have e := h (s ||| 2 ^ c) c (by have := or_gt hc2; omega) (or_lt hs hc) hc (by rw [Nat.testBit_or, Nat.testBit_two_pow_self, Bool.or_true])
  rw [sS_add (by omega) hc2, show K 0 3 - (sS (fun _ => 1) s + 1) = d by omega] at e
  exact e
theorem c_berth_in {kh : Int32 → (Nat → Nat → Int32) → Option ((Nat → Nat → Int32))} (h : CarC 15 K i) (hK : OkK K) (h7 : K 0 3 ≤ 7) (h30 : i 30 7 = nI (K 0 3)) (hs : s < 2 ^ K 0 3 - 1) (hs0 : 0 < s) (hT : TaG K (s + 1) i) : ∀ n c i1, c ≤ K 0 3 → K 0 3 - c < n → Fr [34] i i1 → TaG K (s + 1) i1 → (∀ y, y < c → s.testBit y = true → i1 34 (s * 7 + y) = nI (vG K (K 0 3 - sS (fun _ => 1) s) s y)) →
    ∃ i2, fX7_findBerths_63 kh n (nI s) (nI c) i1 = kh (nI s + (-1)) i2 ∧ Fr [34] i i2 ∧ TaG K s i2 := by
  have hm := hK.1
  have hp2 : 2 ^ K 0 3 ≤ 2 ^ 7 := Nat.pow_le_pow_right (by omega) h7
  have hsl : s < 2 ^ K 0 3 := by omega
  have hcnt : sS (fun _ => 1) s < K 0 3 := by
    rcases Classical.em (∃ k, k < K 0 3 ∧ s.testBit k = false) with ⟨k, k1, k2⟩ | e
    · exact cnt_lt hm hsl k1 k2
    · exfalso
      have := full_of hsl (fun k hk => by
        cases h2 : s.testBit k
        · exact absurd ⟨k, hk, h2⟩ e
        · rfl)
      omega
  obtain ⟨d, hd⟩ : ∃ d, sS (fun _ => 1) s + (d + 1) = K 0 3 := ⟨K 0 3 - sS (fun _ => 1) s - 1, by omega⟩
  intro n
  induction n with
  | zero => intro c i1 h1 h2; omega
  | succ n ih =>
    intro c i1 h1 h2 g1 g2 g3
    have e30 : i1 30 7 = nI (K 0 3) := by rw [g1 30 (by decide)]; exact h30
    rw [fX7_findBerths_63, e30]
    unfold fX7_findBerths_97
    rw [nI_1]
    by_cases h3 : c = K 0 3
    · rw [if_pos (nI_le (by omega) (by omega))]
      refine ⟨_, rfl, g1, ?_⟩
      intro y c' y1 y2 y3 y4
      by_cases e : y = s
      · subst e
        exact g3 c' (by omega) y4
      · exact g2 y c' (by omega) y2 y3 y4
    · rw [if_neg (nI_ge (by omega) (by omega)), mz_bit1 (by omega) (by omega)]
      by_cases h4 : s.testBit c = true
      · have hpos : 0 < K 0 3 - (d + 1) := by
          have h5 : sS (fun _ => 1) s ≠ 0 := by
            intro e
            have h6 : sS (fun _ => 1) s = sumTo (fun k => if s.testBit k = true then 1 else 0) 9 := rfl
            have h7 := sumTo_add (fun k => if k = c then 1 else 0) (fun k => if s.testBit k = true ∧ k ≠ c then 1 else 0) 9
            have h8 : sumTo (fun k => if s.testBit k = true then 1 else 0) 9 = sumTo (fun z => (if z = c then 1 else 0) + (if s.testBit z = true ∧ z ≠ c then 1 else 0)) 9 := by
              apply sumTo_congr
              intro z _
              by_cases e : z = c
              · subst e
                simp [h4]
              · simp [e]
            rw [sumTo_only (f := fun k => if k = c then 1 else 0) (q := c) (by omega) (fun z _ hz => if_neg hz), if_pos rfl] at h7
            omega
          omega
        rw [if_pos h4, if_pos (show nI 1 = 1 from rfl), c_least (d := d) (l := c) (CarC_f h (fun q q1 q2 => g1 q (by simp; omega))) hK h7 e30 hsl hd (Or.inr ⟨hpos, rfl, by omega⟩) (fun c' k1 k2 => TaG_u hK g2 hd hsl (by omega) k1 k2), mz_b1, q7, mz_mul, nI_add, if_pos (mz_in (by omega) (by omega)), mz_lt, nI_clamp (by omega)]
        refine ih (c + 1) _ (by omega) (by omega) (Fr_t g1 Fr_u) ?_ ?_
        · intro y c' y1 y2 y3 y4
          rw [u2n _ _ _ _ _ (by omega)]
          exact g2 y c' y1 y2 y3 y4
        · intro y y1 y2
          by_cases e : y = c
          · rw [e, u2e, show K 0 3 - sS (fun _ => 1) s = d + 1 by omega]
          · rw [u2n _ _ _ _ _ (by omega)]
            exact g3 y (by omega) y2
      · rw [if_neg h4, if_neg (show ¬ nI 0 = 1 by decide)]
        refine ih (c + 1) i1 (by omega) (by omega) g1 g2 ?_
        intro y y1 y2
        have : y ≠ c := fun e => h4 (by rw [← e]; exact y2)
        exact g3 y (by omega) y2
theorem c_pickG {kh : Int32 → Int32 → Int32 → (Nat → Nat → Int32) → Option ((Nat → Nat → Int32))} (h : CarC 15 K i) (hK : OkK K) (h7 : K 0 3 ≤ 7) (h30 : i 30 7 = nI (K 0 3)) (hs : s < 2 ^ K 0 3) (hd : sS (fun _ => 1) s + (d + 1) = K 0 3) (hl : laG (d + 1) l (K 0 3) x1) (hT : TaG K 1 i) (hv : x < 2 ^ 31) : ∀ n c, c + 1 ≤ K 0 3 → K 0 3 - c < n + 1 →
    fX7_findBerths_151 kh n (nI s) x1 a1 (nI x) (nI c) i = fX7_findBerths_191 kh (nI s) a1 (nI (fs (fun c => !(s.testBit c) && decide (twG K d s l c ≤ x)) (K 0 3 - 1 - c) c)) i := by
  have hp2 : 2 ^ K 0 3 ≤ 2 ^ 7 := Nat.pow_le_pow_right (by omega) h7
  intro n
  induction n with
  | zero => intro c h1 h2; omega
  | succ n ih =>
    intro c h1 h2
    rw [fX7_findBerths_151, h30]
    unfold fX7_findBerths_185
    rw [nI_1, q1, mz_sub (by omega)]
    by_cases h3 : c = K 0 3 - 1
    · rw [if_pos (nI_le (by omega) (by omega)), show K 0 3 - 1 - c = 0 by omega]
      rfl
    · obtain ⟨d', hd'⟩ : ∃ d', K 0 3 - 1 - c = d' + 1 := ⟨K 0 3 - 1 - c - 1, by omega⟩
      rw [if_neg (nI_ge (by omega) (by omega)), hd', fs, ih (c + 1) (by omega) (by omega), show K 0 3 - 1 - (c + 1) = d' by omega, ← q1, mz_bit1 (by omega) (by omega)]
      by_cases h4 : s.testBit c = true
      · rw [if_pos h4, if_pos (show nI 1 = 1 from rfl), if_neg (by simp [h4])]
      · have h4' : s.testBit c = false := by simpa using h4
        have htw := twG_le (c := c) hK hs hd (laG_o hl) (by omega) h4'
        rw [if_neg h4, if_neg (show ¬ nI 0 = 1 by decide), c_trou (l := l) h hK h7 h30 hs hd hl (by omega) h4' (TaG_u hK hT hd hs (by omega) (by omega) h4'), mz_b1]
        by_cases h5 : twG K d s l c ≤ x
        · rw [if_pos (nI_le h5 (by omega)), if_pos (by rw [h4', decide_eq_true h5]; rfl)]
        · rw [if_neg (nI_ge (by omega) (by omega)), if_neg (by rw [decide_eq_false h5, Bool.and_false]; decide)]
theorem c_readG (h : CarC 15 K i) (hK : OkK K) (h7 : K 0 3 ≤ 7) (h30 : i 30 7 = nI (K 0 3)) (hT : TaG K 1 i) : ∀ d n s r l x x1 i1, r + d = K 0 3 → d < n → s < 2 ^ K 0 3 → sS (fun _ => 1) s = r → laG d l (K 0 3) x1 → Fr [30] i i1 → (∀ y, y ≠ 9 → i1 30 y = i 30 y) → i1 30 9 = nI x →
    ∃ i2, fX7_findBerths_131 n (nI s) x1 (nI r) i1 = some i2 ∧ Fr [30] i i2 ∧ (∀ y, y ≠ 9 → i2 30 y = i 30 y) ∧ i2 30 9 = nI (dgG K d s l x) := by
  have hm := hK.1
  have hp2 : 2 ^ K 0 3 ≤ 2 ^ 7 := Nat.pow_le_pow_right (by omega) h7
  intro d
  induction d with
  | zero =>
    intro n s r l x x1 i1 h1 h2 h3 h4 h5 g1 g2 g3
    obtain ⟨n, rfl⟩ : ∃ n', n = n' + 1 := ⟨n - 1, by omega⟩
    rw [fX7_findBerths_131, g2 7 (by omega), h30, if_pos (nI_le (by omega) (by omega))]
    exact ⟨_, rfl, g1, g2, g3⟩
  | succ d ih =>
    intro n s r l x x1 i1 h1 h2 h3 h4 h5 g1 g2 g3
    obtain ⟨n, rfl⟩ : ∃ n', n = n' + 1 := ⟨n - 1, by omega⟩
    obtain ⟨fu, hfu, hfu2⟩ := fuel_g
    have e30 : i1 30 7 = nI (K 0 3) := by rw [g2 7 (by omega)]; exact h30
    have hc1 : CarC 15 K i1 := CarC_f h (fun q q1 q2 => g1 q (by simp; omega))
    have hT1 : TaG K 1 i1 := fun y c y1 y2 y3 y4 => by rw [g1 34 (by decide)]; exact hT y c y1 y2 y3 y4
    have hvl := vG_le hK (d + 1) s l h3 (by omega) (laG_o h5)
    have k1 := c_pickG (x := vG K (d + 1) s l) (kh := fX7_findBerths_131 n) (a1 := nI r) (l := l) hc1 hK h7 e30 h3 (by omega) h5 hT1 (by omega) fu 0 (by omega) (by omega)
    rw [← q0, Nat.sub_zero] at k1
    have hex : ∃ k, k < K 0 3 ∧ s.testBit k = false ∧ vG K (d + 1) s l = twG K d s l k := by
      rcases mn_ex (P := fun k => !(s.testBit k)) (f := twG K d s l) (K 0 3) with e | ⟨k, e1, e2, e3⟩
      · rw [← vG_s] at e
        omega
      · exact ⟨k, e1, by simpa using e2, by rw [vG_s]; exact e3⟩
    rw [fX7_findBerths_131, e30, if_neg (nI_ge (by omega) (by omega)), c_least (d := d) (l := l) hc1 hK h7 e30 h3 (by omega) h5 (fun c' k1 k2 => TaG_u hK hT1 (by omega) h3 (by omega) k1 k2), mz_b1, hfu, k1, dgG]
    have hbit : s.testBit (fs (fun c => !(s.testBit c) && decide (twG K d s l c ≤ vG K (d + 1) s l)) (K 0 3 - 1) 0) = false := by
      obtain ⟨k, k1, k2, k3⟩ := hex
      have hf : ∀ (P : Nat → Bool) (D y k : Nat), y ≤ k → k ≤ y + D → P k = true → P (fs P D y) = true := by
        intro P D
        induction D with
        | zero => intro y k a1 a2 a3; rw [fs, show y = k by omega]; exact a3
        | succ D ihD =>
          intro y k a1 a2 a3
          rw [fs]
          by_cases e : P y = true
          · rw [if_pos e]; exact e
          · rw [if_neg e]
            refine ihD (y + 1) k ?_ (by omega) a3
            have : y ≠ k := fun e2 => e (by rw [e2]; exact a3)
            omega
      have := hf (fun c => !(s.testBit c) && decide (twG K d s l c ≤ vG K (d + 1) s l)) (K 0 3 - 1) 0 k (by omega) (by omega) (by rw [k2, decide_eq_true (by omega)]; rfl)
      simp only [Bool.and_eq_true] at this
      simpa using this.1
    generalize hF : fs (fun c => !(s.testBit c) && decide (twG K d s l c ≤ vG K (d + 1) s l)) (K 0 3 - 1) 0 = F at *
    have hFl : F ≤ 0 + (K 0 3 - 1) := by rw [← hF]; exact fs_le _ _
    unfold fX7_findBerths_191
    rw [mz_lt, mz_lt, g3, q10, mz_mul, nI_add, mz_1l F (by omega), mz_or, nI_1]
    refine ih n _ (r + 1) F _ _ _ (by omega) (by omega) (or_lt h3 (by omega)) (by rw [sS_add (by omega) hbit, h4]) (Or.inr ⟨by omega, rfl, by omega⟩) (Fr_t g1 Fr_u) ?_ (u2e _ _ _ _)
    intro y hy
    rw [u2n _ _ _ _ _ hy]
    exact g2 y hy
theorem c_berth_l (h : CarC 15 K i) (hK : OkK K) (h7 : K 0 3 ≤ 7) (h0 : 0 < K 0 3) (h30 : i 30 7 = nI (K 0 3)) : ∀ s n i1, s + 1 < 2 ^ K 0 3 → s < n → Fr [34] i i1 → TaG K (s + 1) i1 →
    ∃ i2, fX7_findBerths_57 n (nI s) i1 = some i2 ∧ Fr [30, 34] i i2 ∧ i2 30 10 = nI (vG K (K 0 3) 0 0) ∧ i2 30 9 = nI (dgG K (K 0 3) 0 0 0) := by
  have hm := hK.1
  have hp2 : 2 ^ K 0 3 ≤ 2 ^ 7 := Nat.pow_le_pow_right (by omega) h7
  have hpp := Nat.two_pow_pos (K 0 3)
  intro s
  induction s with
  | zero =>
    intro n i1 h1 h2 g1 g2
    obtain ⟨n, rfl⟩ : ∃ n', n = n' + 1 := ⟨n - 1, by omega⟩
    obtain ⟨fu, hfu, hfu2⟩ := fuel_g
    obtain ⟨d, hd⟩ : ∃ d, K 0 3 = d + 1 := ⟨K 0 3 - 1, by omega⟩
    have e30 : i1 30 7 = nI (K 0 3) := by rw [g1 30 (by decide)]; exact h30
    have hc1 : CarC 15 K i1 := CarC_f h (fun q q1 q2 => g1 q (by simp; omega))
    have hla : laG (d + 1) 0 (K 0 3) NN := Or.inl ⟨by omega, rfl⟩
    have e1 := c_least (s := 0) (d := d) (l := 0) (x1 := NN) hc1 hK h7 e30 hpp (by rw [sS_0]; omega) hla (fun c' k1 k2 => TaG_u hK g2 (by rw [sS_0]; omega) hpp (by omega) k1 k2)
    have e1' : fX7_leastBehind 0 (-1) i1 = some (nI (vG K (d + 1) 0 0)) := e1
    rw [fX7_findBerths_57, if_pos (show nI 0 ≤ 0 by decide), e1', mz_b1, mz_lt, mz_lt, hfu]
    have fr1 : Fr [30] i1 (u2 (u2 i1 30 10 (nI (vG K (d + 1) 0 0))) 30 9 0) := Fr_t Fr_u Fr_u
    obtain ⟨i2, r1, r2, r3, r4⟩ := c_readG (i := u2 (u2 i1 30 10 (nI (vG K (d + 1) 0 0))) 30 9 0) (CarC_f hc1 (fun q q1 q2 => fr1 q (by simp; omega))) hK h7 (by rw [u2n _ _ _ _ _ (by omega), u2n _ _ _ _ _ (by omega)]; exact e30) (fun y c y1 y2 y3 y4 => by rw [fr1 34 (by decide)]; exact g2 y c (by omega) y2 y3 y4) (K 0 3) fu 0 0 0 0 NN _ (by omega) (by omega) hpp sS_0 (by rw [hd]; exact Or.inl ⟨by omega, rfl⟩) (Fr_r _ _) (fun _ _ => rfl) (u2e _ _ _ _)
    refine ⟨i2, r1, ?_, ?_, r4⟩
    · exact Fr_t (Fr_w (by decide) g1) (Fr_t (Fr_w (by decide) fr1) (Fr_w (by decide) r2))
    · rw [r3 10 (by omega), u2n _ _ _ _ _ (by omega), u2e, ← hd]
  | succ s ih =>
    intro n i1 h1 h2 g1 g2
    obtain ⟨n, rfl⟩ : ∃ n', n = n' + 1 := ⟨n - 1, by omega⟩
    obtain ⟨fu, hfu, hfu2⟩ := fuel_g
    have e30 : i1 30 7 = nI (K 0 3) := by rw [g1 30 (by decide)]; exact h30
    have hc1 : CarC 15 K i1 := CarC_f h (fun q q1 q2 => g1 q (by simp; omega))
    obtain ⟨i2, r1, r2, r3⟩ := c_berth_in (kh := fX7_findBerths_57 n) (s := s + 1) hc1 hK h7 e30 (by omega) (by omega) g2 fu 0 i1 (by omega) (by omega) (Fr_r _ _) g2 (fun y hy => by omega)
    rw [← q0] at r1
    rw [fX7_findBerths_57, if_neg (show ¬ nI (s + 1) ≤ 0 by rw [q0, mz_le (by omega) (by omega)]; omega), hfu, r1, mz_prd]
    exact ih n i2 (by omega) (by omega) (Fr_t g1 r2) r3
theorem c_berth_0 (hK : OkK K) (h7 : K 0 3 ≤ 7) (h0 : 0 < K 0 3) (h : CarC 15 K i) (h30 : i 30 7 = nI (K 0 3)) : ∀ n c i1, c ≤ K 0 3 → K 0 3 - c < n → Fr [34] i i1 → (∀ y, y < c → i1 34 ((2 ^ K 0 3 - 1) * 7 + y) = nI 0) →
    ∃ i2, fX7_findBerths_27 n (nI (2 ^ K 0 3 - 1)) (nI c) i1 = some i2 ∧ Fr [30, 34] i i2 ∧ i2 30 10 = nI (vG K (K 0 3) 0 0) ∧ i2 30 9 = nI (dgG K (K 0 3) 0 0 0) := by
  have hm := hK.1
  have hp2 : 2 ^ K 0 3 ≤ 2 ^ 7 := Nat.pow_le_pow_right (by omega) h7
  have hp1 : 2 ^ 1 ≤ 2 ^ K 0 3 := Nat.pow_le_pow_right (by omega) h0
  intro n
  induction n with
  | zero => intro c i1 h1 h2; omega
  | succ n ih =>
    intro c i1 h1 h2 g1 g2
    have e30 : i1 30 7 = nI (K 0 3) := by rw [g1 30 (by decide)]; exact h30
    rw [fX7_findBerths_27, e30]
    by_cases h3 : c = K 0 3
    · obtain ⟨fu, hfu, hfu2⟩ := fuel_g
      rw [if_pos (nI_le (by omega) (by omega)), hfu, q1, mz_sub (by omega)]
      refine c_berth_l h hK h7 h0 h30 (2 ^ K 0 3 - 1 - 1) fu i1 (by omega) (by omega) g1 ?_
      intro y c' y1 y2 y3 y4
      have ey : y = 2 ^ K 0 3 - 1 := by omega
      have hc : sS (fun _ => 1) y = K 0 3 := by
        have a1 := cnt_le (s := y) hm y2
        rcases Nat.lt_or_ge (sS (fun _ => 1) y) (K 0 3) with e | e
        · obtain ⟨k, k1, k2⟩ := cnt_ex hm y2 e
          rw [ey, full_bit k1] at k2
          exact absurd k2 (by decide)
        · omega
      rw [hc, Nat.sub_self, ey]
      exact g2 c' (by omega)
    · rw [if_neg (nI_ge (by omega) (by omega)), q7, mz_mul, nI_add, if_pos (mz_in (by omega) (by omega)), mz_lt, nI_clamp (by omega), nI_1]
      refine ih (c + 1) _ (by omega) (by omega) (Fr_t g1 Fr_u) ?_
      intro y hy
      by_cases e : y = c
      · rw [e, u2e]
        rfl
      · rw [u2n _ _ _ _ _ (by omega)]
        exact g2 y (by omega)
theorem C_berths (h : CarC 15 K i) (hK : OkK K) (h7 : K 0 3 ≤ 7) (h0 : 0 < K 0 3) : ∃ i2, fX7_findBerths i = some i2 ∧ Fr [30, 34] i i2 ∧ i2 30 10 = nI (vG K (K 0 3) 0 0) ∧ i2 30 9 = nI (dgG K (K 0 3) 0 0 0) := by
  have hpp := Nat.two_pow_pos (K 0 3)
  unfold fX7_findBerths fX1_sleepers
  obtain ⟨fu, hfu, hfu2⟩ := fuel_g
  rw [hfu, h.1, mz_b1, q7, mz_min (by omega) (by omega), show min 7 (K 0 3) = K 0 3 by omega, mz_lt, u2e, mz_1l _ (by omega), q1, mz_sub (by omega), mz_lt]
  obtain ⟨i2, r1, r2, r3, r4⟩ := c_berth_0 (i := u2 i 30 7 (nI (K 0 3))) hK h7 h0 (CarC_f h (fun q q1 q2 => u2r _ _ _ _ _ (by omega))) (u2e _ _ _ _) fu 0 _ (by omega) (by omega) (Fr_r _ _) (fun y hy => by omega)
  exact ⟨i2, r1, Fr_t (Fr_w (by decide) Fr_u) r2, r3, r4⟩
/-- 39: give -/
theorem R_give (hK : OkK K) (h : CarC 15 K i) (h' : CarM K j) (a1 : Int32) : ∃ v i' j', fX11_give a1 i = some (v, i') ∧ fX12_give a1 j = some (v, j') ∧ Fr [30, 34] i i' ∧ Fr [50, 71] j j' ∧ F5 [0, 53, 54] j j' := by
  have hm := hK.1
  have hw0 : CarM K (u2 j 50 0 0) := m_car0 h' (by omega)
  have fr0 : Fr [50, 71] j (u2 j 50 0 0) := Fr_w (by decide) Fr_u
  have f50 : F5 [0, 53, 54] j (u2 j 50 0 0) := F5_w (by decide) F5_u
  have hi := mz_isIn a1 0 1
  unfold fX11_give fX12_give fX11_noCar fX1_sleepers
  simp only [mz_lt]
  rw [show fX12_isIn a1.toInt64 0 1 = some (if 0 ≤ a1 ∧ a1 ≤ 1 then 1 else 0) from hi, h.1, mz_b1, hw0.1]
  by_cases h0 : K 0 3 = 0
  · rw [if_pos (show nI (K 0 3) = 0 by rw [h0]; rfl), if_pos (show nI (K 0 3) = 0 by rw [h0]; rfl), mz_b1, if_neg (show ¬ (1 : Int32) = 0 by decide)]
    exact ⟨_, _, _, rfl, rfl, Fr_r _ _, fr0, f50⟩
  · have hne : ¬ nI (K 0 3) = 0 := by rw [q0, nI_eq (by omega) (by omega)]; exact h0
    rw [if_neg hne, if_neg hne, mz_b1, mz_b1, mz_b1, if_pos rfl]
    by_cases h1 : a1 < 0
    · rw [if_pos h1, if_neg (show ¬ (0 ≤ a1 ∧ a1 ≤ 1) from fun e => absurd h1 (Int32.not_lt.mpr e.1)), if_pos rfl]
      exact ⟨_, _, _, rfl, rfl, Fr_r _ _, fr0, f50⟩
    · rw [if_neg h1]
      by_cases h2 : a1 ≤ 1
      · rw [if_pos h2, if_pos (show 0 ≤ a1 ∧ a1 ≤ 1 from ⟨Int32.not_lt.mp h1, h2⟩), if_neg (show ¬ (1 : Int32) = 0 by decide)]
        by_cases h7 : K 0 3 ≤ 7
        · obtain ⟨i2, e2, e3, e4, e5⟩ := C_berths h hK h7 (by omega)
          have hvl := vG_le hK (K 0 3) 0 0 (Nat.two_pow_pos _) (by rw [sS_0]; omega) (Or.inr (by omega))
          obtain ⟨j2, m1, m2, m3, m4, m5, m6⟩ := M_goG hK (by omega) h7 (K 0 3) 12 0 0 (fun _ => 0) 0 (2 ^ 31) (u2 (u2 j 50 0 0) 50 53 (-1)) (by omega) (by omega) (CarM_f hw0 (Fr_u) (F5_u) (by decide) (by decide) (by decide) (by decide) (by decide) (by decide)) rfl sS_0 (fun z hz => by omega) (Nat.le_refl _) (by rw [u2e]; rfl)
          rw [show acG K (fun _ => 0) 0 = 0 from rfl, Nat.zero_add] at m5 m6
          rw [show min (2 ^ 31) (vG K (K 0 3) 0 0) = vG K (K 0 3) 0 0 by omega, bsI_of (by omega)] at m5
          rw [if_pos (by omega)] at m6
          have m1' : fX12_goGive 12 0 0 0 (u2 (u2 j 50 0 0) 50 53 (-1)) = some j2 := m1
          rw [q7, if_pos (nI_le h7 (by omega)), if_pos (nI_le h7 (by omega)), e2, mz_b1, m1']
          unfold fX7_digits fX7_worth
          rw [e4, e5, mz_b1, mz_b1, mz_b1, m5, m6]
          have frj : Fr [50, 71] j j2 := Fr_t fr0 (Fr_t (Fr_w (by decide) Fr_u) m2)
          have f5j : F5 [0, 53, 54] j j2 := F5_t f50 (F5_t (F5_w (by decide) F5_u) (F5_w (by decide) m3))
          by_cases h3 : a1 = 0
          · rw [if_pos h3, if_pos h3]
            exact ⟨_, _, _, rfl, rfl, e3, frj, f5j⟩
          · rw [if_neg h3, if_neg h3]
            exact ⟨_, _, _, rfl, rfl, e3, frj, f5j⟩
        · rw [q7, if_neg (nI_ge (by omega) (by omega)), if_neg (nI_ge (by omega) (by omega))]
          exact ⟨_, _, _, rfl, rfl, Fr_r _ _, fr0, f50⟩
      · rw [if_neg h2, if_neg (show ¬ (0 ≤ a1 ∧ a1 ≤ 1) from fun e => h2 e.2), if_pos rfl]
        exact ⟨_, _, _, rfl, rfl, Fr_r _ _, fr0, f50⟩
end GX
