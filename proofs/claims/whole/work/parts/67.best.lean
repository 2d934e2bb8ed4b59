/-! best, heads -/
/-- how far apart a look at b takes the ways: those where it finds the swapped, less the others -/
def apS (P : Nat → Bool) (b : Nat) : Nat → Nat → Int32 → Int32
  | 0, _, c => c
  | d + 1, w, c => if P w = true then apS P b d (w + 1) (c + (if w ≠ 0 ∧ (w / 10 = b ∨ w % 10 = b) then NN else 1)) else apS P b d (w + 1) c
theorem apS_skip {P : Nat → Bool} {b : Nat} : ∀ (k d w : Nat) (c : Int32), (∀ z, w ≤ z → z < w + k → P z = false) → apS P b (d + k) w c = apS P b d (w + k) c := by
  intro k
  induction k with
  | zero => intro d w c _; rfl
  | succ k ih =>
    intro d w c h
    show apS P b ((d + k) + 1) w c = _
    rw [apS, if_neg (by rw [h w (by omega) (by omega)]; decide), ih d (w + 1) c (fun z h1 h2 => h z (by omega) (by omega))]
    congr 1
    omega
def abI (x : Int32) : Int32 := if 0 ≤ x then x else 0 - x
/-- the first of the least -/
def bst (f : Nat → Int32) : Nat → Nat → Int32 → Int32 → Int32
  | 0, _, x1, _ => x1
  | d + 1, b, x1, x2 => if x1 = NN then bst f d (b + 1) (nI b) (f b) else if f b < x2 then bst f d (b + 1) (nI b) (f b) else bst f d (b + 1) x1 x2
section BS
variable {i i' i1 i2 i3 j j' j1 j2 : Tb} {rv rv' rv1 rv2 : Nat → Nat → Option Nat} {W : Option ((Nat → Nat) → Int)} {K g : Nat → Nat → Nat} {σ τ σ' ρ : Nat → Nat} {q p o k b b' t w v n r z c s x a m y : Nat} {a1 a2 x1 x2 : Int32}
theorem m_best_l {kh : Int32 → Int32 → Int32 → (Nat → Nat → Int32) → Option ((Int32) × (Nat → Nat → Int32))} (h' : CarM K j) (hg : GuM g j) (ho : OkG K g) (hK : OkK K) (hb : b < 9) : ∀ n w (c : Int32), w ≤ 10 * K 0 3 → 10 * K 0 3 - w < n → fX12_best_42 kh n x1 x2 (nI b) c (nI w) j = (if x1 = NN ∨ abI (apS (wayB K g) b (10 * K 0 3 - w) w c) < x2 then kh (nI b) (abI (apS (wayB K g) b (10 * K 0 3 - w) w c)) (nI (b + 1)) j else kh x1 x2 (nI (b + 1)) j) := by
  have hm := hK.1
  intro n
  induction n with
  | zero => intro w c h1 h2; omega
  | succ n ih =>
    intro w c h1 h2
    rw [fX12_best_42, h'.1, show (10 : Int32) * nI (K 0 3) = nI (10 * K 0 3) from by rw [q10, mz_mul]]
    unfold fX12_best_91 fX12_best_95 fX12_best_96 fX12_best_140 fX12_best_145
    unfold fX12_best_110
    unfold fX12_best_113
    rw [nI_1, nI_1]
    by_cases h3 : w = 10 * K 0 3
    · rw [if_pos (nI_le (by omega) (by omega)), show 10 * K 0 3 - w = 0 by omega, apS, mz_lt]
      show (if x1 = NN then _ else if abI c < x2 then _ else _) = _
      by_cases h4 : x1 = NN
      · rw [if_pos h4, if_pos (Or.inl h4)]
        rfl
      · rw [if_neg h4]
        by_cases h5 : abI c < x2
        · rw [if_pos h5, if_pos (Or.inr h5)]
          rfl
        · rw [if_neg h5, if_neg (fun e => by rcases e with e | e <;> contradiction)]
    · obtain ⟨d, hd⟩ : ∃ d, 10 * K 0 3 - w = d + 1 := ⟨10 * K 0 3 - w - 1, by omega⟩
      have e := ih (w + 1) c (by omega) (by omega)
      have e1 := ih (w + 1) (c + 1) (by omega) (by omega)
      have e2 := ih (w + 1) (c + NN) (by omega) (by omega)
      rw [show 10 * K 0 3 - (w + 1) = d by omega] at e e1 e2
      have ed : nI w / 10 = nI (w / 10) := by rw [q10, mz_div (by omega) (by omega)]
      have em : nI w - nI (w / 10) * 10 = nI (w % 10) := by
        rw [q10, mz_mul, mz_sub (by omega)]
        congr 1
        omega
      rw [if_neg (nI_ge (by omega) (by omega)), m_wayOf h' hg ho hK (by omega), mz_b1, hd, apS, ed, em]
      by_cases h4 : wayB K g w = true
      · rw [if_pos h4, if_pos h4, if_neg (by rcases wayV_99 (w := w) with h | h; exact h; omega), if_pos rfl, if_neg (show ¬ (1 : Int32) = 0 by decide)]
        by_cases h5 : w = 0
        · rw [if_pos (show nI w ≤ 0 by rw [h5]; decide), if_neg (show ¬ (w ≠ 0 ∧ (w / 10 = b ∨ w % 10 = b)) from fun e => e.1 h5)]
          exact e1
        · rw [if_neg (show ¬ nI w ≤ 0 by rw [q0, mz_le (by omega) (by omega)]; omega)]
          by_cases h6 : w / 10 = b
          · rw [if_pos (show nI (w / 10) = nI b by rw [h6]), if_pos (show (w ≠ 0 ∧ (w / 10 = b ∨ w % 10 = b)) from ⟨h5, Or.inl h6⟩)]
            exact e2
          · rw [if_neg (show ¬ nI (w / 10) = nI b from fun e => h6 (nI_inj e (by omega) (by omega)))]
            by_cases h7 : w % 10 = b
            · rw [if_pos (show nI (w % 10) = nI b by rw [h7]), if_pos (show (w ≠ 0 ∧ (w / 10 = b ∨ w % 10 = b)) from ⟨h5, Or.inr h7⟩)]
              exact e2
            · rw [if_neg (show ¬ nI (w % 10) = nI b from fun e => h7 (nI_inj e (by omega) (by omega))), if_neg (show ¬ (w ≠ 0 ∧ (w / 10 = b ∨ w % 10 = b)) from fun e => by rcases e.2 with e | e <;> contradiction)]
              exact e1
      · rw [if_neg h4, if_neg h4, if_pos rfl]
        exact e
def bvS (K g : Nat → Nat → Nat) (b : Nat) : Int32 := abI (apS (wayB K g) b (10 * K 0 3) 0 0)
theorem m_best (h' : CarM K j) (hg : GuM g j) (ho : OkG K g) (hK : OkK K) (hn : 0 < K 0 3) : ∀ n b x1 x2, b ≤ K 0 3 → K 0 3 - b < n → fX12_best_28 n x1 x2 (nI b) j = some (bst (bvS K g) (K 0 3 - b) b x1 x2, j) := by
  have hm := hK.1
  intro n
  induction n with
  | zero => intro b x1 x2 h1 h2; omega
  | succ n ih =>
    intro b x1 x2 h1 h2
    rw [fX12_best_28, h'.1]
    by_cases h3 : b = K 0 3
    · rw [if_pos (nI_le (by omega) (by omega)), show K 0 3 - b = 0 by omega, bst]
    · obtain ⟨d, hd⟩ : ∃ d, K 0 3 - b = d + 1 := ⟨K 0 3 - b - 1, by omega⟩
      obtain ⟨fu, hfu, hfu2⟩ := fuel_g
      have k := m_best_l (kh := fX12_best_28 n) (x1 := x1) (x2 := x2) (b := b) h' hg ho hK (by omega) fu 0 0 (by omega) (by omega)
      rw [← q0] at k
      rw [if_neg (nI_ge (by omega) (by omega)), hfu, k, hd, bst, ih (b + 1) _ _ (by omega) (by omega), ih (b + 1) _ _ (by omega) (by omega), show K 0 3 - (b + 1) = d by omega]
      show (if x1 = NN ∨ bvS K g b < x2 then _ else _) = _
      by_cases h4 : x1 = NN
      · rw [if_pos (Or.inl h4), if_pos h4]
        rfl
      · rw [if_neg h4]
        by_cases h5 : bvS K g b < x2
        · rw [if_pos (Or.inr h5), if_pos h5]
          rfl
        · rw [if_neg h5, if_neg (fun e => by rcases e with e | e <;> contradiction)]
theorem c_ap2_l {kh : Int32 → Int32 → Int32 → (Nat → Nat → Int32) → Option ((Int32))} (h : CarC 15 K i) (hg : GuC g i) (ho : OkG K g) (hK : OkK K) (hx : x < K 0 3) (hb : b < 9) (hkh : ∀ c, kh (nI b) c (nI (x + 1)) i = some (abI (apS (wayB K g) b (10 * K 0 3 - (10 * x + K 0 3)) (10 * x + K 0 3) c))) : ∀ n y c, x < y → y ≤ K 0 3 → K 0 3 - y < n → fX2_apartAt_33 kh n (nI b) c (nI x) (nI y) i = some (abI (apS (wayB K g) b (10 * K 0 3 - (10 * x + y)) (10 * x + y) c)) := by
  have hm := hK.1
  intro n
  induction n with
  | zero => intro y c h1 h2 h3; omega
  | succ n ih =>
    intro y c h1 h2 h3
    rw [fX2_apartAt_33]
    unfold fX1_sleepers
    rw [h.1, mz_b1]
    by_cases h4 : y = K 0 3
    · subst h4
      rw [if_pos (nI_le (by omega) (by omega)), nI_1, hkh]
    · obtain ⟨d, hd⟩ : ∃ d, 10 * K 0 3 - (10 * x + y) = d + 1 := ⟨10 * K 0 3 - (10 * x + y) - 1, by omega⟩
      have e := ih (y + 1) c (by omega) (by omega) (by omega)
      have e1 := ih (y + 1) (c + 1) (by omega) (by omega) (by omega)
      have e2 := ih (y + 1) (c + NN) (by omega) (by omega) (by omega)
      rw [show 10 * K 0 3 - (10 * x + (y + 1)) = d by omega, show 10 * x + (y + 1) = 10 * x + y + 1 by omega] at e e1 e2
      rw [if_neg (nI_ge (by omega) (by omega)), c_fits2 h hg ho hK h1 (by omega), mz_b1, hd, apS]
      unfold fX2_apartAt_67 
      unfold fX2_apartAt_72 
      unfold fX2_apartAt_74
      rw [nI_1, show (10 * x + y) / 10 = x by omega, show (10 * x + y) % 10 = y by omega]
      by_cases h5 : wayB K g (10 * x + y) = true
      · rw [if_pos h5, if_neg (show ¬ (1 : Int32) = 0 by decide)]; try rw [if_pos h5]
        by_cases h6 : b = x
        · rw [if_pos (show nI b = nI x by rw [h6]), if_pos (show 10 * x + y ≠ 0 ∧ (x = b ∨ y = b) from ⟨by omega, Or.inl h6.symm⟩)]
          exact e2
        · rw [if_neg (show ¬ nI b = nI x from fun e => h6 (nI_inj e (by omega) (by omega)))]
          by_cases h7 : b = y
          · rw [if_pos (show nI b = nI y by rw [h7]), if_pos (show 10 * x + y ≠ 0 ∧ (x = b ∨ y = b) from ⟨by omega, Or.inr h7.symm⟩)]
            exact e2
          · rw [if_neg (show ¬ nI b = nI y from fun e => h7 (nI_inj e (by omega) (by omega))), if_neg (show ¬ (10 * x + y ≠ 0 ∧ (x = b ∨ y = b)) from fun e => by omega)]
            exact e1
      · rw [if_neg h5, if_pos (show (0 : Int32) = 0 from rfl), e]; try rw [if_neg h5]
theorem c_ap1_l (h : CarC 15 K i) (hg : GuC g i) (ho : OkG K g) (hK : OkK K) (hb : b < 9) : ∀ n x c, x ≤ K 0 3 → K 0 3 - x < n → (x = 0 → 0 < K 0 3) → fX2_apartAt_17 n (nI b) c (nI x) i = some (abI (apS (wayB K g) b (10 * K 0 3 - (10 * x + x + 1)) (10 * x + x + 1) c)) := by
  have hm := hK.1
  intro n
  induction n with
  | zero => intro x c h1 h2; omega
  | succ n ih =>
    intro x c h1 h2 h0
    rw [fX2_apartAt_17]
    unfold fX1_sleepers
    rw [h.1, mz_b1]
    by_cases h3 : x = K 0 3
    · rw [if_pos (nI_le (by omega) (by omega)), show 10 * K 0 3 - (10 * x + x + 1) = 0 by omega, apS]
      rfl
    · obtain ⟨fu, hfu, hfu2⟩ := fuel_g
      rw [if_neg (nI_ge (by omega) (by omega)), hfu, nI_1]
      have hkh : ∀ c, fX2_apartAt_17 n (nI b) c (nI (x + 1)) i = some (abI (apS (wayB K g) b (10 * K 0 3 - (10 * x + K 0 3)) (10 * x + K 0 3) c)) := by
        intro c
        rw [ih (x + 1) c (by omega) (by omega) (by omega)]
        by_cases h4 : x + 1 = K 0 3
        · rw [show 10 * K 0 3 - (10 * x + K 0 3) = 0 + (10 * K 0 3 - (10 * x + K 0 3)) by omega, apS_skip _ _ _ _ (fun z h5 h6 => wayB_hi (by omega) (by omega)), show 10 * K 0 3 - (10 * (x + 1) + (x + 1) + 1) = 0 by omega]
          rfl
        · rw [show 10 * K 0 3 - (10 * x + K 0 3) = (10 * K 0 3 - (10 * (x + 1) + (x + 1) + 1)) + ((10 * (x + 1) + (x + 1) + 1) - (10 * x + K 0 3)) by omega, apS_skip _ _ _ _ (fun z h5 h6 => by
            by_cases h7 : z < 10 * (x + 1)
            · exact wayB_hi (by omega) (by omega)
            · exact wayB_lo (by omega) (by omega))]
          congr 3
          omega
      exact c_ap2_l h hg ho hK (by omega) hb hkh fu (x + 1) c (by omega) (by omega) (by omega)
theorem c_apart (h : CarC 15 K i) (hg : GuC g i) (ho : OkG K g) (hK : OkK K) (hn : 0 < K 0 3) (hb : b < 9) : fX2_apartAt (nI b) i = some (bvS K g b) := by
  have hm := hK.1
  unfold fX2_apartAt fX2_apartAt_14 bvS
  obtain ⟨fu, hfu, hfu2⟩ := fuel_g
  rw [hfu, c_fits0 hg ho hK, mz_b1]
  obtain ⟨d, hd⟩ : ∃ d, 10 * K 0 3 = d + 1 := ⟨10 * K 0 3 - 1, by omega⟩
  have e0 := c_ap1_l (b := b) h hg ho hK hb fu 0 0 (by omega) (by omega) (fun _ => hn)
  have e1 := c_ap1_l (b := b) h hg ho hK hb fu 0 1 (by omega) (by omega) (fun _ => hn)
  rw [show 10 * K 0 3 - (10 * 0 + 0 + 1) = d by omega] at e0 e1
  rw [hd, apS, if_neg (show ¬ (0 ≠ 0 ∧ (0 / 10 = b ∨ 0 % 10 = b)) from fun e => e.1 rfl)]
  by_cases h1 : wayB K g 0 = true
  · rw [if_pos h1, if_neg (show ¬ (1 : Int32) = 0 by decide)]; try rw [if_pos h1]
    exact e1
  · rw [if_neg h1, if_pos (show (0 : Int32) = 0 from rfl)]; try rw [if_neg h1]
    exact e0
theorem c_best_l (h : CarC 15 K i) (hg : GuC g i) (ho : OkG K g) (hK : OkK K) (hn : 0 < K 0 3) : ∀ n b x1 x2, b ≤ K 0 3 → K 0 3 - b < n → fX2_bestBerth_16 n x1 x2 (nI b) i = some (bst (bvS K g) (K 0 3 - b) b x1 x2) := by
  have hm := hK.1
  intro n
  induction n with
  | zero => intro b x1 x2 h1 h2; omega
  | succ n ih =>
    intro b x1 x2 h1 h2
    rw [fX2_bestBerth_16]
    unfold fX1_sleepers fX2_bestBerth_45 fX2_bestBerth_50
    rw [h.1, mz_b1]
    by_cases h3 : b = K 0 3
    · rw [if_pos (nI_le (by omega) (by omega)), show K 0 3 - b = 0 by omega, bst]
    · obtain ⟨d, hd⟩ : ∃ d, K 0 3 - b = d + 1 := ⟨K 0 3 - b - 1, by omega⟩
      rw [if_neg (nI_ge (by omega) (by omega)), c_apart h hg ho hK hn (by omega), mz_b1, nI_1, hd, bst, ih (b + 1) _ _ (by omega) (by omega), ih (b + 1) _ _ (by omega) (by omega), show K 0 3 - (b + 1) = d by omega]
      show (if x1 = NN then _ else _) = _
      by_cases h4 : x1 = NN
      · rw [if_pos h4, if_pos h4]
      · rw [if_neg h4, if_neg h4]
        by_cases h5 : bvS K g b < x2
        · rw [if_neg (Int32.not_le.mpr h5), if_pos h5]
        · rw [if_neg h5, if_pos (Int32.not_lt.mp h5)]
/-- 30: best -/
theorem R_best (h : CarC 15 K i) (h' : CarM K j) (hg : GuC g i) (hg' : GuM g j) (ho : OkG K g) (hK : OkK K) : ∃ v, fX11_best i = some v ∧ ∃ j', fX12_best j = some (v, j') ∧ Fr [50] j j' ∧ F5 [0] j j' := by
  have hm := hK.1
  have hw0 : CarM K (u2 j 50 0 0) := m_car0 h' (by omega)
  have hw00 : CarM K (u2 (u2 j 50 0 0) 50 0 0) := m_car0 hw0 (by omega)
  have hg0 : GuM g (u2 j 50 0 0) := GuM_f hg' (fun q h1 h2 => u2r _ _ _ _ _ (by omega)) (u2n _ _ _ _ _ (by omega)) (u2n _ _ _ _ _ (by omega))
  have hg00 : GuM g (u2 (u2 j 50 0 0) 50 0 0) := GuM_f hg0 (fun q h1 h2 => u2r _ _ _ _ _ (by omega)) (u2n _ _ _ _ _ (by omega)) (u2n _ _ _ _ _ (by omega))
  have fr0 : Fr [50] j (u2 j 50 0 0) := Fr_u
  have f50 : F5 [0] j (u2 j 50 0 0) := F5_u
  have fr1 : Fr [50] j (u2 (u2 j 50 0 0) 50 0 0) := Fr_t fr0 Fr_u
  have f51 : F5 [0] j (u2 (u2 j 50 0 0) 50 0 0) := F5_t f50 F5_u
  obtain ⟨v, p1, p2⟩ := R_fit h hw0 hg hg0 ho hK (-1)
  have p3 : fX2_fitting (-1) i = some (srch (wayB K g) wayV (-1) (10 * K 0 3) 0 0) ∨ K 0 3 = 0 := by
    rcases Nat.eq_zero_or_pos (K 0 3) with e | e
    · exact Or.inr e
    · exact Or.inl (c_fitting h hg ho hK e)
  unfold fX11_fit fX11_noCar fX1_sleepers at p1
  unfold fX11_best fX12_best fX11_noCar fX1_sleepers fX2_bestBerth
  obtain ⟨fu, hfu, hfu2⟩ := fuel_g
  rw [hfu]
  simp only [mz_lt]
  rw [h.1, mz_b1, u2n _ _ _ _ _ (show 26 ≠ 0 by omega), h'.1]
  rw [h.1, mz_b1] at p1
  by_cases h0 : K 0 3 = 0
  · rw [if_pos (show nI (K 0 3) = 0 by rw [h0]; rfl), if_pos (show nI (K 0 3) = 0 by rw [h0]; rfl), mz_b1, if_neg (by decide)]
    exact ⟨_, rfl, _, rfl, fr0, f50⟩
  · have hne : ¬ nI (K 0 3) = 0 := by rw [q0, nI_eq (by omega) (by omega)]; exact h0
    rcases p3 with p3 | p3
    · rw [if_neg hne, mz_b1, if_pos rfl, p3, mz_b1] at p1
      rw [if_neg hne, if_neg hne, mz_b1, if_pos rfl, p3, mz_b1, p2, mz_b2]
      have e : srch (wayB K g) wayV (-1) (10 * K 0 3) 0 0 = v := Option.some.inj p1
      rw [e]
      by_cases h1 : v = 0
      · rw [if_pos h1, if_pos h1, mz_b1]
        exact ⟨_, rfl, _, rfl, fr1, f51⟩
      · have k1 := c_best_l h hg ho hK (by omega) fu 0 NN 0 (by omega) (by omega)
        have k2 := m_best hw00 hg00 ho hK (by omega) fu 0 NN 0 (by omega) (by omega)
        rw [if_neg h1, if_neg h1]
        refine ⟨_, ?_, _, k2, fr1, f51⟩
        show bn1 (fX2_bestBerth_16 fu NN 0 (nI 0) i) _ = _
        rw [k1, mz_b1]
    · exact absurd p3 h0
theorem bc_some (x : Int32) : fJ6_bitCount_0f7a4 x = some ((fJ6_bitCount_0f7a4 x).getD 0) := by
  unfold fJ6_bitCount_0f7a4
  simp only [mz_lt]
  rfl
/-- a set of children that, awake, make a1 heads -/
def hdP (K : Nat → Nat → Nat) (a1 : Int32) (ch s : Nat) : Bool := decide (s &&& ch = s) && decide (nI (K 0 5) + (fJ6_bitCount_0f7a4 (nI s)).getD 0 = a1)
def chS (K : Nat → Nat → Nat) (n : Nat) : Nat := orTo (fun p => if sv K p 5 = 0 then 0 else 2 ^ p) n
theorem chS_lt {n : Nat} (h : n ≤ m) : chS K n < 2 ^ m := by
  apply orTo_lt
  intro z hz
  split
  · exact Nat.two_pow_pos m
  · exact Nat.pow_lt_pow_right (by omega) (by omega)
theorem m_heads_l (h' : CarM K j) (hc : c < 2 ^ 9) : ∀ n s q, s ≤ c + 1 → c + 1 - s < n → q ≤ s → fX12_heads_77 n a1 a2 (nI c) (nI q) (nI s) j = some (srch (hdP K a1 c) nI a2 (c + 1 - s) s q, j) := by
  intro n
  induction n with
  | zero => intro s q h1 h2; omega
  | succ n ih =>
    intro s q h1 h2 h3
    rw [fX12_heads_77]
    unfold fX12_heads_121
    rw [nI_1, nI_1, h'.2.2.1]
    by_cases h4 : s = c + 1
    · rw [if_pos (show nI c < nI s by rw [mz_ltp (by omega) (by omega)]; omega), show c + 1 - s = 0 by omega, srch, qN1]
      split <;> rfl
    · obtain ⟨d, hd⟩ : ∃ d, c + 1 - s = d + 1 := ⟨c + 1 - s - 1, by omega⟩
      have e := ih (s + 1) q (by omega) (by omega) (by omega)
      have e' := ih (s + 1) (q + 1) (by omega) (by omega) (by omega)
      rw [show c + 1 - (s + 1) = d by omega] at e e'
      rw [if_neg (show ¬ nI c < nI s by rw [mz_ltp (by omega) (by omega)]; omega), bc_some, mz_b1, hd, srch]
      by_cases h5 : s &&& c = s
      · rw [if_pos ((mz_sset (by omega) (by omega)).mpr h5)]
        by_cases h6 : nI (K 0 5) + (fJ6_bitCount_0f7a4 (nI s)).getD 0 = a1
        · have hp : hdP K a1 c s = true := by unfold hdP; rw [decide_eq_true h5, decide_eq_true h6]; rfl
          rw [if_pos h6, if_pos hp]
          by_cases h7 : nI q = a2
          · rw [if_pos h7, if_pos h7]
          · rw [if_neg h7, if_neg h7, e']
        · have hp : hdP K a1 c s = false := by unfold hdP; rw [decide_eq_false h6, Bool.and_false]
          rw [if_neg h6, if_neg (by rw [hp]; decide), e]
      · have hp : hdP K a1 c s = false := by unfold hdP; rw [decide_eq_false h5]; rfl
        rw [if_neg (fun e2 => h5 ((mz_sset (by omega) (by omega)).mp e2)), if_neg (by rw [hp]; decide), e]
theorem c_heads_l (h : CarC 15 K i) (hm : K 0 3 ≤ 9) (hc : c < 2 ^ 9) : ∀ n s q, s ≤ 2 ^ K 0 3 → 2 ^ K 0 3 - s < n → q ≤ s → fX2_headSets_48 n a1 a2 (nI c) (nI q) (nI s) i = some (srch (hdP K a1 c) nI a2 (2 ^ K 0 3 - s) s q) := by
  have hp2 : 2 ^ K 0 3 ≤ 2 ^ 9 := Nat.pow_le_pow_right (by omega) hm
  intro n
  induction n with
  | zero => intro s q h1 h2; omega
  | succ n ih =>
    intro s q h1 h2 h3
    rw [fX2_headSets_48]
    unfold fX2_headSets_100 fX1_sleepers fX1_papers
    rw [nI_1, nI_1, h.1, h.2.2.1, mz_b1, mz_b1, mz_1l _ (by omega)]
    by_cases h4 : s = 2 ^ K 0 3
    · rw [if_pos (nI_le (by omega) (by omega)), show 2 ^ K 0 3 - s = 0 by omega, srch, qN1]
      split <;> rfl
    · obtain ⟨d, hd⟩ : ∃ d, 2 ^ K 0 3 - s = d + 1 := ⟨2 ^ K 0 3 - s - 1, by omega⟩
      have e := ih (s + 1) q (by omega) (by omega) (by omega)
      have e' := ih (s + 1) (q + 1) (by omega) (by omega) (by omega)
      rw [show 2 ^ K 0 3 - (s + 1) = d by omega] at e e'
      rw [if_neg (nI_ge (by omega) (by omega)), bc_some, mz_b1, hd, srch]
      by_cases h5 : s &&& c = s
      · rw [if_pos ((mz_sset (by omega) (by omega)).mpr h5)]
        by_cases h6 : nI (K 0 5) + (fJ6_bitCount_0f7a4 (nI s)).getD 0 = a1
        · have hp : hdP K a1 c s = true := by unfold hdP; rw [decide_eq_true h5, decide_eq_true h6]; rfl
          rw [if_pos h6, if_pos hp]
          by_cases h7 : nI q = a2
          · rw [if_pos h7, if_pos h7]
          · rw [if_neg h7, if_neg h7, e']
        · have hp : hdP K a1 c s = false := by unfold hdP; rw [decide_eq_false h6, Bool.and_false]
          rw [if_neg h6, if_neg (by rw [hp]; decide), e]
      · have hp : hdP K a1 c s = false := by unfold hdP; rw [decide_eq_false h5]; rfl
        rw [if_neg (fun e2 => h5 ((mz_sset (by omega) (by omega)).mp e2)), if_neg (by rw [hp]; decide), e]
theorem chS_s : chS K (p + 1) = chS K p ||| (if sv K p 5 = 0 then 0 else 2 ^ p) := rfl
theorem c_heads1 (h : CarC 15 K i) (hK : OkK K) : ∀ n p, p ≤ K 0 3 → K 0 3 - p < n → fX2_headSets_5 n a1 a2 (nI (chS K p)) (nI p) i = some (srch (hdP K a1 (chS K (K 0 3))) nI a2 (2 ^ K 0 3) 0 0) := by
  have hm := hK.1
  intro n
  induction n with
  | zero => intro p h1 h2; omega
  | succ n ih =>
    intro p h1 h2
    rw [fX2_headSets_5]
    unfold fX1_sleepers fX2_headSets_36
    rw [h.1, mz_b1]
    by_cases h3 : p = K 0 3
    · obtain ⟨fu, hfu, hfu2⟩ := fuel_g
      have hp2 : 2 ^ K 0 3 ≤ 2 ^ 9 := Nat.pow_le_pow_right (by omega) hm
      rw [if_pos (nI_le (by omega) (by omega)), hfu, h3]
      exact c_heads_l h hm (chS_lt hm) fu 0 0 (Nat.zero_le _) (by omega) (by omega)
    · rw [if_neg (nI_ge (by omega) (by omega)), c_hasPaper h hK (by omega), mz_b1, mz_lt, mz_1l _ (by omega), mz_or, nI_1]
      have e := ih (p + 1) (by omega) (by omega)
      rw [chS_s] at e
      by_cases h4 : sv K p 5 = 0
      · rw [if_pos h4, Nat.or_zero] at e
        rw [if_pos h4, if_neg (by decide), e]
      · rw [if_neg h4] at e
        rw [if_neg h4, if_pos rfl, e]
theorem m_heads1 (h' : CarM K j) (hK : OkK K) : ∀ n p, p ≤ K 0 3 → K 0 3 - p < n → fX12_heads_36 n a1 a2 (nI (chS K p)) (nI p) j = some (srch (hdP K a1 (chS K (K 0 3))) nI a2 (chS K (K 0 3) + 1) 0 0, j) := by
  have hm := hK.1
  intro n
  induction n with
  | zero => intro p h1 h2; omega
  | succ n ih =>
    intro p h1 h2
    rw [fX12_heads_36]
    unfold fX12_heads_63
    rw [h'.1]
    by_cases h3 : p = K 0 3
    · obtain ⟨fu, hfu, hfu2⟩ := fuel_g
      have := chS_lt (K := K) (n := K 0 3) hm
      rw [if_pos (nI_le (by omega) (by omega)), hfu, h3]
      exact m_heads_l h' (by omega) fu 0 0 (by omega) (by omega) (by omega)
    · have h1c := hK.2.2.2.2.2.2.2.2.2.2.1 p (by omega)
      rw [if_neg (nI_ge (by omega) (by omega)), m_isChild h' hK (by omega), mz_b1, mz_1l _ (by omega), mz_or, nI_1, show nI (chS K p) ||| 0 = nI (chS K p) from Int32.or_zero]
      have e := ih (p + 1) (by omega) (by omega)
      rw [chS_s] at e
      by_cases h4 : sv K p 5 = 0
      · rw [if_pos h4, Nat.or_zero] at e
        rw [if_pos (show nI (sv K p 5) = 0 by rw [h4]; rfl), e]
      · rw [if_neg h4] at e
        rw [if_neg (show ¬ nI (sv K p 5) = 0 by rw [q0, nI_eq (by omega) (by omega)]; exact h4), e]
/-- 31: heads -/
theorem R_heads (h : CarC 15 K i) (h' : CarM K j) (hK : OkK K) (a1 a2 : Int32) : ∃ v, fX11_heads a1 a2 i = some v ∧ fX12_heads a1 a2 j = some (v, u2 j 50 0 0) := by
  have hm := hK.1
  have hw0 : CarM K (u2 j 50 0 0) := m_car0 h' (by omega)
  have hi := mz_isIn a1 0 9
  unfold fX11_heads fX12_heads fX11_noCar fX1_sleepers fX2_headSets
  obtain ⟨fu, hfu, hfu2⟩ := fuel_g
  rw [hfu]
  simp only [mz_lt]
  rw [h.1, mz_b1, u2n _ _ _ _ _ (show 26 ≠ 0 by omega), h'.1, show fX12_isIn a1.toInt64 0 9 = some (if 0 ≤ a1 ∧ a1 ≤ 9 then 1 else 0) from hi, mz_b1]
  by_cases h0 : K 0 3 = 0
  · rw [if_pos (show nI (K 0 3) = 0 by rw [h0]; rfl), if_pos (show nI (K 0 3) = 0 by rw [h0]; rfl), mz_b1, if_neg (by decide)]
    exact ⟨_, rfl, rfl⟩
  · have hne : ¬ nI (K 0 3) = 0 := by rw [q0, nI_eq (by omega) (by omega)]; exact h0
    rw [if_neg hne, if_neg hne, mz_b1, if_pos rfl]
    by_cases h1 : a1 < 0
    · rw [if_pos h1, if_neg (show ¬ (0 ≤ a1 ∧ a1 ≤ 9) from fun e => absurd h1 (Int32.not_lt.mpr e.1)), if_pos rfl]
      exact ⟨_, rfl, rfl⟩
    · rw [if_neg h1]
      by_cases h2 : a1 ≤ 9
      · have k1 := c_heads1 (a1 := a1) (a2 := a2) h hK fu 0 (by omega) (by omega)
        have k2 := m_heads1 (a1 := a1) (a2 := a2) hw0 hK fu 0 (by omega) (by omega)
        have hlt := chS_lt (K := K) (n := K 0 3) (m := K 0 3) (Nat.le_refl _)
        have hp2 : 2 ^ K 0 3 ≤ 2 ^ 9 := Nat.pow_le_pow_right (by omega) hm
        rw [if_pos h2, if_pos (show 0 ≤ a1 ∧ a1 ≤ 9 from ⟨Int32.not_lt.mp h1, h2⟩), if_neg (show ¬ (1 : Int32) = 0 by decide)]
        have e1 : srch (hdP K a1 (chS K (K 0 3))) nI a2 (2 ^ K 0 3) 0 0 = srch (hdP K a1 (chS K (K 0 3))) nI a2 (chS K (K 0 3) + 1) 0 0 := by
          generalize hC : chS K (K 0 3) = C at *
          have hs : ∀ (D w c : Nat), w + D = 2 ^ K 0 3 → w ≤ C + 1 → srch (hdP K a1 C) nI a2 D w c = srch (hdP K a1 C) nI a2 (C + 1 - w) w c := by
            intro D
            induction D with
            | zero =>
              intro w c e1 e2
              rw [show C + 1 - w = 0 by omega]
            | succ D ihD =>
              intro w c e1 e2
              by_cases hw : w = C + 1
              · rw [show D + 1 = 0 + (D + 1) by omega, srch_skip _ _ _ _ (fun z z1 z2 => by
                  unfold hdP
                  rw [decide_eq_false (fun e => by have : z &&& C ≤ C := Nat.and_le_right; omega)]
                  rfl), show C + 1 - w = 0 by omega]
                rfl
              · obtain ⟨d, hd⟩ : ∃ d, C + 1 - w = d + 1 := ⟨C + 1 - w - 1, by omega⟩
                rw [hd, srch, srch, ihD (w + 1) c (by omega) (by omega), ihD (w + 1) (c + 1) (by omega) (by omega), show C + 1 - (w + 1) = d by omega]
          exact hs (2 ^ K 0 3) 0 0 (by omega) (by omega)
        have k1' : fX2_headSets_5 fu a1 a2 0 0 i = _ := k1
        have k2' : fX12_heads_36 fu a1 a2 0 0 (u2 j 50 0 0) = _ := k2
        rw [k1', k2', mz_b1, e1]
        by_cases h3 : (-1 : Int32) ≤ a2
        · rw [if_pos h3]
          exact ⟨_, rfl, rfl⟩
        · rw [if_neg h3, srch_neg (Int32.not_le.mp h3) _ _ _ (by omega)]
          exact ⟨_, rfl, rfl⟩
      · rw [if_neg h2, if_neg (show ¬ (0 ≤ a1 ∧ a1 ≤ 9) from fun e => h2 e.2), if_pos rfl]
        exact ⟨_, rfl, rfl⟩
end BS
