/-! rests, which, sleeper -/
section RS
variable {i i' i1 i2 i3 j j' j1 j2 : Tb} {rv rv' rv1 rv2 : Nat → Nat → Option Nat} {W : Option ((Nat → Nat) → Int)} {K g : Nat → Nat → Nat} {σ τ σ' ρ : Nat → Nat} {q p o k b b' t w v n n' r z c s x a m y : Nat} {a3 : Int32}
def oHas (m x y : Nat) : Int32 := (((3 : Int32) * nI m) * nI x + nI m * nI y) - (((2 : Int32) * nI m) * nI x) * nI y
theorem one_sub (hx : x ≤ 1) : (1 : Int32) - nI x = nI (1 - x) := by rw [q1, mz_sub hx]
/-- one of the four -/
theorem R_rest1 (hK : OkK K) (hb : OkS K b σ) (hb2 : b < 100000) (h : WC K W σ i rv) (h' : WM K W σ j) (ho : o < K 0 4) (hx : x ≤ 1) (hy : y ≤ 1) (hm9 : m ≤ 9) (hc : c ≤ 3) {kh : Int32 → Int32 → Int32 → Int32 → Int32 → (Nat → Nat → Int32) → (Nat → Nat → Option Nat) → Option ((Int32) × (Nat → Nat → Int32))} (f1 : FrL [24] rv i i1) (f2 : Fr [50, 54] j j1) (f3 : F5 (0 :: l17) j j1) (f4 : RvM rv' rv1) :
    ∃ i2 j2 rv2, FrL [24] rv i i2 ∧ Fr [50, 54] j j2 ∧ F5 (0 :: l17) j j2 ∧ RvM rv' rv2 ∧ ((∃ v, fX11_rests_39 kh (n + 1) (nI o) (nI m) a3 (nI c) (nI x) (nI y) i1 rv = some (v, i2) ∧ fX12_rests_38 (n' + 1) (nI o) (nI m) a3 (nI c) (nI (2 * x + y)) j1 rv1 = some (v, j2, rv2) ∧ ¬ a3 < NN) ∨ ∃ c', c' ≤ c + 1 ∧ fX11_rests_39 kh (n + 1) (nI o) (nI m) a3 (nI c) (nI x) (nI y) i1 rv = fX11_rests_39 kh n (nI o) (nI m) a3 (nI c') (nI x) (nI (y + 1)) i2 rv ∧ fX12_rests_38 (n' + 1) (nI o) (nI m) a3 (nI c) (nI (2 * x + y)) j1 rv1 = fX12_rests_38 n' (nI o) (nI m) a3 (nI c') (nI (2 * x + y + 1)) j2 rv2) := by
  have hw := WC_f h f1 (by decide)
  have hw' := WMx_f h' f2 f3
  obtain ⟨i2, p1, p2⟩ := C_house (x := x) (y := y) hK hb hb2 hw ho hx hy hm9
  have g1 := FrL_t f1 p2
  obtain ⟨i3, p3, p4⟩ := C_house (x := 1 - x) (y := y) hK hb hb2 (WC_f h g1 (by decide)) ho (by omega) hy hm9
  have g2 := FrL_t g1 p4
  obtain ⟨j2, rv2, s1, s2, s3, s4⟩ := M_house (rv' := rv1) (x := 1 - x) (y := y) hK hb hb2 hw' ho (by omega) hy hm9
  have t1 := Fr_t f2 s2
  have t2 := F5_t f3 s3
  have t3 := RvM_t f4 s4
  obtain ⟨j3, rv3, s5, s6, s7, s8⟩ := M_house (rv' := rv2) (x := x) (y := y) hK hb hb2 (WMx_f h' t1 t2) ho hx hy hm9
  have t4 := Fr_t t1 s6
  have t5 := F5_t t2 s7
  have t6 := RvM_t t3 s8
  refine ⟨i3, j3, rv3, g2, t4, t5, t6, ?_⟩
  rw [fX11_rests_39, fX12_rests_38]
  simp only [mz_lt]
  have e1 : nI (2 * x + y) / 2 = nI x := by
    rw [q2, mz_div (by omega) (by omega)]
    congr 1
    omega
  have e2 : nI (2 * x + y) - nI x * 2 = nI y := by
    rw [q2, mz_mul, mz_sub (by omega)]
    congr 1
    omega
  rw [if_neg (show ¬ (1 : Int32) < nI y from nI_nlt (a := 1) (b := y) (by omega) (by omega)), if_neg (show ¬ (4 : Int32) ≤ nI (2 * x + y) from nI_ge (a := 2 * x + y) (b := 4) (by omega) (by omega)), p1, mz_b2, one_sub hx, p3, mz_b2, e1, e2, one_sub hx, s1, mz_b3, s5, mz_b3, one_sub hy]
  simp only [fX11_rests_75, fX11_rests_121, fX12_rests_131, fX11_officerHas, fX12_favourOf, if_true, mz_b1, mz_b3, nI_1, one_sub hy]
  by_cases hA : zI (hHas K W σ o m x y) < zI (hHas K W σ o m (1 - x) y)
  · rw [if_pos hA, if_pos hA]
    exact Or.inr ⟨c, by omega, rfl, rfl⟩
  · rw [if_neg hA, if_neg hA, if_neg (by decide)]
    by_cases hB : (3 * nI m * nI x + nI m * nI y - 2 * nI m * nI x * nI y) < (3 * nI m * nI x + nI m * nI (1 - y) - 2 * nI m * nI x * nI (1 - y))
    · rw [if_pos hB, if_neg (Int32.not_le.mpr hB)]
      exact Or.inr ⟨c, by omega, rfl, rfl⟩
    · rw [if_neg hB, if_pos (Int32.not_lt.mp hB)]
      by_cases hC : nI c = a3
      · rw [if_pos hC, if_pos hC]
        refine Or.inl ⟨_, rfl, rfl, fun e => ?_⟩
        rw [← hC, mz_nl (by omega)] at e
        exact e
      · rw [if_neg hC, if_neg hC]
        exact Or.inr ⟨c + 1, by omega, rfl, rfl⟩
theorem R_rests_l (hK : OkK K) (hb : OkS K b σ) (hb2 : b < 100000) (h : WC K W σ i rv) (h' : WM K W σ j) (ho : o < K 0 4) (hm9 : m ≤ 9) (n n' n3 : Nat) (f2 : Fr [50, 54] j j1) (f3 : F5 (0 :: l17) j j1) (hfu : fuel = n' + 4) :
    ∃ v i2 j2 rv2, fX11_rests_30 (n + 3) (nI o) (nI m) a3 (nI 0) (nI 0) i rv = some (v, i2) ∧ fX12_rests_38 (n3 + 5) (nI o) (nI m) a3 (nI 0) (nI 0) j1 rv' = some (v, j2, rv2) ∧ FrL [24] rv i i2 ∧ Fr [50, 54] j j2 ∧ F5 (0 :: l17) j j2 ∧ RvM rv' rv2 ∧ (a3 < NN → v = NN) := by
  rw [fX11_rests_30, if_neg (show ¬ (1 : Int32) < nI 0 by decide), hfu]
  obtain ⟨i2, j2, rv2, g1, g2, g3, g4, hh⟩ := R_rest1 (x := 0) (y := 0) (c := 0) (a3 := a3) (n := n' + 3) (n' := n3 + 4) (kh := fX11_rests_30 (n + 2)) (rv' := rv') (rv1 := rv') hK hb hb2 h h' ho (by omega) (by omega) hm9 (by omega) (FrL_f (Fr_r _ _)) f2 f3 (Or.inl rfl)
  rcases hh with ⟨v, e1, e2, e3⟩ | ⟨c1, hc1, e1, e2⟩
  · exact ⟨v, i2, j2, rv2, e1, e2, g1, g2, g3, g4, fun e => absurd e e3⟩
  obtain ⟨i3, j3, rv3, k1, k2, k3, k4, hh⟩ := R_rest1 (x := 0) (y := 1) (c := c1) (a3 := a3) (n := n' + 2) (n' := n3 + 3) (kh := fX11_rests_30 (n + 2)) hK hb hb2 h h' ho (by omega) (by omega) hm9 (by omega) g1 g2 g3 g4
  rcases hh with ⟨v, e3, e4, e5⟩ | ⟨c2, hc2, e3, e4⟩
  · exact ⟨v, i3, j3, rv3, e1.trans e3, e2.trans e4, k1, k2, k3, k4, fun e => absurd e e5⟩
  have e5 : fX11_rests_39 (fX11_rests_30 (n + 2)) (n' + 2) (nI o) (nI m) a3 (nI c2) (nI 0) (nI (1 + 1)) i3 rv = fX11_rests_39 (fX11_rests_30 (n + 1)) (n' + 4) (nI o) (nI m) a3 (nI c2) (nI 1) (nI 0) i3 rv := by
    rw [fX11_rests_39, if_pos (show (1 : Int32) < nI (1 + 1) by decide), nI_1, fX11_rests_30, if_neg (show ¬ (1 : Int32) < nI (0 + 1) by decide), hfu]
    rfl
  obtain ⟨i4, j4, rv4, l1, l2, l3, l4, hh⟩ := R_rest1 (x := 1) (y := 0) (c := c2) (a3 := a3) (n := n' + 3) (n' := n3 + 2) (kh := fX11_rests_30 (n + 1)) hK hb hb2 h h' ho (by omega) (by omega) hm9 (by omega) k1 k2 k3 k4
  rcases hh with ⟨v, e6, e7, e8⟩ | ⟨c3, hc3, e6, e7⟩
  · exact ⟨v, i4, j4, rv4, (e1.trans e3).trans (e5.trans e6), (e2.trans e4).trans e7, l1, l2, l3, l4, fun e => absurd e e8⟩
  obtain ⟨i5, j5, rv5, m1, m2, m3, m4, hh⟩ := R_rest1 (x := 1) (y := 1) (c := c3) (a3 := a3) (n := n' + 2) (n' := n3 + 1) (kh := fX11_rests_30 (n + 1)) hK hb hb2 h h' ho (by omega) (by omega) hm9 (by omega) l1 l2 l3 l4
  rcases hh with ⟨v, e9, e10, e11⟩ | ⟨c4, hc4, e9, e10⟩
  · exact ⟨v, i5, j5, rv5, (e1.trans e3).trans (e5.trans (e6.trans e9)), ((e2.trans e4).trans e7).trans e10, m1, m2, m3, m4, fun e => absurd e e11⟩
  have e12 : fX11_rests_39 (fX11_rests_30 (n + 1)) (n' + 2) (nI o) (nI m) a3 (nI c4) (nI 1) (nI (1 + 1)) i5 rv = if a3 = -1 then some (nI c4, i5) else some (-1, i5) := by
    rw [fX11_rests_39, if_pos (show (1 : Int32) < nI (1 + 1) by decide), nI_1, fX11_rests_30, if_pos (show (1 : Int32) < nI (1 + 1) by decide)]
  have e13 : fX12_rests_38 (n3 + 1) (nI o) (nI m) a3 (nI c4) (nI (2 * 1 + 1 + 1)) j5 rv5 = if a3 = -1 then some (nI c4, j5, rv5) else some (-1, j5, rv5) := by
    rw [fX12_rests_38, if_pos (show (4 : Int32) ≤ nI (2 * 1 + 1 + 1) by decide)]
  have a1 := (e1.trans e3).trans (e5.trans (e6.trans (e9.trans e12)))
  have a2 := (((e2.trans e4).trans e7).trans e10).trans e13
  by_cases h3 : a3 = -1
  · rw [if_pos h3] at a1 a2
    exact ⟨_, _, _, _, a1, a2, m1, m2, m3, m4, fun e => by
      rw [h3] at e
      exact absurd e (show ¬ (-1 : Int32) < NN by decide)⟩
  · rw [if_neg h3] at a1 a2
    exact ⟨_, _, _, _, a1, a2, m1, m2, m3, m4, fun _ => rfl⟩
/-- 35: rests -/
theorem R_rests (hK : OkK K) (hb : OkS K b σ) (hb2 : b < 100000) (h : WC K W σ i rv) (h' : WM K W σ j) (a1 a2 a3 : Int32) : ∃ v i' j' rv2, fX11_rests a1 a2 a3 i rv = some (v, i') ∧ fX12_rests a1 a2 a3 j rv' = some (v, j', rv2) ∧ FrL [24] rv i i' ∧ Fr [50, 54] j j' ∧ F5 (0 :: l17) j j' ∧ RvM rv' rv2 := by
  have hm4 := hK.2.1
  have fr0 : Fr [50, 54] j (u2 j 50 0 0) := Fr_w (by decide) Fr_u
  have f50 : F5 (0 :: l17) j (u2 j 50 0 0) := F5_w (by decide) F5_u
  have h0 := WM_0 (v' := 0) h'
  have n1 : ¬ (1 : Int32) = 0 := by decide
  unfold fX11_rests fX12_rests
  simp only [mz_lt]
  rcases mz_cases a1 with c1 | ⟨o, ho, rfl⟩
  · rw [c_hasOfficer0 c1, m_isOfficer0 c1]
    exact ⟨_, _, _, _, rfl, rfl, FrL_f (Fr_r _ _), fr0, f50, Or.inl rfl⟩
  rw [c_hasOfficer h.1 hK ho, m_isOfficer h0.1 hK ho, mz_b1, mz_b1]
  by_cases h1 : o < K 0 4
  · rw [if_pos h1, if_neg n1, if_neg n1]
    rcases mz_cases a2 with c2 | ⟨m, hm, rfl⟩
    · have e2 : a2 < 1 := by
        have h1 := Int32.lt_iff_toInt_lt.mp c2
        apply Int32.lt_iff_toInt_lt.mpr
        have h2 : (nI 0).toInt = 0 := by decide +kernel
        have h3 : (1 : Int32).toInt = 1 := by decide +kernel
        omega
      rw [if_pos e2, L1, mz_isG (by omega) c2]
      exact ⟨_, _, _, _, rfl, rfl, FrL_f (Fr_r _ _), fr0, f50, Or.inl rfl⟩
    · rw [L1, L9, mz_isN (by omega) (by omega) (by omega), mz_b1]
      by_cases h2 : 1 ≤ m ∧ m ≤ 9
      · rw [if_neg (show ¬ nI m < 1 from nI_nlt (a := m) (b := 1) (by omega) (by omega)), if_pos (show nI m ≤ 9 from nI_le (a := m) (b := 9) (by omega) (by omega)), if_neg (show ¬ (if 1 ≤ m ∧ m ≤ 9 then (1 : Int32) else 0) = 0 from by rw [if_pos h2]; decide)]
        obtain ⟨n', hn', _⟩ : ∃ n', fuel = n' + 4 ∧ 29000 ≤ n' := ⟨29996, rfl, by omega⟩
        obtain ⟨n3, hn3⟩ : ∃ n3, n' + 4 = n3 + 5 := ⟨n' - 1, by omega⟩
        obtain ⟨n2, hn2⟩ : ∃ n2, n' + 4 = n2 + 3 := ⟨n' + 1, by omega⟩
        obtain ⟨v, i2, j2, rv2, k1, k2, k3, k4, k5, k6, k7⟩ := R_rests_l (a3 := a3) (rv' := rv') hK hb hb2 h h' h1 h2.2 n2 n' n3 fr0 f50 hn'
        rw [← hn2, ← hn', ← q0] at k1
        rw [← hn3, ← hn', ← q0] at k2
        by_cases h5 : (-1 : Int32) ≤ a3
        · rw [if_pos h5]
          exact ⟨v, i2, j2, rv2, k1, k2, k3, k4, k5, k6⟩
        · rw [if_neg h5]
          have := k7 (Int32.not_le.mp h5)
          subst this
          exact ⟨_, i2, _, _, k1, rfl, k3, fr0, f50, Or.inl rfl⟩
      · rw [if_pos (show (if 1 ≤ m ∧ m ≤ 9 then (1 : Int32) else 0) = 0 from if_neg h2)]
        by_cases h4 : m < 1
        · rw [if_pos (show nI m < 1 from nI_lt (a := m) (b := 1) h4 (by omega))]
          exact ⟨_, _, _, _, rfl, rfl, FrL_f (Fr_r _ _), fr0, f50, Or.inl rfl⟩
        · rw [if_neg (show ¬ nI m < 1 from nI_nlt (a := m) (b := 1) (by omega) (by omega)), if_neg (show ¬ nI m ≤ 9 from nI_ge (a := 9) (b := m) (by omega) (by omega))]
          exact ⟨_, _, _, _, rfl, rfl, FrL_f (Fr_r _ _), fr0, f50, Or.inl rfl⟩
  · rw [if_neg h1]
    exact ⟨_, _, _, _, rfl, rfl, FrL_f (Fr_r _ _), fr0, f50, Or.inl rfl⟩
/-! which -/
/-- who is asleep, with a paper -/
def aslS (K : Nat → Nat → Nat) (σ : Nat → Nat) : Nat := orTo (fun p => if sv K p 5 = 0 then (if σ (27 + p) = 1 then 2 ^ p else 0) else 0) (K 0 3)
theorem aslS_lt (hK : OkK K) (x : Nat) (hx : x ≤ K 0 3) : orTo (fun p => if sv K p 5 = 0 then (if σ (27 + p) = 1 then 2 ^ p else 0) else 0) x < 2 ^ 9 := by
  have hm := hK.1
  refine orTo_lt (fun z hz => ?_)
  show (if _ then _ else _) < _
  split
  · split
    · exact Nat.pow_lt_pow_right (by omega) (by omega)
    · omega
  · omega
theorem aslP_lt (hK : OkK K) (hb : OkS K b σ) (x : Nat) (hx : x ≤ K 0 5) : orTo (fun q => if σ (27 + σ (9 + q)) = 1 then 2 ^ σ (9 + q) else 0) x < 2 ^ 9 := by
  have hm := hK.1
  refine orTo_lt (fun z hz => ?_)
  have := OkS_dr hb z (by omega)
  show (if _ then _ else _) < _
  split
  · exact Nat.pow_lt_pow_right (by omega) (by omega)
  · omega
theorem asl_pap (hb : OkS K b σ) : orTo (fun q => if σ (27 + σ (9 + q)) = 1 then 2 ^ σ (9 + q) else 0) (K 0 5) = aslS K σ := or_pap hb (fun p => if σ (27 + p) = 1 then 2 ^ p else 0)
theorem c_which_p (hK : OkK K) (hb : OkS K b σ) (h : CarC 15 K i) (hs : ScC σ (i 20)) (ho : o < K 0 4) {kh : Int32 → Int32 → Int32 → (Nat → Nat → Int32) → Option ((Int32))} {a1 x2 : Int32} : ∀ n z, z ≤ K 0 5 → K 0 5 - z < n → fX2_officersWaking_21 kh n a1 x2 (nI o) (nI (if ov K o 1 = 1 then orTo (fun q => if σ (27 + σ (9 + q)) = 1 then 2 ^ σ (9 + q) else 0) z else 0)) (nI z) i = kh a1 (if nI (if ov K o 1 = 1 then aslS K σ else 0) = a1 then x2 ||| nI (2 ^ o) else x2) (nI (o + 1)) i := by
  have hm := hK.1
  have hm4 := hK.2.1
  have h5 := hK.2.2.1
  intro n
  induction n with
  | zero => intro z h1 h2; omega
  | succ n ih =>
    intro z h1 h2
    rw [fX2_officersWaking_21]
    unfold fX1_papers
    simp only [fX2_officersWaking_88, fX2_officersWaking_70, mz_lt]
    rw [h.2.2.1, mz_b1]
    by_cases h3 : z = K 0 5
    · subst h3
      rw [if_pos (nI_le (by omega) (by omega)), asl_pap hb, nI_1, mz_1l o (by omega)]
      generalize nI (if ov K o 1 = 1 then aslS K σ else 0) = gg
      by_cases hg : gg = a1
      · rw [if_pos hg, if_pos hg]
      · rw [if_neg hg, if_neg hg]
    · have hp := OkS_dr hb z (by omega)
      have ih' := ih (z + 1) (by omega) (by omega)
      rw [if_neg (nI_ge (by omega) (by omega)), s_inDrawer (q := 19) hs (by omega), mz_b1, c_wakes (q := 19) h hK hb hs hp ho, mz_b1, nI_1, mz_1l _ (by omega)]
      have e : orTo (fun q => if σ (27 + σ (9 + q)) = 1 then 2 ^ σ (9 + q) else 0) (z + 1) = orTo (fun q => if σ (27 + σ (9 + q)) = 1 then 2 ^ σ (9 + q) else 0) z ||| (if σ (27 + σ (9 + z)) = 1 then 2 ^ σ (9 + z) else 0) := rfl
      by_cases h4 : ov K o 1 = 1
      · rw [if_pos h4] at ih' ⊢
        by_cases h6 : σ (27 + σ (9 + z)) = 1
        · rw [if_pos h6] at e
          rw [if_neg (show ¬ (if ov K o 1 = 1 ∧ σ (27 + σ (9 + z)) = 1 then (1 : Int32) else 0) = 0 from by rw [if_pos ⟨h4, h6⟩]; decide), mz_or, ← e]
          exact ih'
        · rw [if_neg h6, Nat.or_zero] at e
          rw [if_pos (show (if ov K o 1 = 1 ∧ σ (27 + σ (9 + z)) = 1 then (1 : Int32) else 0) = 0 from if_neg (fun e => h6 e.2)), ← e]
          exact ih'
      · rw [if_neg h4] at ih' ⊢
        rw [if_pos (show (if ov K o 1 = 1 ∧ σ (27 + σ (9 + z)) = 1 then (1 : Int32) else 0) = 0 from if_neg (fun e => h4 e.1))]
        exact ih'
theorem which_l (hK : OkK K) (hb : OkS K b σ) (h : CarC 15 K i) (hs : ScC σ (i 20)) (h' : CarM K j) {a1 : Int32} : ∀ n o x, o ≤ K 0 4 → K 0 4 - o < n → ∃ v, fX2_officersWaking_4 n a1 x (nI o) i = some v ∧ fX12_which_84 n a1 (nI (aslS K σ)) x (nI o) j = some (v, j) := by
  have hm := hK.1
  have hm4 := hK.2.1
  have h5 := hK.2.2.1
  intro n
  induction n with
  | zero => intro o x h1 h2; omega
  | succ n ih =>
    intro o x h1 h2
    rw [fX2_officersWaking_4, fX12_which_84, h'.2.1]
    unfold fX1_officers
    rw [h.2.1, mz_b1]
    by_cases h3 : o = K 0 4
    · subst h3
      rw [if_pos (nI_le (by omega) (by omega)), if_pos (nI_le (by omega) (by omega))]
      exact ⟨_, rfl, rfl⟩
    · have ho : o < K 0 4 := by omega
      have hl := hK.2.2.2.2.2.2.2.2.2.2.2.2 o ho
      have e1 : j 59 (4 * o + 1) = nI (ov K o 1) := h'.2.2.2.2.2 _ (by omega)
      obtain ⟨fu, hfu, hfu2⟩ := fuel_g
      have k := c_which_p (a1 := a1) (x2 := x) (kh := fX2_officersWaking_4 n) hK hb h hs ho fu 0 (by omega) (by omega)
      have e0 : (if ov K o 1 = 1 then orTo (fun q => if σ (27 + σ (9 + q)) = 1 then 2 ^ σ (9 + q) else 0) 0 else 0) = 0 := by split <;> rfl
      rw [e0, ← q0] at k
      rw [if_neg (nI_ge (by omega) (by omega)), if_neg (nI_ge (by omega) (by omega)), hfu, k]
      simp only [fX12_which_115, fX12_which_126]
      rw [show 4 * nI o + 1 = nI (4 * o + 1) from by rw [q4, mz_mul, q1, nI_add], if_pos (mz_in (by omega) (by omega)), nI_clamp (by omega), e1, nI_1, mz_1l o (by omega)]
      by_cases h6 : ov K o 1 = 1
      · rw [if_pos h6, if_pos (show nI (ov K o 1) = 1 by rw [h6]; rfl)]
        by_cases h7 : nI (aslS K σ) = a1
        · rw [if_pos h7, if_pos h7.symm]
          exact ih (o + 1) _ (by omega) (by omega)
        · rw [if_neg h7, if_neg (fun e => h7 e.symm), show x ||| 0 = x from Int32.or_zero]
          exact ih (o + 1) _ (by omega) (by omega)
      · rw [if_neg h6, if_neg (show ¬ nI (ov K o 1) = 1 by rw [q1, nI_eq (by omega) (by omega)]; exact h6)]
        by_cases h7 : nI 0 = a1
        · rw [if_pos h7, if_pos (show a1 = 0 from h7.symm)]
          exact ih (o + 1) _ (by omega) (by omega)
        · rw [if_neg h7, if_neg (fun e : a1 = 0 => h7 e.symm), show x ||| 0 = x from Int32.or_zero]
          exact ih (o + 1) _ (by omega) (by omega)
theorem m_which_s (hK : OkK K) (hb : OkS K b σ) (h' : CarM K j) (hw : ScM K σ (j 63)) {a1 : Int32} : ∀ n z, z ≤ K 0 3 → K 0 3 - z < n → fX12_which_32 n a1 (nI (orTo (fun p => if sv K p 5 = 0 then (if σ (27 + p) = 1 then 2 ^ p else 0) else 0) z)) (nI z) j = fX12_which_84 fuel a1 (nI (aslS K σ)) 0 0 j := by
  have hm := hK.1
  intro n
  induction n with
  | zero => intro z h1 h2; omega
  | succ n ih =>
    intro z h1 h2
    rw [fX12_which_32, h'.1]
    by_cases h3 : z = K 0 3
    · subst h3
      rw [if_pos (nI_le (by omega) (by omega))]
      rfl
    · have hp : z < K 0 3 := by omega
      have hch := hK.2.2.2.2.2.2.2.2.2.2.1 z hp
      have ha := (hb.2.2.2.2.2.2.1 z (by omega)).1
      have ih' := ih (z + 1) (by omega) (by omega)
      have e : orTo (fun p => if sv K p 5 = 0 then (if σ (27 + p) = 1 then 2 ^ p else 0) else 0) (z + 1) = orTo (fun p => if sv K p 5 = 0 then (if σ (27 + p) = 1 then 2 ^ p else 0) else 0) z ||| (if sv K z 5 = 0 then (if σ (27 + z) = 1 then 2 ^ z else 0) else 0) := rfl
      simp only [fX12_which_70, fX12_which_71]
      rw [if_neg (nI_ge (by omega) (by omega)), m_isChild h' hK hp, mz_b1, show 6 * nI z + 3 = nI (6 * z + 3) from by rw [q6, mz_mul, q3, nI_add], if_pos (mz_in (by omega) (by omega)), nI_clamp (by omega), (hw.1 z hp).2.2.1, nI_1, mz_1l z (by omega), mz_or, show nI (orTo (fun p => if sv K p 5 = 0 then (if σ (27 + p) = 1 then 2 ^ p else 0) else 0) z) ||| 0 = nI (orTo (fun p => if sv K p 5 = 0 then (if σ (27 + p) = 1 then 2 ^ p else 0) else 0) z) from Int32.or_zero]
      by_cases h4 : sv K z 5 = 0
      · rw [if_pos h4] at e
        rw [if_pos (by rw [h4]; rfl)]
        by_cases h5 : σ (27 + z) = 1
        · rw [if_pos h5] at e
          rw [if_pos (by rw [h5]; rfl), ← e]
          exact ih'
        · rw [if_neg h5, Nat.or_zero] at e
          rw [if_neg (by rw [q1, nI_eq (by omega) (by omega)]; exact h5), ← e]
          exact ih'
      · rw [if_neg h4, Nat.or_zero] at e
        rw [if_neg (by rw [q0, nI_eq (by omega) (by omega)]; exact h4), ← e]
        exact ih'
/-- 36: which -/
theorem R_which (hK : OkK K) (hb : OkS K b σ) (h : CarC 15 K i) (hs : ScC σ (i 20)) (h' : CarM K j) (hw : ScM K σ (j 63)) (a1 : Int32) : ∃ v, fX11_which a1 i = some v ∧ fX12_which a1 j = some (v, u2 j 50 0 0) := by
  have hm := hK.1
  have hm4 := hK.2.1
  have hw0 : CarM K (u2 j 50 0 0) := m_car0 h' (by omega)
  have hs0 : ScM K σ (u2 j 50 0 0 63) := by rw [u2r _ _ _ _ _ (by omega)]; exact hw
  have hfu1 : ∀ x, fX2_officersWaking x i = fX2_officersWaking_4 fuel x 0 0 i := fun _ => rfl
  unfold fX11_which fX12_which fX11_noCar fX1_sleepers
  simp only [mz_lt]
  rw [h.1, mz_b1, u2n _ _ _ _ _ (show 26 ≠ 0 by omega), h'.1]
  by_cases h0 : K 0 3 = 0
  · rw [if_pos (show nI (K 0 3) = 0 by rw [h0]; rfl), if_pos (show nI (K 0 3) = 0 by rw [h0]; rfl), mz_b1, if_neg (by decide)]
    exact ⟨_, rfl, rfl⟩
  · have hne : ¬ nI (K 0 3) = 0 := by rw [q0, nI_eq (by omega) (by omega)]; exact h0
    rw [if_neg hne, if_neg hne, mz_b1, if_pos rfl]
    by_cases h1 : a1 < 0
    · rw [if_pos h1, if_pos h1]
      exact ⟨_, rfl, rfl⟩
    · rw [if_neg h1, if_neg h1, mz_b1]
      by_cases h2 : a1 < 1 <<< (nI (K 0 3) &&& 31)
      · rw [if_pos h2, if_pos h2, hfu1]
        obtain ⟨fu, hfu, hfu2⟩ := fuel_g
        have k := m_which_s (a1 := a1) hK hb hw0 hs0 fu 0 (by omega) (by omega)
        rw [show orTo (fun p => if sv K p 5 = 0 then (if σ (27 + p) = 1 then 2 ^ p else 0) else 0) 0 = 0 from rfl, ← q0] at k
        obtain ⟨v, k1, k2⟩ := which_l (a1 := a1) hK hb h hs hw0 fu 0 0 (by omega) (by omega)
        rw [← q0] at k1 k2
        rw [hfu] at k ⊢
        rw [k, k1, k2]
        exact ⟨_, rfl, rfl⟩
      · rw [if_neg h2, if_neg h2]
        exact ⟨_, rfl, rfl⟩
/-! sleeper -/
/-- 5: sleeper, where there is such a thing -/
theorem R_sleeper1 (hK : OkK K) (hb : OkS K b σ) (h : CarC 15 K i) (hs : ScC σ (i 20)) (h' : CarM K j) (hw : ScM K σ (j 63)) (hp : p < K 0 3) (hz : z ≤ 10) : ∃ v, fX11_sleeper (nI p) (nI z) i = some v ∧ fX12_sleeper (nI p) (nI z) j = some (v, u2 j 50 0 0) := by
  have hm := hK.1
  have n1 : ¬ (1 : Int32) = 0 := by decide
  unfold fX11_sleeper fX12_sleeper fX12_sleeper_26 fX1_papers
  simp only [mz_lt]
  have hc1 : fX1_hasSleeper 15 (nI p) i = some 1 := by rw [c_hasSleeper h hK (by omega), if_pos hp]
  have hc2 : fX12_isSleeper (nI p) j = some 1 := by rw [m_isSleeper h' hK (by omega), if_pos hp]
  rw [hc1, hc2]
  simp only [mz_b1, n1, if_false]
  rw [L0, L10, mz_isN (by omega) (by omega) (by omega), mz_b1, if_neg (show ¬ (if 0 ≤ z ∧ z ≤ 10 then (1 : Int32) else 0) = 0 from by rw [if_pos (by omega)]; decide), u2e, if_pos (show (0 : Int32) ≤ 0 by decide), if_neg (show ¬ nI z < 0 from nI_nlt (a := z) (b := 0) (by omega) (by omega)), if_pos (show nI z ≤ 10 from nI_le (a := z) (b := 10) hz (by omega))]
  have hz11 : z = 6 ∨ z = 7 ∨ z = 8 ∨ z = 9 ∨ z = 10 ∨ z < 6 := by omega
  have hw' := hw.1 p hp
  rcases hz11 with rfl | rfl | rfl | rfl | rfl | hz6
  · rw [if_pos (show nI 6 = 6 from rfl), s_berthOf (q := 19) hs (by omega), mz_b1, if_pos (show (6 : Int32) ≤ nI 6 by decide), if_neg (show ¬ nI 6 = 10 by decide), show 6 * nI p + nI 6 - 6 = nI (6 * p) from by rw [q6, mz_mul, nI_add, mz_sub (by omega)]; congr 1, if_pos (mz_in (by omega) (by omega)), nI_clamp (by omega), u2r _ _ _ _ _ (by omega), hw'.1]
    exact ⟨_, rfl, rfl⟩
  · have hch := hK.2.2.2.2.2.2.2.2.2.2.1 p hp
    rw [if_neg (show ¬ nI 7 = 6 by decide), if_pos (show nI 7 = 7 from rfl), h.2.2.1, if_pos (show (6 : Int32) ≤ nI 7 by decide), if_neg (show ¬ nI 7 = 10 by decide), show 6 * nI p + nI 7 - 6 = nI (6 * p + 1) from by rw [q6, mz_mul, nI_add, mz_sub (by omega)]; congr 1, if_pos (mz_in (by omega) (by omega)), nI_clamp (by omega), u2r _ _ _ _ _ (by omega)]
    by_cases h5 : sv K p 5 = 1
    · have e : fX8_placeOf 19 (nI p) (nI (K 0 5)) i = some NN := s_placeOf_n (q := 19) hs hb hK hp h5 fuel 0 (by omega) (by have := hK.2.2.1; show K 0 5 - 0 < 30000; omega)
      rw [e, mz_b1, hw.2.1 p hp h5]
      exact ⟨_, rfl, rfl⟩
    · obtain ⟨r, hr, hr2⟩ := hb.2.2.2.2.1 p hp (by omega)
      have e := s_placeOf (q := 19) hs hb hK hr
      rw [hr2] at e
      have e2 := hw.2.2.1 r hr
      rw [hr2] at e2
      rw [e, mz_b1, e2]
      exact ⟨_, rfl, rfl⟩
  · rw [if_neg (show ¬ nI 8 = 6 by decide), if_neg (show ¬ nI 8 = 7 by decide), if_pos (show nI 8 = 8 from rfl), s_saidFor (q := 19) hs (by omega), mz_b1, if_pos (show (6 : Int32) ≤ nI 8 by decide), if_neg (show ¬ nI 8 = 10 by decide), show 6 * nI p + nI 8 - 6 = nI (6 * p + 2) from by rw [q6, mz_mul, nI_add, mz_sub (by omega)]; congr 1, if_pos (mz_in (by omega) (by omega)), nI_clamp (by omega), u2r _ _ _ _ _ (by omega), hw'.2.1]
    exact ⟨_, rfl, rfl⟩
  · have ha := (hb.2.2.2.2.2.2.1 p (by omega)).1
    rw [if_neg (show ¬ nI 9 = 6 by decide), if_neg (show ¬ nI 9 = 7 by decide), if_neg (show ¬ nI 9 = 8 by decide), if_pos (show nI 9 = 9 from rfl), s_isAsleep (q := 19) hs hb (by omega), mz_b1, if_pos (show (6 : Int32) ≤ nI 9 by decide), if_neg (show ¬ nI 9 = 10 by decide), show 6 * nI p + nI 9 - 6 = nI (6 * p + 3) from by rw [q6, mz_mul, nI_add, mz_sub (by omega)]; congr 1, if_pos (mz_in (by omega) (by omega)), nI_clamp (by omega), u2r _ _ _ _ _ (by omega), hw'.2.2.1]
    by_cases h5 : σ (27 + p) = 0
    · rw [h5, if_pos (show nI 0 = 0 from rfl)]
      exact ⟨_, rfl, rfl⟩
    · rw [show σ (27 + p) = 1 by omega, if_neg (show ¬ nI 1 = 0 by decide)]
      exact ⟨_, rfl, rfl⟩
  · rw [if_neg (show ¬ nI 10 = 6 by decide), if_neg (show ¬ nI 10 = 7 by decide), if_neg (show ¬ nI 10 = 8 by decide), if_neg (show ¬ nI 10 = 9 by decide), if_pos (show nI 10 = 10 from rfl), s_lostBy (q := 19) hs (by omega), mz_b1, if_pos (show (6 : Int32) ≤ nI 10 by decide), if_pos (show nI 10 = 10 from rfl), show 6 * nI p + 5 = nI (6 * p + 5) from by rw [q6, mz_mul, q5, nI_add], if_pos (mz_in (by omega) (by omega)), nI_clamp (by omega), u2r _ _ _ _ _ (by omega), hw'.2.2.2.2]
    exact ⟨_, rfl, rfl⟩
  · have ne : ∀ c, 6 ≤ c → c < 2 ^ 31 → ¬ nI z = nI c := fun c h1 h2 e => by have := nI_inj e (by omega) h2; omega
    have e57 : j 57 (6 * p + z) = nI (sv K p z) := h'.2.2.2.2.1 _ (by omega)
    rw [if_neg (show ¬ nI z = 6 from ne 6 (by omega) (by omega)), if_neg (show ¬ nI z = 7 from ne 7 (by omega) (by omega)), if_neg (show ¬ nI z = 8 from ne 8 (by omega) (by omega)), if_neg (show ¬ nI z = 9 from ne 9 (by omega) (by omega)), if_neg (show ¬ nI z = 10 from ne 10 (by omega) (by omega)), c_ofSleeper h (by omega) hz6, mz_b1, if_neg (show ¬ (6 : Int32) ≤ nI z from nI_ge (a := z) (b := 6) hz6 (by omega)), show 6 * nI p + nI z = nI (6 * p + z) from by rw [q6, mz_mul, nI_add], if_pos (mz_in (by omega) (by omega)), nI_clamp (by omega), u2r _ _ _ _ _ (by omega), e57]
    exact ⟨_, rfl, rfl⟩
/-- 5: sleeper, where there is no such thing -/
theorem R_sleeper0 (hK : OkK K) (h' : CarM K j) {a1 a2 : Int32} (hn : ¬ ∃ p z, p < K 0 3 ∧ z ≤ 10 ∧ a1 = nI p ∧ a2 = nI z) : fX12_sleeper a1 a2 j = some (0, u2 j 50 0 1) ∧ (fX1_hasSleeper 15 a1 i = some 0 ∨ a2 < 0 ∨ 10 < a2 ∨ ¬ CarC 15 K i) := by
  have hm := hK.1
  have n1 : ¬ (1 : Int32) = 0 := by decide
  have t : fX12_sleeper_26 a1 a2 1 j = some (0, u2 j 50 0 1) := by
    unfold fX12_sleeper_26
    simp only [mz_lt]
    rw [u2e, if_neg (by decide)]
  unfold fX12_sleeper fX12_sleeper_25
  rw [t]
  rcases mz_cases a1 with c1 | ⟨p, hp, rfl⟩
  · rw [m_isSleeper0 c1]
    exact ⟨rfl, Or.inl (c_hasSleeper0 c1)⟩
  rw [m_isSleeper h' hK hp, mz_b1]
  by_cases h1 : p < K 0 3
  · rw [if_pos h1, if_neg n1]
    rcases mz_cases a2 with c2 | ⟨z, hz, rfl⟩
    · rw [L0, mz_isG (by omega) c2]
      exact ⟨rfl, Or.inr (Or.inl c2)⟩
    · have h2 : ¬ z ≤ 10 := fun e => hn ⟨p, z, h1, e, rfl, rfl⟩
      rw [L0, L10, mz_isN (by omega) (by omega) (by omega), mz_b1, if_pos (show (if 0 ≤ z ∧ z ≤ 10 then (1 : Int32) else 0) = 0 from if_neg (by omega))]
      exact ⟨rfl, Or.inr (Or.inr (Or.inl (show (10 : Int32) < nI z from nI_lt (a := 10) (b := z) (by omega) (by omega))))⟩
  · rw [if_neg h1, if_pos rfl]
    refine ⟨rfl, ?_⟩
    by_cases hC : CarC 15 K i
    · exact Or.inl (by rw [c_hasSleeper hC hK hp, if_neg h1])
    · exact Or.inr (Or.inr (Or.inr hC))
end RS
