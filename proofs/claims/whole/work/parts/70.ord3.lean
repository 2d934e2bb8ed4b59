/-! order: the class's table -/
section OF
variable {i i' i1 i2 i3 j j' j1 j2 : Tb} {rv rv' rv1 rv2 : Nat → Nat → Option Nat} {W : Option ((Nat → Nat) → Int)} {K g : Nat → Nat → Nat} {σ τ σ' ρ T : Nat → Nat} {q p o k b b' t w v n r z c s x a m y cf : Nat} {a1 a2 x1 x2 : Int32}
theorem bc_cnt : ∀ x, x < 512 → fJ6_bitCount_0f7a4 (nI x) = some (nI (sS (fun _ => 1) x)) := by decide +kernel
theorem mn_congr {P : Nat → Bool} {f g : Nat → Nat} : ∀ n, (∀ k, k < n → P k = true → f k = g k) → mnTo P f n = mnTo P g n := by
  intro n
  induction n with
  | zero => intro _; rfl
  | succ n ih =>
    intro h
    rw [mnTo, mnTo, ih (fun k hk => h k (by omega))]
    by_cases e : P n = true
    · rw [if_pos e, if_pos e, h n (by omega) e]
    · rw [if_neg e, if_neg e]
theorem or_eq_add (h : s < 2 ^ k) : s ||| 2 ^ k = 2 ^ k + s := by
  have e := Nat.two_pow_add_eq_or_of_lt h 1
  rw [Nat.mul_one] at e
  rw [Nat.or_comm]
  exact e.symm
/-- the papers, laid out -/
def LyO (K : Nat → Nat → Nat) (o : Nat) (σ : Nat → Nat) (m : Nat) (i : Tb) : Prop :=
  i 30 7 = nI m ∧ (∃ cf, cf < 128 ∧ i 30 8 = nI cf ∧ ∀ k, cf.testBit k = decide (k < m ∧ σ (18 + pp K k) = 2)) ∧ (∀ k, k < m → i 31 k = nI (pp K k)) ∧ (∀ k, k < m → i 32 k = nI (tnO K o σ k)) ∧ (∀ s, s < 2 ^ m → i 33 s = nI (sS (tnO K o σ) s))
theorem c_lay_in {kh : Int32 → Int32 → (Nat → Nat → Int32) → Option ((Nat → Nat → Int32))} {f : Nat → Nat} (hk : k < 7) (h7 : i 30 7 = nI k) (h32 : i 32 k = nI (f k)) : ∀ n s i1, s ≤ 2 ^ k → 2 ^ k - s < n → Fr [33] i i1 → (∀ y, y < 2 ^ k + s → i1 33 y = nI (sS f y)) →
    ∃ i2, fX7_layOutPapers_118 kh n a1 (nI p) (nI s) i1 = kh a1 (nI (p + 1)) (u2 i2 30 7 (nI (k + 1))) ∧ Fr [33] i i2 ∧ ∀ y, y < 2 ^ (k + 1) → i2 33 y = nI (sS f y) := by
  have hp : 2 ^ (k + 1) ≤ 2 ^ 7 := Nat.pow_le_pow_right (by omega) (by omega)
  have hp1 : 2 ^ (k + 1) = 2 ^ k + 2 ^ k := by rw [Nat.pow_succ]; omega
  intro n
  induction n with
  | zero => intro s i1 h1 h2; omega
  | succ n ih =>
    intro s i1 h1 h2 g1 g2
    have e7 : i1 30 7 = nI k := by rw [g1 30 (by decide)]; exact h7
    have e32 : i1 32 k = nI (f k) := by rw [g1 32 (by decide)]; exact h32
    rw [fX7_layOutPapers_118, e7, mz_1l k (by omega)]
    unfold fX7_layOutPapers_173
    by_cases h3 : s = 2 ^ k
    · rw [if_pos (nI_le (by omega) (by omega)), mz_lt, nI_1, nI_1]
      exact ⟨i1, rfl, g1, fun y hy => g2 y (by omega)⟩
    · have hsk : s < 2 ^ k := by omega
      rw [if_neg (nI_ge (by omega) (by omega)), mz_or, or_eq_add hsk, if_pos (mz_in (by omega) (by omega)), if_pos (mz_in (by omega) (by omega)), if_pos (mz_in (by omega) (by omega)), mz_lt, nI_clamp (by omega), nI_clamp (by omega), nI_clamp (by omega), g2 s (by omega), e32, nI_add, nI_1]
      refine ih (s + 1) _ (by omega) (by omega) (Fr_t g1 Fr_u) ?_
      intro y hy
      by_cases e : y = 2 ^ k + s
      · rw [e, u2e, ← or_eq_add hsk, sS_add (by omega) (Nat.testBit_lt_two_pow hsk)]
      · rw [u2n _ _ _ _ _ e, g2 y (by omega)]
theorem c_lay_l (h : CarC 15 K i) (hK : OkK K) (hb : OkS K b σ) (hs : ScC σ (i 20)) (ho : o < K 0 4) (h7 : K 0 5 ≤ 7) : ∀ n p i1, p ≤ K 0 3 → K 0 3 - p < n → Fr [30, 31, 32, 33] i i1 → LyO K o σ (nb K p) i1 →
    ∃ i2, fX7_layOutPapers_19 n (nI o) (nI p) i1 = some i2 ∧ Fr [30, 31, 32, 33] i i2 ∧ LyO K o σ (K 0 5) i2 := by
  have hm := hK.1
  have hN := nb_N hb
  intro n
  induction n with
  | zero => intro p i1 h1 h2; omega
  | succ n ih =>
    intro p i1 h1 h2 g1 g2
    have hc1 : CarC 15 K i1 := CarC_f h (fun q q1 q2 => g1 q (by simp; omega))
    have hle : nb K p ≤ K 0 5 := by rw [← hN]; exact nb_mono h1
    rw [fX7_layOutPapers_19]
    unfold fX1_sleepers
    rw [hc1.1, mz_b1]
    by_cases h3 : p = K 0 3
    · rw [h3, hN] at g2
      rw [if_pos (nI_le (by omega) (by omega))]
      exact ⟨_, rfl, g1, g2⟩
    · rw [if_neg (nI_ge (by omega) (by omega)), g2.1]
      by_cases h4 : 7 ≤ nb K p
      · rw [show nb K p = K 0 5 by omega] at g2
        rw [q7, if_pos (nI_le h4 (by omega))]
        exact ⟨_, rfl, g1, g2⟩
      · rw [q7, if_neg (nI_ge (by omega) (by omega)), c_hasPaper hc1 hK (by omega), mz_b1]
        by_cases h5 : sv K p 5 = 0
        · obtain ⟨e7, ⟨cf, f1, f2, f3⟩, e31, e32, e33⟩ := g2
          have hpp : pp K (nb K p) = p := pp_nb (by omega) h5
          have hpl : p < K 0 3 := by omega
          have hs1 : ScC σ (u2 i1 31 (nb K p) (nI p) (19 + 1)) := by
            rw [u2r _ _ _ _ _ (by omega), g1 20 (by decide)]
            exact hs
          have hc2 : CarC 15 K (u2 i1 31 (nb K p) (nI p)) := CarC_f hc1 (fun q q1 q2 => u2r _ _ _ _ _ (by omega))
          rw [if_pos h5, if_neg (by decide), if_pos (mz_in (by omega) (by omega)), mz_lt, nI_clamp (by omega), c_turnOf hc2 hK hb hs1 hpl ho, mz_b1, u2r _ _ _ _ _ (show (30 : Nat) ≠ 31 by omega), e7, if_pos (mz_in (by omega) (by omega)), mz_lt, nI_clamp (by omega)]
          have hs3 : ScC σ (u2 (u2 i1 31 (nb K p) (nI p)) 32 (nb K p) (nI (turnS K σ p o)) (19 + 1)) := by
            rw [u2r _ _ _ _ _ (by omega)]
            exact hs1
          have ht := (hb.2.2.2.2.2.1 p hpl).1
          rw [c_takesCoffee hs3 (by omega) ht, mz_b1]
          generalize hI : u2 (u2 i1 31 (nb K p) (nI p)) 32 (nb K p) (nI (turnS K σ p o)) = I at *
          have frI : Fr [30, 31, 32, 33] i1 I := by
            rw [← hI]
            exact Fr_t (Fr_w (by decide) Fr_u) (Fr_w (by decide) Fr_u)
          have I30 : I 30 = i1 30 := by rw [← hI, u2r _ _ _ _ _ (by omega), u2r _ _ _ _ _ (by omega)]
          have I33 : I 33 = i1 33 := by rw [← hI, u2r _ _ _ _ _ (by omega), u2r _ _ _ _ _ (by omega)]
          have I31 : ∀ k, k < nb K p + 1 → I 31 k = nI (pp K k) := by
            intro k hk
            rw [← hI, u2r _ _ _ _ _ (by omega), u2s]
            by_cases e : k = nb K p
            · rw [if_pos e, e, hpp]
            · rw [if_neg e, e31 k (by omega)]
          have I32 : ∀ k, k < nb K p + 1 → I 32 k = nI (tnO K o σ k) := by
            intro k hk
            rw [← hI, u2s]
            by_cases e : k = nb K p
            · rw [if_pos e, e]
              unfold tnO
              rw [hpp]
            · rw [if_neg e, u2r _ _ _ _ _ (by omega), e32 k (by omega)]
          have go : ∀ cf', cf' < 128 → (∀ k, cf'.testBit k = decide (k < nb K p + 1 ∧ σ (18 + pp K k) = 2)) → ∃ i2, lt (u2 I 30 8 (nI cf')) (fun i14 => fX7_layOutPapers_118 (fX7_layOutPapers_19 n) fuel (nI o) (nI p) 0 i14) = some i2 ∧ Fr [30, 31, 32, 33] i i2 ∧ LyO K o σ (K 0 5) i2 := by
            intro cf' k1 k2
            obtain ⟨fu, hfu, hfu2⟩ := fuel_g
            have hpw : 2 ^ nb K p ≤ 2 ^ 7 := Nat.pow_le_pow_right (by omega) (by omega)
            obtain ⟨i2, l1, l2, l3⟩ := c_lay_in (kh := fX7_layOutPapers_19 n) (a1 := nI o) (p := p) (i := u2 I 30 8 (nI cf')) (f := tnO K o σ) (k := nb K p) (by omega) (by rw [u2n _ _ _ _ _ (by omega), I30]; exact e7) (by rw [u2r _ _ _ _ _ (by omega)]; exact I32 _ (by omega)) fu 0 (u2 I 30 8 (nI cf')) (Nat.zero_le _) (by omega) (Fr_r _ _) (by
              intro y hy
              rw [u2r _ _ _ _ _ (by omega), I33]
              exact e33 y (by omega))
            rw [mz_lt, hfu, q0, l1]
            refine ih (p + 1) _ (by omega) (by omega) ?_ ?_
            · exact Fr_t g1 (Fr_t frI (Fr_t (Fr_w (by decide) Fr_u) (Fr_t (Fr_w (by decide) l2) (Fr_w (by decide) Fr_u))))
            · rw [nb_s, if_pos h5]
              have r30 : i2 30 = u2 I 30 8 (nI cf') 30 := l2 30 (by decide)
              refine ⟨u2e _ _ _ _, ⟨cf', k1, ?_, k2⟩, ?_, ?_, ?_⟩
              · rw [u2n _ _ _ _ _ (by omega), r30, u2e]
              · intro k hk
                rw [u2r _ _ _ _ _ (by omega), l2 31 (by decide), u2r _ _ _ _ _ (by omega)]
                exact I31 k hk
              · intro k hk
                rw [u2r _ _ _ _ _ (by omega), l2 32 (by decide), u2r _ _ _ _ _ (by omega)]
                exact I32 k hk
              · intro y hy
                rw [u2r _ _ _ _ _ (by omega)]
                exact l3 y hy
          unfold fX7_layOutPapers_112
          rw [I30, f2, e7, mz_1l _ (by omega), mz_or, show nI cf ||| 0 = nI cf from Int32.or_zero]
          by_cases h6 : σ (18 + p) = 2
          · rw [if_pos h6, if_neg (by decide)]
            apply go
            · exact Nat.or_lt_two_pow (n := 7) f1 (Nat.pow_lt_pow_right (by omega) (by omega))
            · intro k
              rw [Nat.testBit_or, f3, Nat.testBit_two_pow]
              by_cases e : nb K p = k
              · subst e
                rw [decide_eq_true (show nb K p = nb K p from rfl), Bool.or_true, hpp, decide_eq_true ⟨by omega, h6⟩]
              · rw [decide_eq_false e, Bool.or_false]
                apply decide_eq_decide.mpr
                constructor
                · intro h; exact ⟨by omega, h.2⟩
                · intro h; exact ⟨by omega, h.2⟩
          · rw [if_neg h6, if_pos rfl]
            apply go cf f1
            intro k
            rw [f3]
            apply decide_eq_decide.mpr
            constructor
            · intro h; exact ⟨by omega, h.2⟩
            · intro h
              refine ⟨?_, h.2⟩
              have : k ≠ nb K p := fun e => h6 (by have := h.2; rw [e, hpp] at this; exact this)
              omega
        · rw [if_neg h5, if_pos rfl]
          unfold fX7_layOutPapers_173
          rw [nI_1]
          refine ih (p + 1) i1 (by omega) (by omega) g1 ?_
          rw [nb_s, if_neg h5]
          exact g2
theorem c_lay (h : CarC 15 K i) (hK : OkK K) (hb : OkS K b σ) (hs : ScC σ (i 20)) (ho : o < K 0 4) (h7 : K 0 5 ≤ 7) : ∃ i2, fX7_layOutPapers (nI o) i = some i2 ∧ Fr [30, 31, 32, 33] i i2 ∧ LyO K o σ (K 0 5) i2 := by
  have hm := hK.1
  unfold fX7_layOutPapers
  obtain ⟨fu, hfu, hfu2⟩ := fuel_g
  rw [hfu, q0, mz_lt, mz_lt, if_pos (mz_in (by omega) (by omega)), mz_lt, nI_clamp (by omega)]
  refine c_lay_l h hK hb hs ho h7 fu 0 _ (by omega) (by omega) ?_ ?_
  · exact Fr_t (Fr_w (by decide) Fr_u) (Fr_t (Fr_w (by decide) Fr_u) (Fr_w (by decide) Fr_u))
  · refine ⟨?_, ⟨0, by omega, ?_, ?_⟩, ?_, ?_, ?_⟩
    · rw [u2r _ _ _ _ _ (by omega), u2n _ _ _ _ _ (by omega), u2e]
      rfl
    · rw [u2r _ _ _ _ _ (by omega), u2e]
    · intro k
      rw [Nat.zero_testBit, decide_eq_false (fun e => absurd e.1 (by unfold nb sumTo; omega))]
    · intro k hk
      exact absurd hk (by unfold nb sumTo; omega)
    · intro k hk
      exact absurd hk (by unfold nb sumTo; omega)
    · intro s hs
      have hs0 : s = 0 := by
        have : nb K 0 = 0 := rfl
        rw [this] at hs
        omega
      rw [hs0, u2e, sS_0]
theorem cuO_bc (hs : s < 2 ^ m) (hm : m ≤ 9) (hc : ∀ k, cf.testBit k = decide (k < m ∧ σ (18 + pp K k) = 2)) : sS (fun _ => 1) (s &&& cf) = cuO K σ s := by
  unfold cuO sS
  apply sumTo_congr
  intro z hz
  rw [Nat.testBit_and, hc]
  by_cases h1 : s.testBit z = true
  · have := bit_lt hs h1
    rw [h1, if_pos rfl, Bool.true_and]
    show (if decide (z < m ∧ σ (18 + pp K z) = 2) = true then 1 else 0) = (if σ (18 + pp K z) = 2 then 1 else 0)
    by_cases h2 : σ (18 + pp K z) = 2
    · rw [if_pos h2, if_pos (decide_eq_true ⟨this, h2⟩)]
    · rw [if_neg h2, if_neg (by rw [decide_eq_false (fun e => h2 e.2)]; decide)]
  · rw [if_neg h1, if_neg (by simp [h1])]
theorem c_over (h : CarC 15 K i) (hK : OkK K) (hb : OkS K b σ) (hs : ScC σ (i 20)) (ho : o < K 0 4) (h7 : K 0 5 ≤ 7) (hL : LyO K o σ (K 0 5) i) (hsl : s < 2 ^ K 0 5) (hk : k < K 0 5) (hT : i 34 (s ||| 2 ^ k) = nI (T (s ||| 2 ^ k))) (hTl : T (s ||| 2 ^ k) ≤ 1000000000) : fX7_overWith (nI s) (nI k) (nI o) i = some (nI (owO K o σ T s k)) := by
  have hm := hK.1
  have h54 := hb.2.2.2.2.2.2.2.2.1
  obtain ⟨e7, ⟨cf, f1, f2, f3⟩, e31, e32, e33⟩ := hL
  obtain ⟨p1, p2, p3⟩ := pp_ok (K := K) (k := k) (n := K 0 3) hm (by rw [nb_N hb]; exact hk)
  have hen := enO_lt (o := o) (s := s) hK hb ho hsl hk
  have hp2 : 2 ^ K 0 5 ≤ 2 ^ 7 := Nat.pow_le_pow_right (by omega) h7
  have hor := or_lt hsl hk
  have hcf : s &&& cf ≤ s := Nat.and_le_left
  have hsd := (hb.2.2.2.2.2.1 _ p1).1
  have hcu := cuO_bc (K := K) (σ := σ) hsl (by omega) f3
  have hcu9 : cuO K σ s ≤ 9 * 1 := sS_le (fun z _ => by split <;> omega)
  have hw := c_waitOf (c := σ 54 - cuO K σ s) h hK p1 ho hsd
  unfold fX7_overWith fX7_overWith_32
  rw [if_pos (mz_in (by omega) (by omega)), mz_lt, nI_clamp (by omega), e31 k hk, s_coffees (q := 19) hs, mz_b1, f2, mz_and, bc_cnt _ (by omega), mz_b1, hcu, s_saidFor (q := 19) hs (by omega)]
  have fin : ∀ fl, fX3_waitOf (nI (pp K k)) (nI o) (nI (σ (18 + pp K k))) fl i = some (nI (waitS K (pp K k) o (σ (18 + pp K k)) (σ 54 - cuO K σ s))) → (bn1 (fX3_waitOf (nI (pp K k)) (nI o) (nI (σ (18 + pp K k))) fl i) fun v8 => if aIn (nI s) 128 = true then (if aIn (nI k) 7 = true then (if aIn (nI s ||| ((1 : Int32) <<< (nI k &&& 31))) 896 = true then (some ((if (((i 33 (nI s : Int32).toNatClampNeg) + (i 32 k)) + v8) < (i 34 ((nI s ||| ((1 : Int32) <<< (nI k &&& 31))) : Int32).toNatClampNeg) then (i 34 ((nI s ||| ((1 : Int32) <<< (nI k &&& 31))) : Int32).toNatClampNeg) else (((i 33 (nI s : Int32).toNatClampNeg) + (i 32 k)) + v8)))) else none) else none) else none) = some (nI (owO K o σ T s k)) := by
    intro fl hfl
    rw [hfl, mz_b1, mz_1l _ (by omega), mz_or, if_pos (mz_in (by omega) (by omega)), if_pos (mz_in (by omega) (by omega)), if_pos (mz_in (by omega) (by omega)), nI_clamp (by omega), nI_clamp (by omega), e33 s hsl, e32 k hk, hT, nI_add, nI_add]
    exact congrArg some (mz_max (a := enO K o σ s k) (by omega) (by omega))
  by_cases h1 : σ 54 ≤ cuO K σ s
  · rw [if_neg (show ¬ 0 < σ 54 - cuO K σ s by omega)] at hw
    rw [if_pos (nI_le h1 (by omega)), mz_b1]
    exact fin 0 hw
  · rw [if_pos (show 0 < σ 54 - cuO K σ s by omega)] at hw
    rw [if_neg (nI_ge (by omega) (by omega)), mz_b1]
    exact fin 1 hw
end OF
