/-! before: the class lays the drawer out -/
def taS (K : Nat → Nat → Nat) (o p : Nat) : Nat := sv K p 0 + (if ov K o 1 = 1 then ov K o 2 else 0)
def taB (K : Nat → Nat → Nat) (o : Nat) (σ : Nat → Nat) (z : Nat) : Nat := sumTo (fun y => taS K o (σ (9 + y))) z
def wkP (K : Nat → Nat → Nat) (o : Nat) (σ : Nat → Nat) (y : Nat) : Bool := decide (ov K o 1 = 1 ∧ σ (27 + σ (9 + y)) = 1)
def wkB (K : Nat → Nat → Nat) (o : Nat) (σ : Nat → Nat) (z : Nat) : Nat := sumTo (fun y => if wkP K o σ y = true then 1 else 0) z
def xB (K : Nat → Nat → Nat) (o : Nat) (σ : Nat → Nat) (s z : Nat) : Nat := sumTo (fun y => if wkP K o σ y = true ∧ s.testBit (σ (9 + y)) = false then 1 else 0) z
def LdB (K : Nat → Nat → Nat) (W : Option ((Nat → Nat) → Int)) (o : Nat) (σ : Nat → Nat) (z : Nat) (i : Tb) : Prop :=
  ∀ y, y < z → i 38 y = nI (taS K o (σ (9 + y))) ∧ i 39 y = nI (waitS K (σ (9 + y)) o (σ (18 + σ (9 + y))) (cB σ y)) ∧ i 40 y = nI (if wkP K o σ y = true then 2 ^ σ (9 + y) else 0) ∧ (wkP K o σ y = true → ∀ x, x ≤ wkB K o σ y → i 37 (y * 9 + x) = nI (lossN K W σ (σ (9 + y)) (taB K o σ y + x * K 1 3) o))
section BG
variable {i i' i1 i2 i3 j j' j1 j2 : Tb} {rv rv' rv1 rv2 : Nat → Nat → Option Nat} {W : Option ((Nat → Nat) → Int)} {K g : Nat → Nat → Nat} {σ τ σ' ρ T : Nat → Nat} {q p o k b b' t w v n r z c s x a m y l d : Nat} {a1 a2 x1 x2 : Int32}
theorem taS_le (hK : OkK K) (hp : p < K 0 3) (ho : o < K 0 4) : taS K o p ≤ 18 := by
  have h1 := hK.2.2.2.2.2.2.2.2.2.1 p 0 hp (by omega)
  have h2 := hK.2.2.2.2.2.2.2.2.2.2.2.1 o 2 ho (by omega)
  unfold taS
  split <;> omega
theorem taB_le (hK : OkK K) (hb : OkS K b σ) (ho : o < K 0 4) (hz : z ≤ K 0 5) : taB K o σ z ≤ z * 18 := sumTo_le (fun y hy => taS_le hK (OkS_dr hb y (by omega)) ho)
theorem wkB_le : wkB K o σ z ≤ z * 1 := sumTo_le (fun y _ => by split <;> omega)
theorem xB_le : xB K o σ s z ≤ wkB K o σ z := by
  unfold xB wkB
  induction z with
  | zero => exact Nat.le_refl _
  | succ z ih =>
    rw [sumTo, sumTo]
    by_cases h : wkP K o σ z = true
    · rw [if_pos h]
      split <;> omega
    · rw [if_neg h, if_neg (fun e => h e.1)]
      exact ih
theorem LdB_f (h : LdB K W o σ z i) (h37 : i' 37 = i 37) (h38 : i' 38 = i 38) (h39 : i' 39 = i 39) (h40 : i' 40 = i 40) : LdB K W o σ z i' := by
  intro y hy
  rw [h37, h38, h39, h40]
  exact h y hy
theorem cB_t : cB σ (z + 1) = cB σ z - (if σ (18 + σ (9 + z)) = 2 then 1 else 0) := by
  unfold cB
  rw [sumTo]
  omega
/-- the losses of one who is woken, by how many were woken before -/
theorem c_lay37 {kh : Int32 → Int32 → Int32 → Int32 → Int32 → (Nat → Nat → Int32) → (Nat → Nat → Option Nat) → Option ((Nat → Nat → Int32))} (hK : OkK K) (hb : OkS K b σ) (hb2 : b < 100000) (h : WC K W σ i rv) (ho : o < K 0 4) (hz : z < K 0 5) : ∀ n x i1, x ≤ wkB K o σ z + 1 → wkB K o σ z + 1 - x < n → FrL [24, 37] rv i i1 → (∀ k, k / 9 ≠ z → i1 37 k = i 37 k) → (∀ y, y < x → i1 37 (z * 9 + y) = nI (lossN K W σ (σ (9 + z)) (taB K o σ z + y * K 1 3) o)) →
    ∃ i2, fX0_layOutDrawer_159 kh n (nI o) x1 (nI (taB K o σ z)) (nI (wkB K o σ z)) (nI z) (nI (σ (9 + z))) (nI x) i1 rv = fX0_layOutDrawer_219 kh (nI o) x1 (nI (taB K o σ z)) (nI (wkB K o σ z + 1)) (nI z) i2 rv ∧ FrL [24, 37] rv i i2 ∧ (∀ k, k / 9 ≠ z → i2 37 k = i 37 k) ∧ (∀ y, y ≤ wkB K o σ z → i2 37 (z * 9 + y) = nI (lossN K W σ (σ (9 + z)) (taB K o σ z + y * K 1 3) o)) := by
  have hm := hK.1
  have hp := hK.2.2.1
  have hw := wkB_le (K := K) (o := o) (σ := σ) (z := z)
  have ht := taB_le (z := z) hK hb ho (by omega)
  have hr := hK.2.2.2.2.2.2.2.2.1
  have hm4 := hK.2.1
  intro n
  induction n with
  | zero => intro x i1 h1 h2; omega
  | succ n ih =>
    intro x i1 h1 h2 g1 g2 g3
    have hw1 := WC_f h g1 (by decide)
    rw [fX0_layOutDrawer_159]
    by_cases h3 : x = wkB K o σ z + 1
    · rw [if_pos (show nI (wkB K o σ z) < nI x by rw [mz_ltp (by omega) (by omega)]; omega), nI_1]
      exact ⟨i1, rfl, g1, g2, fun y hy => g3 y (by omega)⟩
    · have hxr : x * K 1 3 ≤ 9 * 9 := Nat.mul_le_mul (by omega) hr
      obtain ⟨i2, p1, p2⟩ := C_loss (q := 19) (t := taB K o σ z + x * K 1 3) (o := o) hw1.1 hK hb (by omega) hw1.2.1 (Or.inl rfl) hw1.2.2 (OkS_dr hb z hz) (by omega) (by omega)
      rw [if_neg (show ¬ nI (wkB K o σ z) < nI x by rw [mz_ltp (by omega) (by omega)]; omega), q3, c_ruleOf hw1.1 (by omega), mz_b1, mz_mul, nI_add, p1, mz_b2, q9, mz_mul, nI_add, if_pos (mz_in (by omega) (by omega)), mz_lt, nI_clamp (by omega), nI_1]
      have e37 : i2 37 = i1 37 := FrL_row hw1.2.2 p2 (by decide) (by omega) (by omega) (by omega)
      refine ih (x + 1) _ (by omega) (by omega) (FrL_t g1 (FrL_t (FrL_w (by decide) p2) (FrL_w (by decide) (FrL_f Fr_u)))) ?_ ?_
      · intro k hk
        rw [u2n _ _ _ _ _ (by omega), e37]
        exact g2 k hk
      · intro y hy
        by_cases e : y = x
        · rw [e, u2e]
        · rw [u2n _ _ _ _ _ (by omega), e37]
          exact g3 y (by omega)
theorem c_layD_l (hK : OkK K) (hb : OkS K b σ) (hb2 : b < 100000) (h : WC K W σ i rv) (ho : o < K 0 4) : ∀ n z i1, z ≤ K 0 5 → K 0 5 - z < n → FrL [24, 37, 38, 39, 40] rv i i1 → LdB K W o σ z i1 →
    ∃ i2, fX0_layOutDrawer_16 n (nI o) (nI (cB σ z)) (nI (taB K o σ z)) (nI (wkB K o σ z)) (nI z) i1 rv = some i2 ∧ FrL [24, 37, 38, 39, 40] rv i i2 ∧ LdB K W o σ (K 0 5) i2 := by
  have hm := hK.1
  have hp := hK.2.2.1
  have hm4 := hK.2.1
  have h54 := hb.2.2.2.2.2.2.2.2.1
  intro n
  induction n with
  | zero => intro z i1 h1 h2; omega
  | succ n ih =>
    intro z i1 h1 h2 g1 g2
    have hw1 := WC_f h g1 (by decide)
    have hcB : cB σ z ≤ 9 := by unfold cB; omega
    rw [fX0_layOutDrawer_16]
    unfold fX1_papers
    rw [hw1.1.2.2.1, mz_b1]
    by_cases h3 : z = K 0 5
    · rw [h3] at g2
      rw [if_pos (nI_le (by omega) (by omega))]
      exact ⟨i1, rfl, g1, g2⟩
    · have hz : z < K 0 5 := by omega
      have hpl := OkS_dr hb z hz
      have hsd := (hb.2.2.2.2.2.1 _ hpl).1
      rw [if_neg (nI_ge (by omega) (by omega)), s_inDrawer (q := 19) hw1.2.1 (by omega), mz_b1, c_turnAwake hw1.1 hK hpl ho, show (sv K (σ (9 + z)) 0 + if ov K o 1 = 1 then ov K o 2 else 0) = taS K o (σ (9 + z)) from rfl, mz_b1, if_pos (mz_in (by omega) (by omega)), mz_lt, nI_clamp (by omega)]
      have f1 : FrL [24, 37, 38, 39, 40] rv i (u2 i1 38 z (nI (taS K o (σ (9 + z))))) := FrL_t g1 (FrL_w (by decide) (FrL_f Fr_u))
      have hw2 := WC_f h f1 (by decide)
      rw [s_saidFor (q := 19) hw2.2.1 (by omega), mz_b1]
      generalize hi38 : u2 i1 38 z (nI (taS K o (σ (9 + z)))) = I1 at *
      have I1r : ∀ q, q ≠ 38 → I1 q = i1 q := fun q hq => by rw [← hi38, u2r _ _ _ _ _ hq]
      have I1z : I1 38 z = nI (taS K o (σ (9 + z))) := by rw [← hi38, u2e]
      have I1n : ∀ y, y ≠ z → I1 38 y = i1 38 y := fun y hy => by rw [← hi38, u2n _ _ _ _ _ hy]
      have hwt := c_waitOf (c := cB σ z) hw2.1 hK hpl ho hsd
      have key : ∀ fl, fX3_waitOf (nI (σ (9 + z))) (nI o) (nI (σ (18 + σ (9 + z)))) fl I1 = some (nI (waitS K (σ (9 + z)) o (σ (18 + σ (9 + z))) (cB σ z))) → ∃ i2, fX0_layOutDrawer_87 (fX0_layOutDrawer_16 n) (nI o) (nI (cB σ z)) (nI (taB K o σ z)) (nI (wkB K o σ z)) (nI z) (nI (σ (9 + z))) (nI z) (nI (σ (9 + z))) (nI o) (nI (σ (18 + σ (9 + z)))) fl I1 rv = some i2 ∧ FrL [24, 37, 38, 39, 40] rv i i2 ∧ LdB K W o σ (K 0 5) i2 := by
        intro fl hfl
        unfold fX0_layOutDrawer_87
        rw [hfl, mz_b1, if_pos (mz_in (by omega) (by omega)), mz_lt, nI_clamp (by omega)]
        have f2 : FrL [24, 37, 38, 39, 40] rv i (u2 I1 39 z (nI (waitS K (σ (9 + z)) o (σ (18 + σ (9 + z))) (cB σ z)))) := FrL_t f1 (FrL_w (by decide) (FrL_f Fr_u))
        have hw3 := WC_f h f2 (by decide)
        rw [c_takesCoffee (q := 19) hw3.2.1 (by omega) hsd, mz_b1]
        generalize hi39 : u2 I1 39 z (nI (waitS K (σ (9 + z)) o (σ (18 + σ (9 + z))) (cB σ z))) = I2 at *
        have I2r : ∀ q, q ≠ 39 → I2 q = I1 q := fun q hq => by rw [← hi39, u2r _ _ _ _ _ hq]
        have I2z : I2 39 z = nI (waitS K (σ (9 + z)) o (σ (18 + σ (9 + z))) (cB σ z)) := by rw [← hi39, u2e]
        have I2n : ∀ y, y ≠ z → I2 39 y = I1 39 y := fun y hy => by rw [← hi39, u2n _ _ _ _ _ hy]
        have k114 : ∃ i2, fX0_layOutDrawer_114 (fX0_layOutDrawer_16 n) (nI o) (nI (cB σ (z + 1))) (nI (taB K o σ z)) (nI (wkB K o σ z)) (nI z) (nI (σ (9 + z))) I2 rv = some i2 ∧ FrL [24, 37, 38, 39, 40] rv i i2 ∧ LdB K W o σ (K 0 5) i2 := by
          unfold fX0_layOutDrawer_114 fX0_layOutDrawer_145
          rw [c_wakes (q := 19) hw3.1 hK hb hw3.2.1 hpl ho, mz_b1, mz_1l _ (by omega), if_pos (mz_in (by omega) (by omega)), if_pos (mz_in (by omega) (by omega)), mz_lt, mz_lt, nI_clamp (by omega), u2e, u2e]
          have hpw : 2 ^ σ (9 + z) ≤ 2 ^ 9 := Nat.pow_le_pow_right (by omega) (by omega)
          have hpw0 := Nat.two_pow_pos (σ (9 + z))
          have est : taB K o σ (z + 1) = taB K o σ z + taS K o (σ (9 + z)) := rfl
          have esw : wkB K o σ (z + 1) = wkB K o σ z + (if wkP K o σ z = true then 1 else 0) := rfl
          have f3 : ∀ vv, FrL [24, 37, 38, 39, 40] rv i (u2 I2 40 z vv) := fun vv => FrL_t f2 (FrL_w (by decide) (FrL_f Fr_u))
          by_cases hwk : ov K o 1 = 1 ∧ σ (27 + σ (9 + z)) = 1
          · have hP : wkP K o σ z = true := decide_eq_true hwk
            rw [hP, if_pos rfl] at esw
            rw [if_pos hwk, if_neg (show ¬ (1 : Int32) = 0 by decide), if_pos (mz_in (by omega) (by omega)), if_neg (show ¬ nI (2 ^ σ (9 + z)) = 0 by rw [q0, nI_eq (by omega) (by omega)]; omega)]
            obtain ⟨fu, hfu, hfu2⟩ := fuel_g
            have hwl := wkB_le (K := K) (o := o) (σ := σ) (z := z)
            have hw4 := WC_f h (f3 (nI (2 ^ σ (9 + z)))) (by decide)
            obtain ⟨i2, l1, l2, l3, l4⟩ := c_lay37 (kh := fX0_layOutDrawer_16 n) (x1 := nI (cB σ (z + 1))) (i := u2 I2 40 z (nI (2 ^ σ (9 + z)))) (o := o) (z := z) hK hb hb2 hw4 ho hz fu 0 _ (by omega) (by omega) (fun _ _ _ _ => rfl) (fun _ _ => rfl) (fun y hy => by omega)
            rw [hfu, q0, l1]
            have r38 : i2 38 = I1 38 := by rw [FrL_row hw4.2.2 l2 (by decide) (by omega) (by omega) (by omega), u2r _ _ _ _ _ (by omega), I2r _ (by omega)]
            have r39 : i2 39 = I2 39 := by rw [FrL_row hw4.2.2 l2 (by decide) (by omega) (by omega) (by omega), u2r _ _ _ _ _ (by omega)]
            have r40 : i2 40 = u2 I2 40 z (nI (2 ^ σ (9 + z))) 40 := FrL_row hw4.2.2 l2 (by decide) (by omega) (by omega) (by omega)
            unfold fX0_layOutDrawer_219
            rw [if_pos (mz_in (by omega) (by omega)), mz_lt, nI_clamp (by omega), r38, I1z, nI_add, nI_1, ← est, ← esw]
            refine ih (z + 1) i2 (by omega) (by omega) (FrL_t (f3 _) (FrL_w (by decide) l2)) ?_
            intro y hy
            by_cases e : y = z
            · subst e
              rw [r38, r39, r40, I1z, I2z, u2e, hP, if_pos rfl]
              exact ⟨rfl, rfl, rfl, fun _ => l4⟩
            · obtain ⟨a1, a2, a3, a4⟩ := g2 y (by omega)
              rw [r38, r39, r40, I1n y e, I2n y e, u2n _ _ _ _ _ e, I1r 39 (by omega), I2r 40 (by omega), I1r 40 (by omega)]
              refine ⟨a1, a2, a3, fun hh x hx => ?_⟩
              have hxl := wkB_le (K := K) (o := o) (σ := σ) (z := y)
              rw [l3 _ (by omega), u2r _ _ _ _ _ (by omega), I2r 37 (by omega), I1r 37 (by omega)]
              exact a4 hh x hx
          · have hP : wkP K o σ z = false := decide_eq_false hwk
            have esw1 : wkB K o σ (z + 1) = wkB K o σ z := by rw [esw, hP]; rfl
            rw [if_neg hwk, if_pos (show (0 : Int32) = 0 from rfl), if_pos (mz_in (by omega) (by omega)), if_pos (show (0 : Int32) = 0 from rfl)]
            unfold fX0_layOutDrawer_219
            rw [if_pos (mz_in (by omega) (by omega)), mz_lt, nI_clamp (by omega), u2r _ _ _ _ _ (show (38 : Nat) ≠ 40 by omega), I2r 38 (by omega), I1z, nI_add, nI_1, ← est, ← esw1]
            refine ih (z + 1) _ (by omega) (by omega) (f3 _) ?_
            intro y hy
            by_cases e : y = z
            · subst e
              rw [u2r _ _ _ _ _ (show (38 : Nat) ≠ 40 by omega), I2r 38 (by omega), I1z, u2r _ _ _ _ _ (show (39 : Nat) ≠ 40 by omega), I2z, u2e, hP]
              exact ⟨rfl, rfl, rfl, fun e => absurd e (by decide)⟩
            · obtain ⟨a1, a2, a3, a4⟩ := g2 y (by omega)
              rw [u2r _ _ _ _ _ (show (38 : Nat) ≠ 40 by omega), I2r 38 (by omega), I1n y e, u2r _ _ _ _ _ (show (39 : Nat) ≠ 40 by omega), I2n y e, I1r 39 (by omega), u2n _ _ _ _ _ e, I2r 40 (by omega), I1r 40 (by omega), u2r _ _ _ _ _ (show (37 : Nat) ≠ 40 by omega), I2r 37 (by omega), I1r 37 (by omega)]
              exact ⟨a1, a2, a3, a4⟩
        by_cases h8 : σ (18 + σ (9 + z)) = 2
        · rw [cB_t, if_pos h8] at k114
          rw [if_pos h8, if_neg (show ¬ (1 : Int32) = 0 by decide)]
          by_cases h9 : cB σ z = 0
          · rw [if_pos (show nI (cB σ z) ≤ 0 by rw [h9]; decide)]
            rw [show cB σ z - 1 = cB σ z by omega] at k114
            exact k114
          · rw [if_neg (show ¬ nI (cB σ z) ≤ 0 by rw [q0, mz_le (by omega) (by omega)]; omega)]
            obtain ⟨c', hc'⟩ : ∃ c', cB σ z = c' + 1 := ⟨cB σ z - 1, by omega⟩
            rw [hc'] at k114 ⊢
            rw [mz_prd]
            rw [show c' + 1 - 1 = c' by omega] at k114
            exact k114
        · rw [cB_t, if_neg h8, Nat.sub_zero] at k114
          rw [if_neg h8, if_pos (show (0 : Int32) = 0 from rfl)]
          exact k114
      by_cases hc : 0 < cB σ z
      · rw [if_pos hc] at hwt
        rw [if_neg (show ¬ nI (cB σ z) ≤ 0 by rw [q0, mz_le (by omega) (by omega)]; omega)]
        exact key 1 hwt
      · rw [if_neg hc] at hwt
        rw [if_pos (show nI (cB σ z) ≤ 0 by rw [q0, mz_le (by omega) (by omega)]; omega)]
        exact key 0 hwt
theorem C_layD (hK : OkK K) (hb : OkS K b σ) (hb2 : b < 100000) (h : WC K W σ i rv) (ho : o < K 0 4) : ∃ i2, fX0_layOutDrawer (nI o) i rv = some i2 ∧ FrL [24, 37, 38, 39, 40] rv i i2 ∧ LdB K W o σ (K 0 5) i2 := by
  have hm := hK.1
  have hp := hK.2.2.1
  unfold fX0_layOutDrawer
  obtain ⟨fu, hfu, hfu2⟩ := fuel_g
  rw [hfu, s_coffees (q := 19) h.2.1, mz_b1]
  exact c_layD_l hK hb hb2 h ho fu 0 i (by omega) (by omega) (FrL_f (Fr_r _ _)) (fun y hy => by omega)
end BG
