/-! lines: run, perform -/
section PF
variable {i i' i1 i2 i3 j j' j1 j2 : Tb} {rv rv' rv2 : Nat → Nat → Option Nat} {lo lo' : Nat → Nat → Int64} {W : Option ((Nat → Nat) → Int)} {K g : Nat → Nat → Nat} {σ τ σ' ρ : Nat → Nat} {q p o k b b' t w w0 v n r z c s re x a ac nx B B' kd m y dr sz : Nat} {l l5 : List Nat} {d d' : Nat → Int32} {us : Nat → Nat → Nat} {X : Int64}
theorem LnAt_f (h : LnAt i j x a sz) (e1 : i' a = i a) (e2 : i' (a + 1) = i (a + 1)) (e3 : j' 61 = j 61) (e4 : j' 62 = j 62) : LnAt i' j' x a sz := by
  unfold LnAt at h ⊢
  rw [e1, e2, e3, e4]
  exact h
theorem FrL_ln (hf : FrL l rv i i') (hsep : ∀ al, rv 23 2 = some (100 + al) → a ≠ al ∧ a ≠ al + 2 ∧ a + 1 ≠ al ∧ a + 1 ≠ al + 2) (h1 : a ∉ l) (h2 : a + 1 ∉ l) : i' a = i a ∧ i' (a + 1) = i (a + 1) := by
  constructor
  · funext k
    exact hf a k h1 (fun al hal => ⟨(hsep al hal).2.1, fun e => (hsep al hal).1 e.1⟩)
  · funext k
    exact hf (a + 1) k h2 (fun al hal => ⟨(hsep al hal).2.2.2, fun e => (hsep al hal).2.2.1 e.1⟩)
theorem c_part (h : LnAt i j x a sz) (hk : k < sz) (hc : c < 3) : fX5_part a (nI k) (nI c) i = some (j 61 (48 * x + 3 * k + c)) := by
  unfold fX5_part
  have := h.2.2.2.1
  rw [q3, mz_mul, nI_add, if_pos (mz_in (by omega) (by omega)), nI_clamp (by omega), Nat.mul_comm, h.2.2.2.2.2 k c hk hc]
/-- one step performed, on both sides -/
theorem R_pstep (hK : OkK K) (h : SI K W b σ i j rv) (hb2 : b < 99990) (hx4 : x < 4) (hln : LnAt i j x a sz) (hk : k < sz) :
    (∃ i1, fX11_act (j 61 (48 * x + 3 * k + 0)) (j 61 (48 * x + 3 * k + 1)) (j 61 (48 * x + 3 * k + 2)) i rv = some (NN, i1) ∧ fX12_canStep 63 296 (nI (48 * x + 3 * k)) j = some 0 ∧ SI K W b σ i1 j rv ∧ FrL [20, 23, 24, 25, 26, 27] rv i i1) ∨
    ∃ y i3 j1 j2 rv2 σ', fX11_act (j 61 (48 * x + 3 * k + 0)) (j 61 (48 * x + 3 * k + 1)) (j 61 (48 * x + 3 * k + 2)) i rv = some (y, i3) ∧ y ≠ NN ∧ fX12_canStep 63 296 (nI (48 * x + 3 * k)) j = some 1 ∧ fX12_remember j = some j1 ∧ fX12_steps 63 296 (nI (48 * x + 3 * k)) j1 rv' = some (j2, rv2) ∧ SI K W (b + 1) σ' i3 j2 rv ∧ FrL [20, 23, 24, 25, 26, 27] rv i i3 ∧ Fr [50, 54, 63, 65] j j2 ∧ F5 (0 :: 42 :: l41) j j2 ∧ RvM rv' rv2 := by
  have hm4 := hK.2.1
  have hsz := hln.2.2.2.1
  obtain ⟨kd, hkd, _, ek⟩ := hln.2.2.2.2.1 k hk
  obtain ⟨ac, nx, us, h7⟩ := h.2.2.2.2.2.2.1
  obtain ⟨hnn, hfr, hU⟩ := SI_note h h7
  have hcan := M_canStep (W := W) (w := 63) (x := 48 * x + 3 * k) h.2.2.1 hK h.2.1 h.2.2.2.1 (by omega) hkd ek
  rw [show 48 * x + 3 * k + 0 = 48 * x + 3 * k from rfl, ek]
  obtain ⟨j1, r0, r1, r2, r3, r4, r5⟩ := M_remember (j := j) h7.1 h7.2.2.2.2.1
  have hw1 : WM K W σ j1 := WM_f (SI_WM h) r1 r2 (by decide) (by decide)
  have e61 : j1 61 = j 61 := r1 61 (by decide)
  have hlg : LgM (i 27) (σ 55) (j1 63) := by
    rw [r1 63 (by decide)]
    exact h.2.2.2.2.2.1
  rcases C_done (a1 := j 61 (48 * x + 3 * k + 1)) (a2 := j 61 (48 * x + 3 * k + 2)) (q := 19) hnn.1.1 hK hnn.2.1 (show b < 100000 by omega) hnn.1.2.1 (Or.inl rfl) hnn.1.2.2 hkd with ⟨e, hno⟩ | ⟨y, σ', i2, hA, e, e2, e3, e23⟩
  · rcases hcan with ⟨c1, _⟩ | ⟨_, hy⟩
    · exact Or.inl ⟨_, C_act0 h7 e, c1, hnn, FrL_f (Fr_w (by decide) hfr)⟩
    · exact absurd hy hno
  · rcases hcan with ⟨_, hno⟩ | ⟨c1, _⟩
    · exact absurd ⟨y, σ', hA⟩ hno
    · have hok := actR_ok hK h.2.1 hA
      obtain ⟨j2, rv2, k1, k2, k3, k4, k5, k6, k7⟩ := M_steps (rv := rv') (w := 63) (x := 48 * x + 3 * k) hw1.1 hK h.2.1 (by omega) hw1.2.1 (Or.inl rfl) hw1.2.2.1 hlg (by omega) hkd (by rw [e61]; exact ek) (by rw [e61]; exact hA)
      by_cases h5 : kd = 5
      · subst h5
        rcases id hA with ⟨h0, _⟩ | ⟨h0, _⟩ | ⟨h0, _⟩ | ⟨h0, _⟩ | ⟨h0, _⟩ | ⟨_, o, ho, ha, hy, hσ⟩
        · omega
        · omega
        · omega
        · omega
        · omega
        · obtain ⟨i3, g1, g2, g3, g4, g5, g6, g7, g8⟩ := C_actb (a2 := j 61 (48 * x + 3 * k + 2)) hK h hb2 h7 ho
          have hs2 : ScM K (bdS K W o σ) (j2 63) := ScM_bd hK (by rw [← hσ]; exact k5)
          obtain ⟨m1, m2, m3⟩ := SI_bord (o := o) (j0 := j) hK h h7 (bdS_ok (W := W) (o := o) hK h.2.1) bdS_55 g2 g3 g4 g5 g6 g7 g8 (Fr_r _ _) (F5_r _ _) r1 r2 r3 r4 r5 k2 k3 hs2 (k7 o rfl ho (by rw [e61]; exact ha))
          rw [ha]
          exact Or.inr ⟨_, i3, j1, j2, rv2, _, g1, by rw [← hy]; exact hok.2.2, c1, r0, k1, m1, g2, m2, m3, k4⟩
      · have hk5 : nI kd ≠ 5 := by
          rw [q5]
          exact fun e => by have := nI_inj e (by omega) (by omega); omega
        obtain ⟨i3, g1, g2, g3, g4, g5, g6, g7, g8⟩ := C_act1 h7 h.1.2.2 e hok.2.2 hk5 e3
        have f1 : Fr [50, 54, 63, 65] j j2 := Fr_t (Fr_w (by decide) r1) (Fr_w (by decide) k2)
        have f2 : F5 (0 :: 42 :: l41) j j2 := F5_t (F5_w (by decide) r2) (F5_w (by decide) k3)
        refine Or.inr ⟨y, i3, j1, j2, rv2, σ', g1, hok.2.2, c1, r0, k1, SI_push hK h h7 (by omega) hok.1 g2 (by rw [g3]; exact e2) g4 g5 g6 g7 (Or.inl ⟨hok.2.1, g8⟩) f1 f2 k5 ?_ ?_ ?_ ?_, g2, f1, f2, k4⟩
        · rw [g8, hok.2.1]
          exact LgM_e hlg (fun k hk _ => k6 (by omega) k hk)
        · rw [k3 42 (by decide)]
          exact r3
        · intro c hc
          rw [k2 65 (by decide), r4 c hc]
        · intro x c hx hc
          rw [k2 65 (by decide), r5 x c hx hc]
theorem R_perform_l (hK : OkK K) (hx4 : x < 4) (hb2 : b < 99900) (h0 : LawC W i rv) (ha : a = 9 ∨ 74 ≤ a) (hsep : ∀ al, rv 23 2 = some (100 + al) → a ≠ al ∧ a ≠ al + 2 ∧ a + 1 ≠ al ∧ a + 1 ≠ al + 2) (hln : LnAt i j x a sz) : ∀ n k σ i1 j1 rv1, k ≤ sz → sz - k < n → SI K W (b + k) σ i1 j1 rv → FrL [20, 23, 24, 25, 26, 27] rv i i1 → Fr [50, 54, 63, 65] j j1 → F5 (0 :: 42 :: l41) j j1 → RvM rv' rv1 →
    ∃ v i2 j2 rv2 τ, fX11_perform_24 n a (nI k) i1 rv = some (v, i2) ∧ fX12_perform_24 n (nI x) (nI k) j1 rv1 = some (v, j2, rv2) ∧ SI K W (b + 16) τ i2 j2 rv ∧ FrL [20, 23, 24, 25, 26, 27] rv i i2 ∧ Fr [50, 54, 63, 65] j j2 ∧ F5 (0 :: 42 :: l41) j j2 ∧ RvM rv' rv2 := by
  have hsz := hln.2.2.2.1
  intro n
  induction n with
  | zero => intro k σ i1 j1 rv1 h1 h2; omega
  | succ n ih =>
    intro k σ i1 j1 rv1 h1 h2 hS f1 f2 f3 f4
    have hr := FrL_ln f1 hsep (by simp; omega) (by simp; omega)
    have hln1 : LnAt i1 j1 x a sz := LnAt_f hln hr.1 hr.2 (f2 61 (by decide)) (f2 62 (by decide))
    rw [fX11_perform_24, fX12_perform_24]
    unfold fX5_size
    rw [hln1.1, mz_b1, if_pos (mz_in (by omega) (by omega)), nI_clamp (by omega), hln1.2.1]
    by_cases h3 : k = sz
    · subst h3
      rw [if_pos (nI_le (by omega) (by omega)), if_pos (nI_le (by omega) (by omega))]
      exact ⟨_, _, _, _, σ, rfl, rfl, SI_upb hS (by omega), f1, f2, f3, f4⟩
    · rw [if_neg (nI_ge (by omega) (by omega)), if_neg (nI_ge (by omega) (by omega)), q0, q1, q2, c_part hln1 (by omega) (by omega), mz_b1, c_part hln1 (by omega) (by omega), mz_b1, c_part hln1 (by omega) (by omega), mz_b1, show 3 * (16 * nI x + nI k) = nI (48 * x + 3 * k) from by
        rw [q16, mz_mul, nI_add, q3, mz_mul]
        congr 1
        omega]
      rcases R_pstep (rv' := rv1) (k := k) hK hS (by omega) hx4 hln1 (by omega) with ⟨i3, e1, e2, e3, e4⟩ | ⟨y, i3, j3, j4, rv3, τ, e1, e2, e3, e4, e5, e6, e7, e8, e9, e10⟩
      · rw [e1, mz_b2, if_pos (show NN = -nI 1 from rfl), e2, mz_b1, if_pos (show (0 : Int32) = nI 0 from rfl)]
        exact ⟨_, _, _, _, σ, rfl, rfl, SI_upb e3 (by omega), FrL_t f1 e4, f2, f3, f4⟩
      · rw [e1, mz_b2, if_neg (show ¬ y = -nI 1 from e2), e3, mz_b1, if_neg (show ¬ (1 : Int32) = nI 0 by decide), e4, mz_b1, e5, mz_b2, nI_add]
        exact ih (k + 1) τ i3 j4 rv3 (by omega) (by omega) e6 (FrL_t f1 e7) (Fr_t f2 e8) (F5_t f3 e9) (RvM_t f4 e10)
/-- 20: perform -/
theorem R_perform (hK : OkK K) (h : SI K W b σ i j rv) (hb2 : b < 99900) (hl : LnS i j rv) (a1 : Int32) : ∃ v i' j' σ' rv2, fX11_perform a1 i rv = some (v, i') ∧ fX12_perform a1 j rv' = some (v, j', rv2) ∧ SI K W (b + 16) σ' i' j' rv ∧ FrL [20, 23, 24, 25, 26, 27] rv i i' ∧ Fr [50, 54, 63, 65] j j' ∧ F5 (0 :: 42 :: l41) j j' ∧ RvM rv' rv2 := by
  have hm := hK.1
  have hS0 : SI K W b σ i (u2 j 50 0 0) rv := SI_f (l := []) (l5 := [50]) h (fun q k _ _ => rfl) (by simp) Fr_u (F5_w (by decide) F5_u) (by decide)
  have fr0 : Fr [50, 54, 63, 65] j (u2 j 50 0 0) := Fr_w (by decide) Fr_u
  have f50 : F5 (0 :: 42 :: l41) j (u2 j 50 0 0) := F5_w (by decide) F5_u
  obtain ⟨m, hm4, h1, h2, h3⟩ := hl
  unfold fX11_perform fX12_perform fX11_noCar fX1_sleepers
  obtain ⟨fu, hfu, hfu2⟩ := fuel_g
  rw [hfu]
  simp only [mz_lt]
  rcases mz_cases a1 with c1 | ⟨x, hx, rfl⟩
  · rw [c_linesAt0 c1, m_isLine0 c1]
    exact ⟨_, _, _, σ, _, rfl, rfl, SI_upb hS0 (by omega), FrL_f (Fr_r _ _), fr0, f50, Or.inl rfl⟩
  rw [m_isLine hm4 (by rw [u2n _ _ _ _ _ (by omega)]; exact h2) hx]
  by_cases hxm : x < m
  · obtain ⟨a, sz, hr, ha, hsep, hln⟩ := h3 x hxm
    rw [c_linesAt2 hm4 h1 hxm hr, mz_b1, mz_o1, h.1.1.1, mz_b1, mz_b1, if_pos hxm, if_neg (show ¬ (1 : Int32) = 0 by decide), u2n _ _ _ _ _ (show 26 ≠ 0 by omega), h.2.2.1.1]
    by_cases h0 : K 0 3 = 0
    · rw [if_pos (show nI (K 0 3) = 0 by rw [h0]; rfl), if_pos (show nI (K 0 3) = 0 by rw [h0]; rfl), mz_b1, if_neg (by decide)]
      exact ⟨_, _, _, σ, _, rfl, rfl, SI_upb hS0 (by omega), FrL_f (Fr_r _ _), fr0, f50, Or.inl rfl⟩
    · have hne : ¬ nI (K 0 3) = 0 := by rw [q0, nI_eq (by omega) (by omega)]; exact h0
      rw [if_neg hne, if_neg hne, mz_b1, if_pos rfl, show 100 + a - 100 = a by omega]
      obtain ⟨v, i2, j2, rv2, τ, k1, k2, k3, k4, k5, k6, k7⟩ := R_perform_l (rv' := rv') hK (by omega) hb2 h.1.2.2 ha hsep (LnAt_f hln rfl rfl (u2r _ _ _ _ _ (by omega)) (u2r _ _ _ _ _ (by omega)) : LnAt i (u2 j 50 0 0) x a sz) fu 0 σ i (u2 j 50 0 0) rv' (by omega) (by have := hln.2.2.2.1; omega) hS0 (FrL_f (Fr_r _ _)) (Fr_r _ _) (F5_r _ _) (Or.inl rfl)
      rw [← q0] at k1 k2
      exact ⟨v, i2, j2, τ, rv2, k1, k2, k3, k4, Fr_t fr0 k5, F5_t f50 k6, k7⟩
  · rw [c_linesAt1 hm4 h1 (by omega) hx, mz_b1, mz_o0, mz_b1, if_neg hxm, if_pos rfl]
    exact ⟨_, _, _, σ, _, rfl, rfl, SI_upb hS0 (by omega), FrL_f (Fr_r _ _), fr0, f50, Or.inl rfl⟩
/-! run: the same on a copy -/
theorem R_run_l {x2 : Int32} (hK : OkK K) (hx4 : x < 4) (hb2 : b < 99900) (hS : SI K W b σ i j rv) (ha : a = 9 ∨ 74 ≤ a) (hsep : ∀ al, rv 23 2 = some (100 + al) → a ≠ al ∧ a ≠ al + 2 ∧ a + 1 ≠ al ∧ a + 1 ≠ al + 2) (hln : LnAt i j x a sz) : ∀ n k τ i1 j1 rv1 d y, k ≤ sz → sz - k < n → FrL [22, 23, 24] rv i i1 → Fr [50, 54, 64] j j1 → F5 (0 :: l41) j j1 → RvM rv' rv1 → OkS K (b + k) τ → ScC τ (i1 22) → ScM K τ (j1 64) → LgM d y (j1 64) →
    ∃ v i2 j2 rv2, fX11_run_46 n x2 a (nI k) i1 rv = some (v, i2) ∧ fX12_run_47 n (nI x) x2 (nI k) j1 rv1 = some (v, j2, rv2) ∧ FrL [22, 23, 24] rv i i2 ∧ Fr [50, 54, 64] j j2 ∧ F5 (0 :: l41) j j2 ∧ RvM rv' rv2 := by
  have hsz := hln.2.2.2.1
  have hm := hK.1
  have fin : ∀ k τ i1 j1 rv1, k ≤ sz → FrL [22, 23, 24] rv i i1 → Fr [50, 54, 64] j j1 → F5 (0 :: l41) j j1 → RvM rv' rv1 → OkS K (b + k) τ → ScC τ (i1 22) → ScM K τ (j1 64) → LnAt i1 j1 x a sz → ∃ v i2 j2 rv2, fX11_run_97 x2 a (nI k) i1 rv = some (v, i2) ∧ fX12_run_98 (nI x) x2 (nI k) j1 rv1 = some (v, j2, rv2) ∧ FrL [22, 23, 24] rv i i2 ∧ Fr [50, 54, 64] j j2 ∧ F5 (0 :: l41) j j2 ∧ RvM rv' rv2 := by
    intro k τ i1 j1 rv1 hk f1 f2 f3 f4 hok hs hs' hln1
    have hc1 : CarM K j1 := CarM_f hS.2.2.1 f2 f3 (by decide) (by decide) (by decide) (by decide) (by decide) (by decide)
    have e20 : ScC σ (i1 20) := by rw [FrL_row hS.1.2.2 f1 (by decide) (by omega) (by omega) (by omega)]; exact hS.1.2.1
    have e63 : ScM K σ (j1 63) := by rw [f2 63 (by decide)]; exact hS.2.2.2.1
    unfold fX11_run_97 fX12_run_98 fX5_size
    rw [s_lostInAll (q := 21) hs, s_lostInAll (q := 19) e20, m_lostIn hc1 hK hok hs' (by omega) (by omega), m_lostIn hc1 hK hS.2.1 e63 (by omega) (by omega), if_pos (mz_in (by omega) (by omega)), nI_clamp (by omega), hln1.1, hln1.2.1]
    by_cases h1 : x2 = 1
    · rw [if_pos h1, if_pos h1]
      exact ⟨_, _, _, _, rfl, rfl, f1, f2, f3, f4⟩
    · rw [if_neg h1, if_neg h1, mz_b1]
      by_cases h2 : nI k = nI sz
      · rw [if_pos h2, if_pos h2]
        exact ⟨_, _, _, _, rfl, rfl, f1, f2, f3, f4⟩
      · rw [if_neg h2, if_neg h2]
        exact ⟨_, _, _, _, rfl, rfl, f1, f2, f3, f4⟩
  intro n
  induction n with
  | zero => intro k τ i1 j1 rv1 d y h1 h2; omega
  | succ n ih =>
    intro k τ i1 j1 rv1 d y h1 h2 f1 f2 f3 f4 hok hs hs' hlg
    have hr := FrL_ln f1 hsep (by simp; omega) (by simp; omega)
    have hln1 : LnAt i1 j1 x a sz := LnAt_f hln hr.1 hr.2 (f2 61 (by decide)) (f2 62 (by decide))
    have hc1 : CarM K j1 := CarM_f hS.2.2.1 f2 f3 (by decide) (by decide) (by decide) (by decide) (by decide) (by decide)
    have hL1 : LawM W j1 := LawM_f hS.2.2.2.2.1 f2 f3 (by decide) (by decide) (by decide)
    have hC1 : CarC 15 K i1 := CarC_L hS.1.1 hS.1.2.2 f1 (fun q h1 h2 h3 => by simp at h3; omega)
    have hLC : LawC W i1 rv := FrL_law hS.1.2.2 f1 (by decide)
    rw [fX11_run_46, fX12_run_47]
    unfold fX5_size
    rw [hln1.1, mz_b1, if_pos (mz_in (by omega) (by omega)), nI_clamp (by omega), hln1.2.1]
    by_cases h3 : k = sz
    · rw [if_pos (nI_le (by omega) (by omega)), if_pos (nI_le (by omega) (by omega))]
      exact fin k τ i1 j1 rv1 h1 f1 f2 f3 f4 hok hs hs' hln1
    · obtain ⟨kd, hkd, _, ek⟩ := hln1.2.2.2.2.1 k (by omega)
      rw [if_neg (nI_ge (by omega) (by omega)), if_neg (nI_ge (by omega) (by omega)), q0, q1, q2, c_part hln1 (by omega) (by omega), mz_b1, c_part hln1 (by omega) (by omega), mz_b1, c_part hln1 (by omega) (by omega), mz_b1, show 3 * (16 * nI x + nI k) = nI (48 * x + 3 * k) from by
        rw [q16, mz_mul, nI_add, q3, mz_mul]
        congr 1
        omega, show 48 * x + 3 * k + 0 = 48 * x + 3 * k from rfl, ek]
      have hcan := M_canStep (W := W) (w := 64) (x := 48 * x + 3 * k) hc1 hK hok hs' (by omega) hkd ek
      rcases C_done (a1 := j1 61 (48 * x + 3 * k + 1)) (a2 := j1 61 (48 * x + 3 * k + 2)) (q := 21) hC1 hK hok (show b + k < 100000 by omega) hs (Or.inr rfl) hLC hkd with ⟨e, hno⟩ | ⟨v, σ', i2, hA, e, e2, e3, e23⟩
      · rcases hcan with ⟨c1, _⟩ | ⟨_, hy⟩
        · rw [e, mz_b2, if_pos (show NN = -nI 1 from rfl), c1, mz_b1, if_pos (show (0 : Int32) = nI 0 from rfl)]
          exact fin k τ i1 j1 rv1 h1 f1 f2 f3 f4 hok hs hs' hln1
        · exact absurd hy hno
      · rcases hcan with ⟨_, hno⟩ | ⟨c1, _⟩
        · exact absurd ⟨v, σ', hA⟩ hno
        · have hok2 := actR_ok hK hok hA
          obtain ⟨j2, rv2, k1, k2, k3, k4, k5, k6, k7⟩ := M_steps (rv := rv1) (w := 64) (x := 48 * x + 3 * k) hc1 hK hok (by omega) hs' (Or.inr rfl) hL1 hlg (by omega) hkd ek hA
          have hlg2 : ∃ d2 y2, LgM d2 y2 (j2 64) := by
            by_cases h5 : kd = 5
            · rcases id hA with ⟨h0, _⟩ | ⟨h0, _⟩ | ⟨h0, _⟩ | ⟨h0, _⟩ | ⟨h0, _⟩ | ⟨_, o, ho, ha, _⟩
              · omega
              · omega
              · omega
              · omega
              · omega
              · exact ⟨_, _, k7 o h5 ho ha⟩
            · exact ⟨d, y, LgM_e hlg (fun k hk _ => k6 (by omega) k hk)⟩
          obtain ⟨d2, y2, hlg2⟩ := hlg2
          rw [e, mz_b2, if_neg (show ¬ v = -nI 1 from hok2.2.2), c1, mz_b1, if_neg (show ¬ (1 : Int32) = nI 0 by decide), k1, mz_b2, nI_add]
          exact ih (k + 1) σ' i2 j2 rv2 d2 y2 (by omega) (by omega) (FrL_t f1 e3) (Fr_t f2 k2) (F5_t f3 (F5_w (by decide) k3)) (RvM_t f4 k4) hok2.1 e2 k5 hlg2
/-- 19: run -/
theorem R_run (hK : OkK K) (h : SI K W b σ i j rv) (hb2 : b < 99900) (hl : LnS i j rv) (a1 a2 : Int32) : ∃ v i' j' rv2, fX11_run a1 a2 i rv = some (v, i') ∧ fX12_run a1 a2 j rv' = some (v, j', rv2) ∧ FrL [22, 23, 24] rv i i' ∧ Fr [50, 54, 64] j j' ∧ F5 (0 :: l41) j j' ∧ RvM rv' rv2 := by
  have hm := hK.1
  have fr0 : Fr [50, 54, 64] j (u2 j 50 0 0) := Fr_w (by decide) Fr_u
  have f50 : F5 (0 :: l41) j (u2 j 50 0 0) := F5_w (by decide) F5_u
  obtain ⟨m, hm4, h1, h2, h3⟩ := hl
  unfold fX11_run fX12_run fX11_noCar fX1_sleepers
  obtain ⟨fu, hfu, hfu2⟩ := fuel_g
  rw [hfu]
  simp only [mz_lt]
  rcases mz_cases a1 with c1 | ⟨x, hx, rfl⟩
  · rw [c_linesAt0 c1, m_isLine0 c1]
    exact ⟨_, _, _, _, rfl, rfl, FrL_f (Fr_r _ _), fr0, f50, Or.inl rfl⟩
  rw [m_isLine hm4 (by rw [u2n _ _ _ _ _ (by omega)]; exact h2) hx]
  by_cases hxm : x < m
  · obtain ⟨a, sz, hr, ha, hsep, hln⟩ := h3 x hxm
    rw [c_linesAt2 hm4 h1 hxm hr, mz_b1, mz_o1, h.1.1.1, mz_b1, mz_b1, if_pos hxm, if_neg (show ¬ (1 : Int32) = 0 by decide), u2n _ _ _ _ _ (show 26 ≠ 0 by omega), h.2.2.1.1]
    by_cases h0 : K 0 3 = 0
    · rw [if_pos (show nI (K 0 3) = 0 by rw [h0]; rfl), if_pos (show nI (K 0 3) = 0 by rw [h0]; rfl), mz_b1, if_neg (by decide)]
      exact ⟨_, _, _, _, rfl, rfl, FrL_f (Fr_r _ _), fr0, f50, Or.inl rfl⟩
    · have hne : ¬ nI (K 0 3) = 0 := by rw [q0, nI_eq (by omega) (by omega)]; exact h0
      rw [if_neg hne, if_neg hne, mz_b1, if_pos rfl]
      rcases mz_cases a2 with c2 | ⟨z, hz, rfl⟩
      · rw [if_pos (show a2 < 0 from c2), L0, mz_isG (by omega) c2]
        exact ⟨_, _, _, _, rfl, rfl, FrL_f (Fr_r _ _), fr0, f50, Or.inl rfl⟩
      · rw [if_neg (show ¬ nI z < 0 from nI_nlt (a := z) (b := 0) (by omega) (by omega)), L0, L1, mz_isN (by omega) (by omega) (by omega), mz_b1]
        by_cases hz1 : z ≤ 1
        · have hcp : fX8_copyFrom 21 19 i = some (cp2 i (i 20) 0 22 0 56) := by
            unfold fX8_copyFrom
            simp (disch := omega) only [q56, q0, nI_clamp, mz_ltp, Nat.not_lt_zero, not_false_eq_true, true_and]
            rw [if_pos (by omega), mz_lt]
          obtain ⟨j1, k1, k2, k3⟩ := m_copy (j := u2 j 50 0 0) (w0 := 63) (w := 64) (x := min 60 (σ 55)) (by omega) (by omega) (by rw [u2r _ _ _ _ _ (by omega)]; exact h.2.2.2.2.2.1.1)
          have e64 : ∀ k, k < 56 + 4 * min 60 (σ 55) → j1 64 k = j 63 k := fun k hk => by rw [k3 k hk, u2r _ _ _ _ _ (by omega)]
          have e22 : ∀ c, c < 56 → cp2 i (i 20) 0 22 0 56 22 c = i 20 c := fun c hc => by
            rw [cp2s, pk_cpy_in (by omega) (by omega)]
            congr 1
            omega
          have f1 : Fr [50, 54, 64] j j1 := Fr_t fr0 (Fr_w (by decide) k2)
          have f2 : F5 (0 :: l41) j j1 := F5_t f50 (fun k _ => by rw [k2 50 (by decide)])
          rw [if_pos (show nI z ≤ 1 from nI_le (a := z) (b := 1) hz1 (by omega)), if_neg (show ¬ (if 0 ≤ z ∧ z ≤ 1 then (1 : Int32) else 0) = 0 from by rw [if_pos (by omega)]; decide), hcp, mz_b1, k1, mz_b1, show 100 + a - 100 = a by omega]
          obtain ⟨v, i2, j2, rv2, p1, p2, p3, p4, p5, p6⟩ := R_run_l (x2 := nI z) (rv' := rv') hK (by omega) hb2 h ha hsep hln fu 0 σ (cp2 i (i 20) 0 22 0 56) j1 rv' (i 27) (σ 55) (by omega) (by have := hln.2.2.2.1; omega) (FrL_f (fun q hq => cp2r _ _ _ _ _ _ _ (fun e => hq (by simp [e])))) f1 f2 (Or.inl rfl) h.2.1 (fun c hc => by rw [e22 c hc]; exact h.1.2.1 c hc) (ScM_e hK h.2.1 h.2.2.2.1 (fun k hk => e64 k (by omega))) (LgM_e h.2.2.2.2.2.1 (fun k _ hk => e64 k hk))
          rw [← q0] at p1 p2
          exact ⟨v, i2, j2, rv2, p1, p2, p3, p4, p5, p6⟩
        · rw [if_neg (show ¬ nI z ≤ 1 from nI_ge (a := 1) (b := z) (by omega) (by omega)), if_pos (show (if 0 ≤ z ∧ z ≤ 1 then (1 : Int32) else 0) = 0 from if_neg (by omega))]
          exact ⟨_, _, _, _, rfl, rfl, FrL_f (Fr_r _ _), fr0, f50, Or.inl rfl⟩
  · rw [c_linesAt1 hm4 h1 (by omega) hx, mz_b1, mz_o0, mz_b1, if_neg hxm, if_pos rfl]
    exact ⟨_, _, _, _, rfl, rfl, FrL_f (Fr_r _ _), fr0, f50, Or.inl rfl⟩
end PF
