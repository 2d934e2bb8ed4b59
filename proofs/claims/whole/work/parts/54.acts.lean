/-! the public acts but the border -/
section PA
variable {i i' i1 i2 i3 j j' j1 j2 : Tb} {rv rv' rv2 : Nat → Nat → Option Nat} {W : Option ((Nat → Nat) → Int)} {K g : Nat → Nat → Nat} {σ τ σ' : Nat → Nat} {q p o k b b' t w w0 v n r z c s re x ac nx B B' kd : Nat} {l l5 : List Nat} {d d' : Nat → Int32} {us : Nat → Nat → Nat} {a1 a2 y : Int32}
/-- the class's act, no border -/
theorem C_actn (hK : OkK K) (h : SI K W b σ i j rv) (hb2 : b < 100000) (h7 : UnR K b (σ 55) i j ac nx us) (hkd : kd < 5) :
    (∃ i1, fX11_act (nI kd) a1 a2 i rv = some (NN, i1) ∧ (¬ ∃ y σ', actR K W σ kd a1 a2 y σ') ∧ i1 = cp2 i (i 20) 0 26 (nx * 56) 56) ∨
    ∃ y σ' i3, actR K W σ kd a1 a2 y σ' ∧ fX11_act (nI kd) a1 a2 i rv = some (y, i3) ∧ FrL [20, 23, 24, 25, 26, 27] rv i i3 ∧ ScC σ' (i3 20) ∧ i3 26 = va_cpy (i 20) (i 26) 0 (nx * 56) 56 ∧ i3 25 4 = nI ((nx + 1) % 41) ∧ i3 25 5 = nI (min 40 (ac + 1)) ∧ i3 25 6 = i 25 6 ∧ i3 27 = i 27 := by
  obtain ⟨hn, hfr, hU⟩ := SI_note h h7
  rcases C_done (a1 := a1) (a2 := a2) (q := 19) hn.1.1 hK hn.2.1 hb2 hn.1.2.1 (Or.inl rfl) hn.1.2.2 (show kd < 6 by omega) with ⟨e, hno⟩ | ⟨y, σ', i2, hA, e, e2, e3, _⟩
  · exact Or.inl ⟨_, C_act0 h7 e, hno, rfl⟩
  · have hne := (actR_ok hK h.2.1 hA).2.2
    have hk5 : nI kd ≠ 5 := by
      rw [q5]
      exact fun e => by have := nI_inj e (by omega) (by omega); omega
    obtain ⟨i3, g1, g2, g3, g4, g5, g6, g7, g8⟩ := C_act1 h7 h.1.2.2 e hne hk5 e3
    exact Or.inr ⟨y, σ', i3, hA, g1, g2, by rw [g3]; exact e2, g4, g5, g6, g7, g8⟩
/-- an act that can't be leaves all as it was -/
theorem SI_no (h : SI K W b σ i j rv) (h7 : UnR K b (σ 55) i j ac nx us) : SI K W b σ (cp2 i (i 20) 0 26 (nx * 56) 56) (u2 j 50 0 0) rv ∧ FrL [20, 23, 24, 25, 26, 27] rv i (cp2 i (i 20) 0 26 (nx * 56) 56) ∧ Fr [50, 54, 63, 65] j (u2 j 50 0 0) ∧ F5 (0 :: 42 :: l41) j (u2 j 50 0 0) := by
  obtain ⟨hn, hfr, _⟩ := SI_note h h7
  refine ⟨SI_f (l := []) (l5 := [50]) hn (fun q k _ _ => rfl) (by simp) Fr_u (F5_w (by decide) F5_u) (by decide), FrL_f (Fr_w (by decide) hfr), Fr_w (by decide) Fr_u, F5_w (by decide) F5_u⟩
/-- both sides together, no border -/
theorem SI_yes (hK : OkK K) (h : SI K W b σ i j rv) (h7 : UnR K b (σ 55) i j ac nx us) (hA : actR K W σ kd a1 a2 y σ') {i3 j1 j2 : Tb}
    (g2 : FrL [20, 23, 24, 25, 26, 27] rv i i3) (g3 : ScC σ' (i3 20)) (g4 : i3 26 = va_cpy (i 20) (i 26) 0 (nx * 56) 56) (g5 : i3 25 4 = nI ((nx + 1) % 41)) (g6 : i3 25 5 = nI (min 40 (ac + 1))) (g7 : i3 25 6 = i 25 6) (g8 : i3 27 = i 27)
    (r1 : Fr [50, 65] (u2 j 50 0 0) j1) (r2 : F5 [42] (u2 j 50 0 0) j1) (r3 : j1 50 42 = nI (min 40 (ac + 1))) (r4 : ∀ c, c < 296 → j1 65 (296 * (min 40 (ac + 1) - 1) + c) = u2 j 50 0 0 63 c) (r5 : ∀ x c, x < min 40 (ac + 1) - 1 → c < 296 → j1 65 (296 * x + c) = u2 j 50 0 0 65 (296 * (if ac = 40 then x + 1 else x) + c))
    (s1 : Fr [50, 54, 63] j1 j2) (s2 : F5 l41 j1 j2) (s3 : ScM K σ' (j2 63)) (s4 : ∀ k, 55 ≤ k → j2 63 k = j1 63 k) :
    SI K W (b + 1) σ' i3 j2 rv ∧ Fr [50, 54, 63, 65] j j2 ∧ F5 (0 :: 42 :: l41) j j2 := by
  obtain ⟨ok1, e55, _⟩ := actR_ok hK h.2.1 hA
  have f1 : Fr [50, 54, 63, 65] j j2 := Fr_t (Fr_w (by decide) Fr_u) (Fr_t (Fr_w (by decide) r1) (Fr_w (by decide) s1))
  have f2 : F5 (0 :: 42 :: l41) j j2 := F5_t (F5_w (by decide) F5_u) (F5_t (F5_w (by decide) r2) (F5_w (by decide) s2))
  refine ⟨SI_push hK h h7 (by omega) ok1 g2 g3 g4 g5 g6 g7 (Or.inl ⟨e55, g8⟩) f1 f2 s3 ?_ ?_ ?_ ?_, f1, f2⟩
  · rw [g8, e55]
    refine LgM_e h.2.2.2.2.2.1 (fun k hk _ => ?_)
    rw [s4 k hk, r1 63 (by decide), u2r _ _ _ _ _ (by omega)]
  · rw [s2 42 (by decide)]
    exact r3
  · intro c hc
    rw [s1 65 (by decide), r4 c hc, u2r _ _ _ _ _ (by omega)]
  · intro x c hx hc
    rw [s1 65 (by decide), r5 x c hx hc, u2r _ _ _ _ _ (by omega)]
/-- what the reference stands in behind remember -/
theorem SI_rem (h : SI K W b σ i j rv) (h7 : UnR K b (σ 55) i j ac nx us) : ∃ j1, fX12_remember (u2 j 50 0 0) = some j1 ∧ Fr [50, 65] (u2 j 50 0 0) j1 ∧ F5 [42] (u2 j 50 0 0) j1 ∧ j1 50 42 = nI (min 40 (ac + 1)) ∧ (∀ c, c < 296 → j1 65 (296 * (min 40 (ac + 1) - 1) + c) = u2 j 50 0 0 63 c) ∧ (∀ x c, x < min 40 (ac + 1) - 1 → c < 296 → j1 65 (296 * x + c) = u2 j 50 0 0 65 (296 * (if ac = 40 then x + 1 else x) + c)) ∧ WM K W σ j1 := by
  obtain ⟨j1, r0, r1, r2, r3, r4, r5⟩ := M_remember (j := u2 j 50 0 0) h7.1 (by rw [u2n _ _ _ _ _ (by omega)]; exact h7.2.2.2.2.1)
  exact ⟨j1, r0, r1, r2, r3, r4, r5, WM_f (WM_0 (SI_WM h)) r1 r2 (by decide) (by decide)⟩
theorem SI_upb (h : SI K W b σ i j rv) (hbb : b ≤ b') : SI K W b' σ i j rv := by
  obtain ⟨h1, h2, h3, h4, h5, h6, ⟨ac, nx, us, h7⟩, h8⟩ := h
  exact ⟨h1, OkS_up h2 hbb, h3, h4, h5, h6, ⟨ac, nx, us, UnR_f h7 hbb rfl rfl (fun _ _ _ _ _ => rfl) rfl rfl rfl⟩, ImR_f h8 hbb rfl rfl rfl rfl rfl⟩
theorem R_move (hK : OkK K) (h : SI K W b σ i j rv) (hb2 : b < 100000) (a1 a2 : Int32) : ∃ v i' j' σ', fX11_move a1 a2 i rv = some (v, i') ∧ fX12_move a1 a2 j = some (v, j') ∧ SI K W (b + 1) σ' i' j' rv ∧ FrL [20, 23, 24, 25, 26, 27] rv i i' ∧ Fr [50, 54, 63, 65] j j' ∧ F5 (0 :: 42 :: l41) j j' := by
  have hm := hK.1
  obtain ⟨ac, nx, us, h7⟩ := h.2.2.2.2.2.2.1
  have hw0 := WM_0 (v' := 0) (SI_WM h)
  unfold fX11_move fX12_move
  simp only [mz_lt]
  have hcan := e_move (W := W) (a1 := a1) (a2 := a2) hw0.1 hK h.2.1 hw0.2.1
  rcases C_actn (kd := 0) (a1 := a1) (a2 := a2) hK h hb2 h7 (by omega) with ⟨i1, e, hno, rfl⟩ | ⟨y, σ', i3, hA, e, g2, g3, g4, g5, g6, g7, g8⟩
  · rcases hcan with ⟨e2, _⟩ | ⟨_, hy⟩
    · obtain ⟨n1, n2, n3, n4⟩ := SI_no h h7
      rw [q0] at e2 ⊢
      rw [e, e2]
      exact ⟨_, _, _, σ, rfl, rfl, SI_upb n1 (by omega), n2, n3, n4⟩
    · exact absurd hy hno
  · rcases hcan with ⟨_, hno⟩ | ⟨e2, _⟩
    · exact absurd ⟨y, σ', hA⟩ hno
    · obtain ⟨j1, r0, r1, r2, r3, r4, r5, r6⟩ := SI_rem h h7
      rcases id hA with ⟨_, r, q, hr, hq, hne, rfl, rfl, rfl, rfl⟩ | ⟨h0, _⟩ | ⟨h0, _⟩ | ⟨h0, _⟩ | ⟨h0, _⟩ | ⟨h0, _⟩
      · obtain ⟨j2, k1, k2, k3, k4⟩ := m_moves (w := 63) r6.1 hK h.2.1 r6.2.1 (by omega) hr hq
        have hp := OkS_dr h.2.1 r hr
        obtain ⟨m1, m2, m3⟩ := SI_yes hK h h7 hA g2 g3 g4 g5 g6 g7 g8 r1 r2 r3 r4 r5 (Fr_w (by decide) k2) (fun k hk => by rw [k2 50 (by decide)]) k3 (fun k hk => k4 k (by omega))
        rw [q0] at e2 r0 ⊢
        rw [e, e2, r0]
        simp (disch := omega) only [↓mz_lt, ↓mz_b1, ↓mz_b2, ↓mz_b3, mz_b1, mz_b2, mz_b3, mz_lt, mz_o0, mz_o1, nI_add, mz_mul, mz_sub, nI_clamp, mz_in, mz_le, mz_ltp, mz_eq, mz_nm, mz_mn, mz_ml, mz_mlt, mz_nl, mz_mle, qNN, q0, q1, q2, q3, q4, q5, q6, q7, q8, q9, q10, q11, q12, q13, q14, q15, q16, q17, q18, q19, q20, q21, q22, q23, q24, q25, q26, q27, q28, q29, q30, q31, q32, q33, q34, q35, q36, q37, q38, q39, q40, q41, q42, q43, q44, q45, q46, q47, q48, q49, q50, q51, q52, q53, q54, q55, q56, q57, q58, q59, q60, q61, q62, q63, q64, q65, q66, q67, q68, q69, q70, q71, q72, q73, q74, q75, q76, q77, q78, q79, q80, q81, q82, q83, q84, q85, q86, q87, q88, q89, q90, q91, q92, q93, q94, q95, q96, q97, q98, q99, q100, q101, q102, q103, q104, q105, q106, q107, q108, q109, q110, q111, q112, q113, q114, q115, q116, q117, q118, q119, q120, q121, q122, q123, q124, q125, q126, q127, q128, q129, q130, q240, q255, q256, q296, q400, q600, q896, q960, q999, q1000, q11544, q11840, q1000000, q1000000000, ↓reduceIte, if_pos, if_neg, ↓reduceIte, u2r, u2e, u2n, cp2r, cp2s, r6.2.1.2.2.1 r hr, k1]
        exact ⟨_, _, _, _, rfl, rfl, m1, g2, m2, m3⟩
      · omega
      · omega
      · omega
      · omega
      · omega
theorem R_say (hK : OkK K) (h : SI K W b σ i j rv) (hb2 : b < 100000) (a1 a2 : Int32) : ∃ v i' j' σ', fX11_say a1 a2 i rv = some (v, i') ∧ fX12_say a1 a2 j = some (v, j') ∧ SI K W (b + 1) σ' i' j' rv ∧ FrL [20, 23, 24, 25, 26, 27] rv i i' ∧ Fr [50, 54, 63, 65] j j' ∧ F5 (0 :: 42 :: l41) j j' := by
  have hm := hK.1
  obtain ⟨ac, nx, us, h7⟩ := h.2.2.2.2.2.2.1
  have hw0 := WM_0 (v' := 0) (SI_WM h)
  unfold fX11_say fX12_say
  simp only [mz_lt]
  have hcan := e_say (W := W) (a1 := a1) (a2 := a2) hw0.1 hK h.2.1 hw0.2.1
  rcases C_actn (kd := 1) (a1 := a1) (a2 := a2) hK h hb2 h7 (by omega) with ⟨i1, e, hno, rfl⟩ | ⟨y, σ', i3, hA, e, g2, g3, g4, g5, g6, g7, g8⟩
  · rcases hcan with ⟨e2, _⟩ | ⟨_, hy⟩
    · obtain ⟨n1, n2, n3, n4⟩ := SI_no h h7
      rw [show (1 : Int32) = nI 1 from rfl, e, e2]
      exact ⟨_, _, _, σ, rfl, rfl, SI_upb n1 (by omega), n2, n3, n4⟩
    · exact absurd hy hno
  · rcases hcan with ⟨_, hno⟩ | ⟨e2, _⟩
    · exact absurd ⟨y, σ', hA⟩ hno
    · obtain ⟨j1, r0, r1, r2, r3, r4, r5, r6⟩ := SI_rem h h7
      rw [show (1 : Int32) = nI 1 from rfl, e, e2, r0]
      rcases id hA with ⟨h0, _⟩ | ⟨_, p, v, hp, hc, hl, hv, hne, rfl, rfl, rfl, rfl⟩ | ⟨h0, _⟩ | ⟨h0, _⟩ | ⟨h0, _⟩ | ⟨h0, _⟩
      · omega
      · have hf2 : Fr [50, 54, 63] j1 (u2 j1 63 (6 * p + 2) (nI v)) := Fr_w (by decide) Fr_u
        obtain ⟨m1, m2, m3⟩ := SI_yes hK h h7 hA g2 g3 g4 g5 g6 g7 g8 r1 r2 r3 r4 r5 hf2 (fun k hk => by rw [u2r _ _ _ _ _ (by omega)]) (ScM_said hK h.2.1 r6.2.1 hp) (fun k hk => u2n _ _ _ _ _ (by omega))
        simp (disch := omega) only [q6, q2, q0, q1, mz_mul, nI_add, mz_in, nI_clamp, mz_b1, mz_b2, mz_lt, mz_eq, if_pos, if_neg, ↓reduceIte, (r6.2.1.1 p hp).2.1]
        exact ⟨_, _, _, _, rfl, rfl, m1, g2, m2, m3⟩
      · omega
      · omega
      · omega
      · omega
theorem R_wake (hK : OkK K) (h : SI K W b σ i j rv) (hb2 : b < 100000) (a1 : Int32) : ∃ v i' j' σ' rv2, fX11_wake a1 i rv = some (v, i') ∧ fX12_wake a1 j rv' = some (v, j', rv2) ∧ SI K W (b + 1) σ' i' j' rv ∧ FrL [20, 23, 24, 25, 26, 27] rv i i' ∧ Fr [50, 54, 63, 65] j j' ∧ F5 (0 :: 42 :: l41) j j' ∧ RvM rv' rv2 := by
  have hm := hK.1
  obtain ⟨ac, nx, us, h7⟩ := h.2.2.2.2.2.2.1
  have hw0 := WM_0 (v' := 0) (SI_WM h)
  unfold fX11_wake fX12_wake
  simp only [mz_lt]
  have hcan := e_wake (W := W) (a1 := a1) (a2 := (-1)) hw0.1 hK h.2.1 hw0.2.1
  rcases C_actn (kd := 2) (a1 := a1) (a2 := (-1)) hK h hb2 h7 (by omega) with ⟨i1, e, hno, rfl⟩ | ⟨y, σ', i3, hA, e, g2, g3, g4, g5, g6, g7, g8⟩
  · rcases hcan with ⟨e2, _⟩ | ⟨_, hy⟩
    · obtain ⟨n1, n2, n3, n4⟩ := SI_no h h7
      rw [show (2 : Int32) = nI 2 from rfl, e, e2]
      exact ⟨_, _, _, σ, _, rfl, rfl, SI_upb n1 (by omega), n2, n3, n4, Or.inl rfl⟩
    · exact absurd hy hno
  · rcases hcan with ⟨_, hno⟩ | ⟨e2, _⟩
    · exact absurd ⟨y, σ', hA⟩ hno
    · obtain ⟨j1, r0, r1, r2, r3, r4, r5, r6⟩ := SI_rem h h7
      rw [show (2 : Int32) = nI 2 from rfl, e, e2, r0]
      rcases id hA with ⟨h0, _⟩ | ⟨h0, _⟩ | ⟨_, p, hp, hsl, rfl, rfl, rfl⟩ | ⟨h0, _⟩ | ⟨h0, _⟩ | ⟨h0, _⟩
      · omega
      · omega
      · obtain ⟨j2, rv2, k1, k2, k3, k4, k5, k6⟩ := M_wakes (rv := rv') (w := 63) (t := 0) (o := 9) r6.1 hK h.2.1 (by omega) r6.2.1 (Or.inl rfl) r6.2.2.1 hp (by omega) (by omega)
        obtain ⟨m1, m2, m3⟩ := SI_yes hK h h7 hA g2 g3 g4 g5 g6 g7 g8 r1 r2 r3 r4 r5 (Fr_w (by decide) k2) (F5_w (by decide) k3) k5 (fun k hk => k6 k (by omega))
        simp (disch := omega) only [q0, q1, q9, mz_b1, mz_b2, mz_eq, if_pos, if_neg, ↓reduceIte, k1, mz_b3]
        exact ⟨_, _, _, _, _, rfl, rfl, m1, g2, m2, m3, k4⟩
      · omega
      · omega
      · omega
theorem R_lie (hK : OkK K) (h : SI K W b σ i j rv) (hb2 : b < 100000) (a1 : Int32) : ∃ v i' j' σ', fX11_lie a1 i rv = some (v, i') ∧ fX12_lie a1 j = some (v, j') ∧ SI K W (b + 1) σ' i' j' rv ∧ FrL [20, 23, 24, 25, 26, 27] rv i i' ∧ Fr [50, 54, 63, 65] j j' ∧ F5 (0 :: 42 :: l41) j j' := by
  have hm := hK.1
  obtain ⟨ac, nx, us, h7⟩ := h.2.2.2.2.2.2.1
  have hw0 := WM_0 (v' := 0) (SI_WM h)
  unfold fX11_lie fX12_lie
  simp only [mz_lt]
  have hcan := e_lie (W := W) (a1 := a1) (a2 := (-1)) hw0.1 hK h.2.1 hw0.2.1
  rcases C_actn (kd := 3) (a1 := a1) (a2 := (-1)) hK h hb2 h7 (by omega) with ⟨i1, e, hno, rfl⟩ | ⟨y, σ', i3, hA, e, g2, g3, g4, g5, g6, g7, g8⟩
  · rcases hcan with ⟨e2, _⟩ | ⟨_, hy⟩
    · obtain ⟨n1, n2, n3, n4⟩ := SI_no h h7
      rw [show (3 : Int32) = nI 3 from rfl, e, e2]
      exact ⟨_, _, _, σ, rfl, rfl, SI_upb n1 (by omega), n2, n3, n4⟩
    · exact absurd hy hno
  · rcases hcan with ⟨_, hno⟩ | ⟨e2, _⟩
    · exact absurd ⟨y, σ', hA⟩ hno
    · obtain ⟨j1, r0, r1, r2, r3, r4, r5, r6⟩ := SI_rem h h7
      rw [show (3 : Int32) = nI 3 from rfl, e, e2, r0]
      rcases id hA with ⟨h0, _⟩ | ⟨h0, _⟩ | ⟨h0, _⟩ | ⟨_, p, hp, hsl, rfl, rfl, rfl⟩ | ⟨h0, _⟩ | ⟨h0, _⟩
      · omega
      · omega
      · omega
      · have hf2 : Fr [50, 54, 63] j1 (u2 j1 63 (6 * p + 3) (nI 1)) := Fr_w (by decide) Fr_u
        have hs2 : ScM K (up σ (27 + p) 1) (u2 j1 63 (6 * p + 3) (nI 1) 63) := ScM_asl hK h.2.1 r6.2.1 hp
        obtain ⟨m1, m2, m3⟩ := SI_yes hK h h7 hA g2 g3 g4 g5 g6 g7 g8 r1 r2 r3 r4 r5 hf2 (fun k hk => by rw [u2r _ _ _ _ _ (by omega)]) hs2 (fun k hk => u2n _ _ _ _ _ (by omega))
        simp (disch := omega) only [q6, q3, q0, q1, mz_mul, nI_add, mz_in, nI_clamp, mz_b1, mz_b2, mz_lt, mz_eq, if_pos, if_neg, ↓reduceIte]
        rw [m_asleepIn m1.2.2.1 hK m1.2.1 hs2 (by omega) (by omega), mz_b1]
        exact ⟨_, _, _, _, rfl, rfl, m1, g2, m2, m3⟩
      · omega
      · omega
end PA
