/-! nights: one, then all -/
section NG2
variable {i i' i1 i2 i3 j j' j1 j2 : Tb} {rv rv' rv2 : Nat → Nat → Option Nat} {lo lo' : Nat → Nat → Int64} {W : Option ((Nat → Nat) → Int)} {K g : Nat → Nat → Nat} {σ τ σ' ρ : Nat → Nat} {q p o k b b' t w w0 v n r z c s re x ac nx B B' kd m y dr : Nat} {l l5 : List Nat} {d d' : Nat → Int32} {us : Nat → Nat → Nat} {X : Int64}
/-- one night -/
theorem R_night (hK : OkK K) (h : SI K W b σ i j rv) (hb2 : b < 99990) (hn : 0 < K 0 3) (hd : i 0 11 = nI dr) (hd' : j 50 36 = nI dr) (hdr : dr ≤ 99) (e1 : lo 0 13 = X) (e2 : lo' 50 43 = X) {x1 x4 : Int32} {kh : Int32 → Int32 → (Nat → Nat → Int32) → (Nat → Nat → Int64) → (Nat → Nat → Option Nat) → Option ((Int32) × (Nat → Nat → Int32) × (Nat → Nat → Int64) × (Nat → Nat → Option Nat))} :
    ∃ i0 i1 i3 j3 τ L L' X' j1 o lo1 j2 rv2, fX6_note 19 i = some i0 ∧ fX11_spendNight i0 lo rv = some (i1, L) ∧ fX6_keepAct i1 = some i3 ∧ fX12_remember j = some j1 ∧ fX12_drawnOfficer j1 lo' = some (o, lo1) ∧ fX12_goesBorder 63 296 o j1 rv' = some (j2, rv2) ∧ fX12_nights_59 kh fuel x1 x4 0 j2 lo1 rv2 = kh x1 (x4 + 1) j3 L' rv2 ∧ L 0 13 = X' ∧ L' 50 43 = X' ∧
    SI K W (b + 1) τ i3 j3 rv ∧ FrL [20, 23, 24, 25, 26, 27] rv i i3 ∧ Fr [50, 54, 63, 65] j j3 ∧ F5 (0 :: 42 :: l41) j j3 ∧ RvM rv' rv2 := by
  have hm := hK.1
  have hm4 := hK.2.1
  obtain ⟨ac, nx, us, h7⟩ := h.2.2.2.2.2.2.1
  obtain ⟨hnn, hfr, hU⟩ := SI_note h h7
  obtain ⟨fu, hfu, hfu2⟩ := fuel_g
  obtain ⟨j1, r0, r1, r2, r3, r4, r5⟩ := M_remember (j := j) h7.1 h7.2.2.2.2.1
  have hw1 : WM K W σ j1 := WM_f (SI_WM h) r1 r2 (by decide) (by decide)
  obtain ⟨o, X1, L1, L1', ho, d1, d2, d3, d4⟩ := R_drawO (lo := lo) (lo' := lo') hnn.1.1 hw1.1 hK (hK.2.2.2.1 hn).1 e1 e2
  have hov := oB_le hK h.2.1 ho (K 0 5) (by omega)
  -- the class's border
  obtain ⟨i2, k1, k2, k3, k4, _, k5⟩ := C_pass (q := 19) (re := 1) hnn.1.1 hK hnn.2.1 (by omega) hnn.1.2.1 (Or.inl rfl) hnn.1.2.2 ho (by omega)
  have hs2 := k5 rfl
  have row : ∀ q, q < 74 → q ∉ [20, 23, 24, 26] → q ≠ 6 → q ≠ 8 → i2 q = i q := fun q h1 h2 h3 h4 => by
    rw [FrL_row hnn.1.2.2 k2 (fun e => h2 (by simp at e ⊢; omega)) h3 h4 h1, hfr q (fun e => h2 (by simp at e ⊢; omega))]
  have hc2 : CarC 15 K i2 := CarC_f h.1.1 (fun q h1 h2 => row q (by omega) (by simp; omega) (by omega) (by omega))
  have hoK : OkS K (b + 1) (up (sB K W o σ (K 0 5)) 54 (cB σ (K 0 5))) := OkS_cof hK (sB_ok hK h.2.1 _ (by omega)) (cB_le h.2.1)
  have e55 : up (sB K W o σ (K 0 5)) 54 (cB σ (K 0 5)) 55 = σ 55 := by rw [upn _ _ _ _ (by omega), sB_q hK h.2.1 (by omega) (by omega)]
  obtain ⟨i4, g1, g2, g3, g4⟩ := C_wlog (i := i2) (y := nI o) (tens := oB K o σ (K 0 5)) (lost := lB K W o σ (K 0 5)) hc2 hK (by omega) hs2 hoK (by omega) k3
  rw [e55] at g2 g3
  have hbd := bdS_ok (W := W) (o := o) hK h.2.1
  have hr4 : ∀ q, q < 74 → q ∉ [20, 23, 24, 26, 27] → q ≠ 6 → q ≠ 8 → i4 q = i q := fun q h1 h2 h3 h4 => by
    rw [g4 q (fun e => h2 (by simp at e ⊢; omega)), row q h1 (fun e => h2 (by simp at e ⊢; omega)) h3 h4]
  have hc4 : CarC 15 K i4 := CarC_f h.1.1 (fun q h1 h2 => hr4 q (by omega) (by simp; omega) (by omega) (by omega))
  obtain ⟨i5, L5, c1, c2, c3, c4⟩ := c_lie_l (rv := rv) (S := (X1, bdS K W o σ)) (dr := dr) hK hbd hc4 (by rw [hr4 0 (by omega) (by decide) (by omega) (by omega)]; exact hd) hdr fu 0 i4 L1 (by omega) (by omega) (Fr_r _ _) g2 d3
  have e4 : i5 25 4 = nI nx := by rw [c2 25 (by decide), hr4 25 (by omega) (by decide) (by omega) (by omega)]; exact h7.2.2.2.1
  have e5 : i5 25 5 = nI ac := by rw [c2 25 (by decide), hr4 25 (by omega) (by decide) (by omega) (by omega)]; exact h7.2.2.1
  -- the reference's border
  have hlg : LgM (i 27) (σ 55) (j1 63) := by
    rw [r1 63 (by decide)]
    exact h.2.2.2.2.2.1
  obtain ⟨j2, rv2, s1, s2, s3, s4, s5, s6, s7⟩ := M_goes (rv := rv') (w := 63) hw1.1 hK h.2.1 (by omega) hw1.2.1 (Or.inl rfl) hw1.2.2.1 ho hlg
  have hc2' : CarM K j2 := CarM_f hw1.1 s2 s3 (by decide) (by decide) (by decide) (by decide) (by decide) (by decide)
  obtain ⟨j3, L3, t1, t2, t3, t4, t5⟩ := m_lie_l (rv := rv2) (x1 := x1) (x4 := x4) (kh := kh) (S := (X1, bdS K W o σ)) (dr := dr) hK hbd hc2' (by rw [s3 36 (by decide), r2 36 (by decide)]; exact hd') hdr fu 0 j2 L1' (by omega) (by omega) (Fr_r _ _) (fun _ _ => rfl) s5 d4
  obtain ⟨lo1, lo2⟩ := lieN_ok (dr := dr) (s := (X1, bdS K W o σ)) hK hbd (K 0 3) (by omega)
  have hlo2 : (lieN dr (X1, bdS K W o σ) (K 0 3)).2 55 = σ 55 + 1 := by rw [lo2]; exact bdS_55 (K := K) (W := W) (o := o) (σ := σ)
  obtain ⟨m1, m2, m3⟩ := SI_bord (o := o) (j0 := j) (j1 := j1) (j2 := j3) (i3 := u2 (u2 i5 25 4 (nI ((nx + 1) % 41))) 25 5 (nI (min 40 (ac + 1)))) hK h h7 lo1 hlo2 (by
      refine FrL_t (FrL_f (Fr_w (by decide) hfr)) (FrL_t (FrL_w (by decide) k2) (FrL_f (Fr_t (Fr_w (by decide) g4) (Fr_t (Fr_w (by decide) c2) (Fr_t (Fr_w (by decide) Fr_u) (Fr_w (by decide) Fr_u)))))))
    (by rw [u2r _ _ _ _ _ (by omega), u2r _ _ _ _ _ (by omega)]; exact c3)
    (by
      rw [u2r _ _ _ _ _ (by omega), u2r _ _ _ _ _ (by omega), c2 26 (by decide), g4 26 (by decide), FrL_row hnn.1.2.2 k2 (by decide) (by omega) (by omega) (by omega)]
      exact cp2s _ _ _ _ _ _)
    (by rw [u2n _ _ _ _ _ (by omega), u2e]) (by rw [u2e])
    (by rw [u2n _ _ _ _ _ (by omega), u2n _ _ _ _ _ (by omega), c2 25 (by decide), hr4 25 (by omega) (by decide) (by omega) (by omega)])
    (by
      rw [u2r _ _ _ _ _ (by omega), u2r _ _ _ _ _ (by omega), c2 27 (by decide), g3, row 27 (by omega) (by decide) (by omega) (by omega)]
      rfl)
    (Fr_r _ _) (F5_r _ _) r1 r2 r3 r4 r5 (Fr_t (Fr_w (by decide) s2) (Fr_w (by decide) t2)) (F5_t s3 (fun k hk => by rw [t2 50 (by decide)])) t4 (LgM_e s6 (fun k hk _ => t3 k (by omega)))
  refine ⟨_, _, _, j3, _, L5, L3, _, j1, nI o, L1', j2, rv2, C_note h7.2.1 h7.2.2.2.1, ?_, C_keep h7.2.1 h7.1 e4 e5, r0, d2, s1, by rw [hfu]; exact t1, c4, t5, m1, ?_, m2, m3, s4⟩
  · unfold fX11_spendNight
    rw [hfu, d1, mz_b2, q1, k1, mz_b2, g1, mz_b1]
    exact c1
  · exact FrL_t (FrL_f (Fr_w (by decide) hfr)) (FrL_t (FrL_w (by decide) k2) (FrL_f (Fr_t (Fr_w (by decide) g4) (Fr_t (Fr_w (by decide) c2) (Fr_t (Fr_w (by decide) Fr_u) (Fr_w (by decide) Fr_u))))))
theorem R_nights_l (hK : OkK K) (hn : 0 < K 0 3) (hdr : dr ≤ 99) (hx20 : x ≤ 20) (hd : i 0 11 = nI dr) (hd' : j 50 36 = nI dr) (h0 : LawC W i rv) (hb2 : b < 99900) : ∀ n k σ i1 j1 lo lo' rv1 X, k ≤ x → x - k < n → SI K W (b + k) σ i1 j1 rv → FrL [20, 23, 24, 25, 26, 27] rv i i1 → Fr [50, 54, 63, 65] j j1 → F5 (0 :: 42 :: l41) j j1 → RvM rv' rv1 → lo 0 13 = X → lo' 50 43 = X →
    ∃ v i2 L j2 L' rv2 τ, fX11_nights_28 n (nI x) (nI k) i1 lo rv = some (v, i2, L) ∧ fX12_nights_34 n (nI x) (nI k) j1 lo' rv1 = some (v, j2, L', rv2) ∧ SI K W (b + x) τ i2 j2 rv ∧ FrL [20, 23, 24, 25, 26, 27] rv i i2 ∧ Fr [50, 54, 63, 65] j j2 ∧ F5 (0 :: 42 :: l41) j j2 ∧ RvM rv' rv2 := by
  intro n
  induction n with
  | zero => intro k σ i1 j1 lo lo' rv1 X h1 h2; omega
  | succ n ih =>
    intro k σ i1 j1 lo lo' rv1 X h1 h2 hS f1 f2 f3 f4 e1 e2
    rw [fX11_nights_28, fX12_nights_34]
    by_cases h3 : k = x
    · subst h3
      rw [if_pos (nI_le (by omega) (by omega)), if_pos (nI_le (by omega) (by omega)), c_logged (q := 19) hS.1.2.1 hS.2.1 (by omega), mz_b1, if_pos (show aIn 55 296 = true by rw [q55]; exact mz_in (by omega) (by omega)), q55, nI_clamp (by omega), hS.2.2.2.2.2.1.1]
      exact ⟨_, _, _, _, _, _, σ, rfl, rfl, hS, f1, f2, f3, f4⟩
    · obtain ⟨i0, ia, i3, j3, τ, L, L', X', ja, o, loa, jb, rvb, p1, p2, p3, p4, p5, p6, p7, p8, p9, p10, p11, p12, p13, p14⟩ := R_night (rv' := rv1) (x1 := nI x) (x4 := nI k) (kh := fX12_nights_34 n) (dr := dr) hK hS (by omega) hn (by rw [FrL_row h0 f1 (by decide) (by omega) (by omega) (by omega)]; exact hd) (by rw [f3 36 (by decide)]; exact hd') hdr e1 e2
      rw [if_neg (nI_ge (by omega) (by omega)), if_neg (nI_ge (by omega) (by omega)), p1, mz_b1, p2, mz_b2, p3, mz_b1, p4, mz_b1, p5, mz_b2, p6, mz_b2, p7, nI_1]
      exact ih (k + 1) τ i3 j3 L L' rvb X' (by omega) (by omega) p10 (FrL_t f1 p11) (Fr_t f2 p12) (F5_t f3 p13) (RvM_t f4 p14) p8 p9
/-- 15: nights -/
theorem R_nights (hK : OkK K) (h : SI K W b σ i j rv) (hb2 : b < 99900) (hd : i 0 11 = nI dr) (hd' : j 50 36 = nI dr) (hdr : dr ≤ 99) (a1 : Int32) (a2 : Int64) : ∃ v i' L j' L' σ' rv2, fX11_nights a1 a2 i lo rv = some (v, i', L) ∧ fX12_nights a1 a2 j lo' rv' = some (v, j', L', rv2) ∧ SI K W (b + 20) σ' i' j' rv ∧ FrL [20, 23, 24, 25, 26, 27] rv i i' ∧ Fr [50, 54, 63, 65] j j' ∧ F5 (0 :: 42 :: l41) j j' ∧ RvM rv' rv2 := by
  have hm := hK.1
  have hS0 : SI K W b σ i (u2 j 50 0 0) rv := SI_f (l := []) (l5 := [50]) h (fun q k _ _ => rfl) (by simp) Fr_u (F5_w (by decide) F5_u) (by decide)
  have fr0 : Fr [50, 54, 63, 65] j (u2 j 50 0 0) := Fr_w (by decide) Fr_u
  have f50 : F5 (0 :: 42 :: l41) j (u2 j 50 0 0) := F5_w (by decide) F5_u
  unfold fX11_nights fX12_nights fX11_noCar fX1_sleepers
  obtain ⟨fu, hfu, hfu2⟩ := fuel_g
  rw [hfu]
  simp only [mz_lt]
  rw [h.1.1.1, mz_b1, u2n _ _ _ _ _ (show 26 ≠ 0 by omega), h.2.2.1.1]
  by_cases h0 : K 0 3 = 0
  · rw [if_pos (show nI (K 0 3) = 0 by rw [h0]; rfl), if_pos (show nI (K 0 3) = 0 by rw [h0]; rfl), mz_b1, if_neg (by decide)]
    exact ⟨_, _, _, _, _, σ, _, rfl, rfl, SI_upb hS0 (by omega), FrL_f (Fr_r _ _), fr0, f50, Or.inl rfl⟩
  · have hne : ¬ nI (K 0 3) = 0 := by rw [q0, nI_eq (by omega) (by omega)]; exact h0
    rw [if_neg hne, if_neg hne, mz_b1, if_pos rfl]
    rcases mz_cases a1 with c1 | ⟨x, hx, rfl⟩
    · rw [L1, mz_isG (by omega) c1, mz_b1, if_pos rfl, if_pos (show a1 < 1 from by
        have h1 := Int32.lt_iff_toInt_lt.mp c1
        apply Int32.lt_iff_toInt_lt.mpr
        have h2 : (nI 0).toInt = 0 := by decide +kernel
        have h3 : (1 : Int32).toInt = 1 := by decide +kernel
        omega)]
      exact ⟨_, _, _, _, _, σ, _, rfl, rfl, SI_upb hS0 (by omega), FrL_f (Fr_r _ _), fr0, f50, Or.inl rfl⟩
    · rw [L1, L20, mz_isN (by omega) (by omega) (by omega), mz_b1]
      by_cases h3 : 1 ≤ x ∧ x ≤ 20
      · obtain ⟨v, i2, L, j2, L', rv2, τ, k1, k2, k3, k4, k5, k6, k7⟩ := R_nights_l (rv' := rv') (x := x) (dr := dr) hK (by omega) hdr (by omega) hd hd' h.1.2.2 hb2 fu 0 σ i (u2 j 50 0 0) (u2 lo 0 13 a2) (u2 lo' 50 43 a2) rv' a2 (by omega) (by omega) hS0 (FrL_f (Fr_r _ _)) fr0 f50 (Or.inl rfl) (u2e _ _ _ _) (u2e _ _ _ _)
        have hx1 : ¬ nI x < 1 := nI_nlt (a := x) (b := 1) (by omega) (by omega)
        have hx2 : nI x ≤ 20 := nI_le (a := x) (b := 20) (by omega) (by omega)
        rw [if_neg hx1, if_pos hx2, if_neg (show ¬ (if 1 ≤ x ∧ x ≤ 20 then (1 : Int32) else 0) = 0 from by rw [if_pos h3]; decide)]
        rw [← q0] at k1 k2
        exact ⟨v, i2, L, j2, L', τ, rv2, k1, k2, SI_upb k3 (by omega), k4, k5, k6, k7⟩
      · rw [if_pos (show (if 1 ≤ x ∧ x ≤ 20 then (1 : Int32) else 0) = 0 from if_neg h3)]
        by_cases h4 : x < 1
        · rw [if_pos (show nI x < 1 from nI_lt (a := x) (b := 1) h4 (by omega))]
          exact ⟨_, _, _, _, _, σ, _, rfl, rfl, SI_upb hS0 (by omega), FrL_f (Fr_r _ _), fr0, f50, Or.inl rfl⟩
        · rw [if_neg (show ¬ nI x < 1 from nI_nlt (a := x) (b := 1) (by omega) (by omega)), if_neg (show ¬ nI x ≤ 20 from nI_ge (a := 20) (b := x) (by omega) (by omega))]
          exact ⟨_, _, _, _, _, σ, _, rfl, rfl, SI_upb hS0 (by omega), FrL_f (Fr_r _ _), fr0, f50, Or.inl rfl⟩
end NG2
