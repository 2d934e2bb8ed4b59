/-! swap and border -/
section PB
variable {i i' i1 i2 i3 j j' j1 j2 : Tb} {rv rv' rv2 : Nat → Nat → Option Nat} {W : Option ((Nat → Nat) → Int)} {K g : Nat → Nat → Nat} {σ τ σ' : Nat → Nat} {q p o k b b' t w w0 v n r z c s re x ac nx B B' kd : Nat} {l l5 : List Nat} {d d' : Nat → Int32} {us : Nat → Nat → Nat} {a1 a2 y : Int32}
theorem m_swaps (hK : OkK K) (hb : OkS K b σ) (hw : ScM K σ (j w)) (hp : p < K 0 3) (ho : o < K 0 3) (hne : p ≠ o) : fX12_swaps w 296 (nI p) (nI o) j = some (u2 (u2 j w (6 * p) (nI (σ o))) w (6 * o) (nI (σ p))) := by
  have hm := hK.1
  unfold fX12_swaps
  simp (disch := omega) only [q6, q0, mz_mul, nI_add, Nat.add_zero, mz_in, nI_clamp, ↓reduceIte, mz_lt, (hw.1 p hp).1, (hw.1 o ho).1]
theorem R_swap (hK : OkK K) (h : SI K W b σ i j rv) (hb2 : b < 100000) (a1 a2 : Int32) : ∃ v i' j' σ', fX11_swap a1 a2 i rv = some (v, i') ∧ fX12_swap a1 a2 j = some (v, j') ∧ SI K W (b + 1) σ' i' j' rv ∧ FrL [20, 23, 24, 25, 26, 27] rv i i' ∧ Fr [50, 54, 63, 65] j j' ∧ F5 (0 :: 42 :: l41) j j' := by
  have hm := hK.1
  obtain ⟨ac, nx, us, h7⟩ := h.2.2.2.2.2.2.1
  have hw0 := WM_0 (v' := 0) (SI_WM h)
  unfold fX11_swap fX12_swap fX6_acts
  simp only [mz_lt]
  have hcan := e_swap (W := W) (a1 := a1) (a2 := a2) (σ := σ) hw0.1 hK
  rcases C_actn (kd := 4) (a1 := a1) (a2 := a2) hK h hb2 h7 (by omega) with ⟨i1, e, hno, rfl⟩ | ⟨y, σ', i3, hA, e, g2, g3, g4, g5, g6, g7, g8⟩
  · rcases hcan with ⟨e2, _⟩ | ⟨_, hy⟩
    · obtain ⟨n1, n2, n3, n4⟩ := SI_no h h7
      rw [show (4 : Int32) = nI 4 from rfl, e, e2]
      exact ⟨_, _, _, σ, rfl, rfl, SI_upb n1 (by omega), n2, n3, n4⟩
    · exact absurd hy hno
  · rcases hcan with ⟨_, hno⟩ | ⟨e2, _⟩
    · exact absurd ⟨y, σ', hA⟩ hno
    · obtain ⟨j1, r0, r1, r2, r3, r4, r5, r6⟩ := SI_rem h h7
      rw [show (4 : Int32) = nI 4 from rfl, e, e2, r0]
      rcases id hA with ⟨h0, _⟩ | ⟨h0, _⟩ | ⟨h0, _⟩ | ⟨h0, _⟩ | ⟨_, p, o, hp, ho, hne, rfl, rfl, rfl, rfl⟩ | ⟨h0, _⟩
      · omega
      · omega
      · omega
      · omega
      · have hf2 : Fr [50, 54, 63] j1 (u2 (u2 j1 63 (6 * p) (nI (σ o))) 63 (6 * o) (nI (σ p))) := Fr_t (Fr_w (by decide) Fr_u) (Fr_w (by decide) Fr_u)
        obtain ⟨m1, m2, m3⟩ := SI_yes hK h h7 hA g2 g3 g4 g5 g6 g7 g8 r1 r2 r3 r4 r5 hf2 (fun k hk => by rw [u2r _ _ _ _ _ (by omega), u2r _ _ _ _ _ (by omega)]) (ScM_sw hK h.2.1 r6.2.1 hp ho) (fun k hk => by rw [u2n _ _ _ _ _ (by omega), u2n _ _ _ _ _ (by omega)])
        rw [mz_b2, if_neg (by decide), mz_b1, mz_b1, if_neg (by decide), mz_b1, m_swaps hK h.2.1 r6.2.1 hp ho hne, mz_b1, u2r _ _ _ _ _ (by omega), u2r _ _ _ _ _ (by omega), r3, g6]
        exact ⟨_, _, _, _, rfl, rfl, m1, g2, m2, m3⟩
      · omega
theorem C_wlog (h : CarC 15 K i) (hK : OkK K) {tens lost : Nat} (ht : tens < 100000) (hs : ScC σ (i 20)) (hb : OkS K b σ) (hb2 : b < 100000) (e3 : i 23 3 = nI lost) {y : Int32} : ∃ i', fX11_writeLog y (nI tens) i = some i' ∧ ScC (up σ 55 (σ 55 + 1)) (i' 20) ∧ i' 27 = dyU (i 27) (σ 55) y (nI tens) (if tens ≤ 6 * K 1 0 then nI 0 else nI 1) (nI lost) ∧ Fr [20, 27] i i' := by
  have e0 : i 16 0 = nI (K 1 0) := h.2.2.2.1 0 (by omega)
  have hr := hK.2.2.2.2.2.1
  unfold fX11_writeLog fX11_writeLog_26 fX1_allowedTens fX3_sleepLost
  rw [e3]
  simp (disch := omega) only [q6, q0, q1, mz_in, nI_clamp, ↓reduceIte, e0, mz_mul, mz_b1, mz_le]
  by_cases hl : tens ≤ 6 * K 1 0
  · obtain ⟨i', k1, k2, k3, k4⟩ := C_write (a0 := y) (a1 := nI tens) (a2 := nI 0) (a3 := nI lost) hs hb hb2
    rw [if_pos hl, if_pos hl, k1]
    exact ⟨i', rfl, k2, k3, k4⟩
  · obtain ⟨i', k1, k2, k3, k4⟩ := C_write (a0 := y) (a1 := nI tens) (a2 := nI 1) (a3 := nI lost) hs hb hb2
    rw [if_neg hl, if_neg hl, k1]
    exact ⟨i', rfl, k2, k3, k4⟩
theorem C_actb (hK : OkK K) (h : SI K W b σ i j rv) (hb2 : b < 99990) (h7 : UnR K b (σ 55) i j ac nx us) (ho : o < K 0 4) :
    ∃ i3, fX11_act 5 (nI o) a2 i rv = some (nI (oB K o σ (K 0 5)), i3) ∧ FrL [20, 23, 24, 25, 26, 27] rv i i3 ∧ ScC (bdS K W o σ) (i3 20) ∧ i3 26 = va_cpy (i 20) (i 26) 0 (nx * 56) 56 ∧ i3 25 4 = nI ((nx + 1) % 41) ∧ i3 25 5 = nI (min 40 (ac + 1)) ∧ i3 25 6 = i 25 6 ∧ i3 27 = bdD K W o σ (i 27) := by
  have hm4 := hK.2.1
  obtain ⟨hn, hfr, hU⟩ := SI_note h h7
  have hov := oB_le hK h.2.1 ho (K 0 5) (by omega)
  obtain ⟨i2, k1, k2, k3, k4, _, k5⟩ := C_pass (q := 19) (re := 1) hn.1.1 hK hn.2.1 (by omega) hn.1.2.1 (Or.inl rfl) hn.1.2.2 ho (by omega)
  have hs2 := k5 rfl
  have row : ∀ q, q < 74 → q ∉ [20, 23, 24, 26] → q ≠ 6 → q ≠ 8 → i2 q = i q := fun q h1 h2 h3 h4 => by
    rw [FrL_row hn.1.2.2 k2 (fun e => h2 (by simp at e ⊢; omega)) h3 h4 h1, hfr q (fun e => h2 (by simp at e ⊢; omega))]
  have hd : fX3_done 19 5 (nI o) a2 (cp2 i (i 20) 0 26 (nx * 56) 56) rv = some (nI (oB K o σ (K 0 5)), i2) := by
    unfold fX3_done
    rw [if_neg (by decide), if_neg (by decide), if_neg (by decide), if_neg (by decide), if_neg (by decide), if_pos rfl, c_hasOfficer hn.1.1 hK (by omega), q1, k1]
    simp (disch := omega) only [↓mz_lt, ↓mz_b1, ↓mz_b2, ↓mz_b3, mz_b1, mz_b2, mz_b3, mz_lt, mz_o0, mz_o1, nI_add, mz_mul, mz_sub, nI_clamp, mz_in, mz_le, mz_ltp, mz_eq, mz_nm, mz_mn, mz_ml, mz_mlt, mz_nl, mz_mle, qNN, q0, q1, q2, q3, q4, q5, q6, q7, q8, q9, q10, q11, q12, q13, q14, q15, q16, q17, q18, q19, q20, q21, q22, q23, q24, q25, q26, q27, q28, q29, q30, q31, q32, q33, q34, q35, q36, q37, q38, q39, q40, q41, q42, q43, q44, q45, q46, q47, q48, q49, q50, q51, q52, q53, q54, q55, q56, q57, q58, q59, q60, q61, q62, q63, q64, q65, q66, q67, q68, q69, q70, q71, q72, q73, q74, q75, q76, q77, q78, q79, q80, q81, q82, q83, q84, q85, q86, q87, q88, q89, q90, q91, q92, q93, q94, q95, q96, q97, q98, q99, q100, q101, q102, q103, q104, q105, q106, q107, q108, q109, q110, q111, q112, q113, q114, q115, q116, q117, q118, q119, q120, q121, q122, q123, q124, q125, q126, q127, q128, q129, q130, q240, q255, q256, q296, q400, q600, q896, q960, q999, q1000, q11544, q11840, q1000000, q1000000000, ↓reduceIte, if_pos, if_neg, ↓reduceIte, u2r, u2e, u2n, cp2r, cp2s]
  have e4 : i2 25 4 = nI nx := by rw [row 25 (by omega) (by decide) (by omega) (by omega)]; exact h7.2.2.2.1
  have e5 : i2 25 5 = nI ac := by rw [row 25 (by omega) (by decide) (by omega) (by omega)]; exact h7.2.2.1
  generalize hi4 : u2 (u2 i2 25 4 (nI ((nx + 1) % 41))) 25 5 (nI (min 40 (ac + 1))) = i4
  have r4 : ∀ q, q ≠ 25 → i4 q = i2 q := fun q hq => by rw [← hi4, u2r _ _ _ _ _ hq, u2r _ _ _ _ _ hq]
  have hc4 : CarC 15 K i4 := CarC_f h.1.1 (fun q h1 h2 => by rw [r4 q (by omega), row q (by omega) (by simp; omega) (by omega) (by omega)])
  have hoK : OkS K (b + 1) (up (sB K W o σ (K 0 5)) 54 (cB σ (K 0 5))) := OkS_cof hK (sB_ok hK h.2.1 _ (by omega)) (cB_le h.2.1)
  have e55 : up (sB K W o σ (K 0 5)) 54 (cB σ (K 0 5)) 55 = σ 55 := by rw [upn _ _ _ _ (by omega), sB_q hK h.2.1 (by omega) (by omega)]
  obtain ⟨i3, g1, g2, g3, g4⟩ := C_wlog (i := i4) (y := nI o) (tens := oB K o σ (K 0 5)) (lost := lB K W o σ (K 0 5)) hc4 hK (by omega) (by rw [r4 20 (by omega)]; exact hs2) hoK (by omega) (by rw [r4 23 (by omega)]; exact k3)
  rw [e55] at g2 g3
  unfold fX11_act
  rw [C_note h7.2.1 h7.2.2.2.1, mz_b1, hd, mz_b2, if_neg (show ¬ nI (oB K o σ (K 0 5)) = -1 from by rw [qN1, mz_nm (by omega)]; exact fun e => e), C_keep h7.2.1 h7.1 e4 e5, mz_b1, if_pos rfl, hi4, g1]
  refine ⟨i3, rfl, ?_, g2, ?_, ?_, ?_, ?_, ?_⟩
  · refine FrL_t (FrL_f (Fr_w (by decide) hfr)) (FrL_t (FrL_w (by decide) k2) (FrL_f (Fr_t ?_ (Fr_w (by decide) g4))))
    exact fun q hq => r4 q (fun e => hq (by simp [e]))
  · rw [g4 26 (by decide), r4 26 (by omega), FrL_row hn.1.2.2 k2 (by decide) (by omega) (by omega) (by omega)]
    exact cp2s _ _ _ _ _ _
  · rw [g4 25 (by decide), ← hi4, u2n _ _ _ _ _ (by omega), u2e]
  · rw [g4 25 (by decide), ← hi4, u2e]
  · rw [g4 25 (by decide), ← hi4, u2n _ _ _ _ _ (by omega), u2n _ _ _ _ _ (by omega), row 25 (by omega) (by decide) (by omega) (by omega)]
  · rw [g3, r4 27 (by omega), row 27 (by omega) (by decide) (by omega) (by omega)]
    rfl
/-- both sides together, a border; τ: what lies down behind it -/
theorem SI_bord (hK : OkK K) (h : SI K W b σ i j rv) (h7 : UnR K b (σ 55) i j ac nx us) {i3 j0 j1 j2 : Tb} (hτ : OkS K (b + 1) τ) (h55 : τ 55 = σ 55 + 1)
    (g2 : FrL [20, 23, 24, 25, 26, 27] rv i i3) (g3 : ScC τ (i3 20)) (g4 : i3 26 = va_cpy (i 20) (i 26) 0 (nx * 56) 56) (g5 : i3 25 4 = nI ((nx + 1) % 41)) (g6 : i3 25 5 = nI (min 40 (ac + 1))) (g7 : i3 25 6 = i 25 6) (g8 : i3 27 = bdD K W o σ (i 27))
    (f0 : Fr [50] j j0) (f05 : F5 [0] j j0)
    (r1 : Fr [50, 65] j0 j1) (r2 : F5 [42] j0 j1) (r3 : j1 50 42 = nI (min 40 (ac + 1))) (r4 : ∀ c, c < 296 → j1 65 (296 * (min 40 (ac + 1) - 1) + c) = j0 63 c) (r5 : ∀ x c, x < min 40 (ac + 1) - 1 → c < 296 → j1 65 (296 * x + c) = j0 65 (296 * (if ac = 40 then x + 1 else x) + c))
    (s1 : Fr [50, 54, 63] j1 j2) (s2 : F5 l41 j1 j2) (s3 : ScM K τ (j2 63)) (s4 : LgM (bdD K W o σ (i 27)) (σ 55 + 1) (j2 63)) :
    SI K W (b + 1) τ i3 j2 rv ∧ Fr [50, 54, 63, 65] j j2 ∧ F5 (0 :: 42 :: l41) j j2 := by
  have f1 : Fr [50, 54, 63, 65] j j2 := Fr_t (Fr_w (by decide) f0) (Fr_t (Fr_w (by decide) r1) (Fr_w (by decide) s1))
  have f2 : F5 (0 :: 42 :: l41) j j2 := F5_t (F5_w (by decide) f05) (F5_t (F5_w (by decide) r2) (F5_w (by decide) s2))
  refine ⟨SI_push hK h h7 (by omega) hτ g2 g3 g4 g5 g6 g7 (Or.inr ⟨_, _, _, _, g8, h55⟩) f1 f2 s3 ?_ ?_ ?_ ?_, f1, f2⟩
  · rw [g8, h55]
    exact s4
  · rw [s2 42 (by decide)]
    exact r3
  · intro c hc
    rw [s1 65 (by decide), r4 c hc, f0 63 (by decide)]
  · intro x c hx hc
    rw [s1 65 (by decide), r5 x c hx hc, f0 65 (by decide)]
theorem R_border (hK : OkK K) (h : SI K W b σ i j rv) (hb2 : b < 99990) (a1 : Int32) : ∃ v i' j' σ' rv2, fX11_border a1 i rv = some (v, i') ∧ fX12_border a1 j rv' = some (v, j', rv2) ∧ SI K W (b + 1) σ' i' j' rv ∧ FrL [20, 23, 24, 25, 26, 27] rv i i' ∧ Fr [50, 54, 63, 65] j j' ∧ F5 (0 :: 42 :: l41) j j' ∧ RvM rv' rv2 := by
  have hm := hK.1
  have hm4 := hK.2.1
  obtain ⟨ac, nx, us, h7⟩ := h.2.2.2.2.2.2.1
  have hw0 := WM_0 (v' := 0) (SI_WM h)
  obtain ⟨hn, hfr, hU⟩ := SI_note h h7
  obtain ⟨n1, n2, n3, n4⟩ := SI_no h h7
  unfold fX11_border fX12_border
  simp only [mz_lt]
  have hno : ∀ a : Int32, fX1_hasOfficer 15 a (cp2 i (i 20) 0 26 (nx * 56) 56) = some 0 → fX11_act 5 a (-1) i rv = some (NN, cp2 i (i 20) 0 26 (nx * 56) 56) := by
    intro a ha
    refine C_act0 h7 ?_
    unfold fX3_done
    rw [if_neg (by decide), if_neg (by decide), if_neg (by decide), if_neg (by decide), if_neg (by decide), if_pos rfl, ha]
    rfl
  rcases mz_cases a1 with c1 | ⟨o, ho, rfl⟩
  · rw [hno a1 (c_hasOfficer0 c1), m_isOfficer0 c1]
    exact ⟨_, _, _, σ, _, rfl, rfl, SI_upb n1 (by omega), n2, n3, n4, Or.inl rfl⟩
  by_cases h1 : o < K 0 4
  · obtain ⟨i3, g1, g2, g3, g4, g5, g6, g7, g8⟩ := C_actb (a2 := -1) hK h hb2 h7 h1
    obtain ⟨j1, r0, r1, r2, r3, r4, r5, r6⟩ := SI_rem h h7
    have hlg : LgM (i 27) (σ 55) (j1 63) := by
      rw [r1 63 (by decide), u2r _ _ _ _ _ (by omega)]
      exact h.2.2.2.2.2.1
    obtain ⟨j2, rv2, k1, k2, k3, k4, k5, k6, k7⟩ := M_goes (rv := rv') (w := 63) r6.1 hK h.2.1 (by omega) r6.2.1 (Or.inl rfl) r6.2.2.1 h1 hlg
    obtain ⟨m1, m2, m3⟩ := SI_bord (o := o) hK h h7 (bdS_ok (W := W) (o := o) hK h.2.1) bdS_55 g2 g3 g4 g5 g6 g7 g8 Fr_u F5_u r1 r2 r3 r4 r5 k2 k3 k5 k6
    rw [g1, m_isOfficer hw0.1 hK ho, r0]
    simp (disch := omega) only [q0, q1, mz_b1, mz_b2, mz_eq, if_pos, if_neg, ↓reduceIte, k1, k7]
    exact ⟨_, _, _, _, _, rfl, rfl, m1, g2, m2, m3, k4⟩
  · rw [hno (nI o) (by rw [c_hasOfficer hn.1.1 hK ho, if_neg h1]), m_isOfficer hw0.1 hK ho, if_neg h1]
    exact ⟨_, _, _, σ, _, rfl, rfl, SI_upb n1 (by omega), n2, n3, n4, Or.inl rfl⟩
end PB
