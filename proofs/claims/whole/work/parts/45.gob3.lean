/-! the reference's border: the loop -/
section GB3
variable {i i' j j' : Tb} {rv rv' : Nat → Nat → Option Nat} {W : Option ((Nat → Nat) → Int)} {K g : Nat → Nat → Nat} {σ τ : Nat → Nat} {q p o k b d t w v n r z c s re : Nat}
theorem up_up (σ : Nat → Nat) (k a c : Nat) : up (up σ k a) k c = up σ k c := by
  funext z
  unfold up
  split <;> rfl
theorem up_id (σ : Nat → Nat) (k : Nat) : up σ k (σ k) = σ := by
  funext z
  unfold up
  split
  · rename_i h
    rw [h]
  · rfl
theorem up_cm {a c k m : Nat} (σ : Nat → Nat) (h : k ≠ m) : up (up σ k a) m c = up (up σ m c) k a := by
  funext z
  unfold up
  by_cases h1 : z = m
  · rw [if_pos h1, if_neg (by omega), if_pos h1]
  · rw [if_neg h1, if_neg h1]
theorem rs_cof (hp : p < 9) : up (rsS σ p v) 54 c = rsS (up σ 54 c) p v := by
  unfold rsS
  rw [up_cm (k := 45 + p) (m := 54) _ (by omega), up_cm (k := 36 + p) (m := 54) _ (by omega), up_cm (k := 27 + p) (m := 54) _ (by omega), upn _ _ _ _ (show 36 + p ≠ 54 by omega), upn _ _ _ _ (show 45 + p ≠ 54 by omega)]
theorem m_gob_l (h' : CarM K j) (hK : OkK K) (hb : OkS K b σ) (hb2 : b < 100000) (hw6 : w = 63 ∨ w = 64) (hL : LawM W j) (ho : o < K 0 4) : ∀ n z j' rv', z ≤ K 0 5 → K 0 5 - z < n → Fr [50, 54, w] j j' → F5 l41 j j' → RvM rv rv' → ScM K (up (sB K W o σ z) 54 (cB σ z)) (j' w) → (∀ k, 55 ≤ k → j' w k = j w k) → j' 50 37 = nI (mB K o σ z) → j' 50 38 = nI (lB K W o σ z) → j' 50 39 = laW (laB K o σ z) → j' 50 40 = laU (laB K o σ z) →
    ∃ j'' rv'', fX12_goBorder_25 w 296 n (nI o) (nI (tB K o σ z)) (nI z) j' rv' = some (j'', rv'') ∧ Fr [50, 54, w] j j'' ∧ F5 l41 j j'' ∧ RvM rv rv'' ∧ ScM K (up (sB K W o σ (K 0 5)) 54 (cB σ (K 0 5))) (j'' w) ∧ (∀ k, 55 ≤ k → j'' w k = j w k) ∧ j'' 50 37 = nI (oB K o σ (K 0 5)) ∧ j'' 50 38 = nI (lB K W o σ (K 0 5)) ∧ j'' 50 39 = laW (laB K o σ (K 0 5)) := by
  have hm := hK.1
  have h5 := hK.2.2.1
  have hm4 := hK.2.1
  intro n
  induction n with
  | zero => intro z j' rv' h1 h2; omega
  | succ n ih =>
    intro z j' rv' h1 h2 hf hf5 hr hs hk e37 e38 e39 e40
    have hc' : CarM K j' := CarM_f h' hf hf5 (by simp; omega) (by simp; omega) (by simp; omega) (by decide) (by decide) (by decide)
    have hL' : LawM W j' := LawM_f hL hf hf5 (by simp; omega) (by simp; omega) (by decide)
    have ht := tB_le hK hb ho (z := z) (by omega)
    have hmb := mB_le (z := z) hK hb ho (by omega)
    rw [fX12_goBorder_25, hc'.2.2.1]
    by_cases h3 : z = K 0 5
    · subst h3
      rw [if_pos (nI_le (by omega) (by omega)), mz_lt, e37, mz_max (by omega) (by omega), ← oB_m hK hb (K 0 5) (by omega)]
      refine ⟨_, rv', rfl, Fr_t hf (Fr_w (by simp) Fr_u), F5_t hf5 (F5_w (by decide) F5_u), hr, ?_, fun k hk2 => ?_, u2e _ _ _ _, ?_, ?_⟩
      · rw [u2r _ _ _ _ _ (by omega)]
        exact hs
      · rw [u2r _ _ _ _ _ (by omega)]
        exact hk k hk2
      · rw [u2n _ _ _ _ _ (by omega)]
        exact e38
      · rw [u2n _ _ _ _ _ (by omega)]
        exact e39
    · have hp := OkS_dr hb z (by omega)
      have hz : z < K 0 5 := by omega
      have hoK : OkS K (b + 1) (sB K W o σ z) := sB_ok hK hb z (by omega)
      have hτo : OkS K (b + 1) (up (sB K W o σ z) 54 (cB σ z)) := OkS_cof hK hoK (cB_le hb)
      have eD : up (sB K W o σ z) 54 (cB σ z) (9 + z) = σ (9 + z) := by
        rw [upn _ _ _ _ (by omega), sB_q hK hb (by omega) (by omega)]
      have e27 : up (sB K W o σ z) 54 (cB σ z) (27 + σ (9 + z)) = σ (27 + σ (9 + z)) := by
        rw [upn _ _ _ _ (by omega), sB_p hK hb hz (by omega)]
      have eT : turnS K (up (sB K W o σ z) 54 (cB σ z)) (σ (9 + z)) o = turnS K σ (σ (9 + z)) o := by
        unfold turnS
        rw [e27]
      have eL : lossN K W (up (sB K W o σ z) 54 (cB σ z)) (σ (9 + z)) (tB K o σ z) o = lossN K W σ (σ (9 + z)) (tB K o σ z) o := lossN_c (fun k hk => by
        rw [upn _ _ _ _ (by omega), sB_q hK hb (by omega) (by omega)]) (by
        rw [upn _ _ _ _ (by omega), sB_p hK hb hz (by omega)]) hp
      have h18 : up (sB K W o σ z) 54 (cB σ z) (18 + σ (9 + z)) = σ (18 + σ (9 + z)) := by
        rw [upn _ _ _ _ (by omega), sB_q hK hb (by omega) (by omega)]
      have eF : j' 59 (4 * o + 1) = nI (ov K o 1) := hc'.2.2.2.2.2 _ (by omega)
      have hF1 := hK.2.2.2.2.2.2.2.2.2.2.2.2 o ho
      have hA1 := (hb.2.2.2.2.2.2.1 (σ (9 + z)) (by omega)).1
      have eA : j' w (6 * σ (9 + z) + 3) = nI (σ (27 + σ (9 + z))) := by rw [(hs.1 _ hp).2.2.1, e27]
      rw [if_neg (nI_ge (by omega) (by omega)), m_paperAt hc' hK hτo hs hz, eD, mz_b1, m_turnOf hc' hK hτo hs hp ho, mz_b1, eT]
      simp (disch := omega) only [q4, q1, q6, q3, mz_mul, nI_add, mz_in, nI_clamp, ↓reduceIte, eF, eA, mz_eq]
      have elB : lB K W o σ (z + 1) = lB K W o σ z + lsB K W o σ z := rfl
      have hno : ¬ (ov K o 1 = 1 ∧ σ (27 + σ (9 + z)) = 1) → ∃ j'' rv'', fX12_goBorder_98 w 296 (fX12_goBorder_25 w 296 n) (nI o) (nI (tB K o σ z)) (nI z) (nI (σ (9 + z))) (nI (turnS K σ (σ (9 + z)) o)) j' rv' = some (j'', rv'') ∧ Fr [50, 54, w] j j'' ∧ F5 l41 j j'' ∧ RvM rv rv'' ∧ ScM K (up (sB K W o σ (K 0 5)) 54 (cB σ (K 0 5))) (j'' w) ∧ (∀ k, 55 ≤ k → j'' w k = j w k) ∧ j'' 50 37 = nI (oB K o σ (K 0 5)) ∧ j'' 50 38 = nI (lB K W o σ (K 0 5)) ∧ j'' 50 39 = laW (laB K o σ (K 0 5)) := by
        intro h6
        obtain ⟨j3, g1, g2, g3, g4, g5, g6, g7, g8⟩ := m_gob_t (kh := fX12_goBorder_25 w 296 n) (rv := rv') (j := j') (w := w) (z := z) (o := o) hc' hK hb hw6 hs ho hz hτo h18 (upe _ _ _) e37 e39 e40
        rw [g1]
        refine ih (z + 1) j3 rv' (by omega) (by omega) (Fr_t hf (Fr_w (by simp) g2)) (F5_t hf5 (F5_w (by decide) g3)) hr ?_ (fun k hk2 => (g5 k hk2).trans (hk k hk2)) g6 ?_ g7 g8
        · rw [up_up] at g4
          rw [show sB K W o σ (z + 1) = sB K W o σ z from if_neg h6]
          exact g4
        · rw [g3 38 (by decide), e38, elB, show lsB K W o σ z = 0 from if_neg h6]
          rfl
      by_cases h6 : ov K o 1 = 1
      · by_cases h7 : σ (27 + σ (9 + z)) = 1
        · rw [if_pos h6, if_pos h7]
          have els : lsB K W o σ z = lossN K W σ (σ (9 + z)) (tB K o σ z) o := if_pos ⟨h6, h7⟩
          obtain ⟨j1, rv1, k1, k2, k3, k4, k5, k6⟩ := M_wakes (rv := rv') hc' hK hτo (by omega) hs hw6 hL' hp (t := tB K o σ z) (o := o) (by omega) (by omega)
          rw [k1, mz_b3, mz_lt, e38, nI_add, eL, ← els, ← elB]
          rw [eL, ← els] at k5
          have hs2 : ScM K (up (sB K W o σ (z + 1)) 54 (cB σ z)) (u2 j1 50 38 (nI (lB K W o σ (z + 1))) w) := by
            rw [u2r _ _ _ _ _ (by omega), show sB K W o σ (z + 1) = rsS (sB K W o σ z) (σ (9 + z)) (lsB K W o σ z) from if_pos ⟨h6, h7⟩, rs_cof (by omega)]
            exact k5
          have hf2 : Fr [50, 54, w] j (u2 j1 50 38 (nI (lB K W o σ (z + 1)))) := Fr_t hf (Fr_t k2 (Fr_w (by simp) Fr_u))
          have hf52 : F5 l41 j (u2 j1 50 38 (nI (lB K W o σ (z + 1)))) := F5_t hf5 (F5_t (F5_w (by decide) k3) (F5_w (by decide) F5_u))
          obtain ⟨j3, g1, g2, g3, g4, g5, g6, g7, g8⟩ := m_gob_t (kh := fX12_goBorder_25 w 296 n) (rv := rv1) (j := u2 j1 50 38 (nI (lB K W o σ (z + 1)))) (w := w) (z := z) (o := o) (b := b) (σ := σ) (CarM_f h' hf2 hf52 (by simp; omega) (by simp; omega) (by simp; omega) (by decide) (by decide) (by decide)) hK hb hw6 hs2 ho hz (OkS_cof hK (sB_ok hK hb (z + 1) (by omega)) (cB_le hb)) (by
            rw [upn _ _ _ _ (by omega), sB_q hK hb (by omega) (by omega)]) (upe _ _ _) (by rw [u2n _ _ _ _ _ (by omega), k3 37 (by decide), e37]) (by rw [u2n _ _ _ _ _ (by omega), k3 39 (by decide), e39]) (by rw [u2n _ _ _ _ _ (by omega), k3 40 (by decide), e40])
          rw [g1]
          refine ih (z + 1) j3 rv1 (by omega) (by omega) (Fr_t hf2 (Fr_w (by simp) g2)) (F5_t hf52 (F5_w (by decide) g3)) (RvM_t hr k4) ?_ (fun k hk2 => ?_) g6 ?_ g7 g8
          · rw [up_up] at g4
            exact g4
          · rw [g5 k hk2, u2r _ _ _ _ _ (by omega), k6 k (by omega)]
            exact hk k hk2
          · rw [g3 38 (by decide), u2e]
        · rw [if_pos h6, if_neg h7]
          exact hno (fun e => h7 e.2)
      · rw [if_neg h6]
        exact hno (fun e => h6 e.1)
theorem M_gob (h' : CarM K j) (hK : OkK K) (hb : OkS K b σ) (hb2 : b < 100000) (hw : ScM K σ (j w)) (hw6 : w = 63 ∨ w = 64) (hL : LawM W j) (ho : o < K 0 4) : ∃ j' rv', fX12_goBorder w 296 (nI o) j rv = some (j', rv') ∧ Fr [50, 54, w] j j' ∧ F5 l41 j j' ∧ RvM rv rv' ∧ ScM K (up (sB K W o σ (K 0 5)) 54 (cB σ (K 0 5))) (j' w) ∧ (∀ k, 55 ≤ k → j' w k = j w k) ∧ j' 50 37 = nI (oB K o σ (K 0 5)) ∧ j' 50 38 = nI (lB K W o σ (K 0 5)) ∧ j' 50 39 = laW (laB K o σ (K 0 5)) := by
  have hm := hK.1
  have h5 := hK.2.2.1
  unfold fX12_goBorder
  obtain ⟨fu, hfu, hfu2⟩ := fuel_g
  rw [hfu]
  simp only [mz_lt, q0, q1, qNN]
  generalize hj : u2 (u2 (u2 (u2 j 50 37 (nI 0)) 50 38 (nI 0)) 50 39 NN) 50 40 (nI 0) = j4
  have er : ∀ q, q ≠ 50 → j4 q = j q := fun q hq => by rw [← hj, u2r _ _ _ _ _ hq, u2r _ _ _ _ _ hq, u2r _ _ _ _ _ hq, u2r _ _ _ _ _ hq]
  have key := m_gob_l (rv := rv) h' hK hb hb2 hw6 hL ho fu 0 j4 rv (by omega) (by omega) (fun q hq => er q (fun e => hq (by simp [e]))) (fun k hk => by
    simp only [List.mem_cons, List.mem_nil_iff, or_false] at hk
    rw [← hj]
    simp (disch := omega) only [u2n]) (Or.inl rfl) (by
    rw [cB_0, er w (by omega)]
    show ScM K (up σ 54 (σ 54)) (j w)
    rw [up_id]
    exact hw) (fun k hk => by rw [er w (by omega)]) (by rw [← hj]; simp (disch := omega) only [u2n, u2e]; rfl) (by rw [← hj]; simp (disch := omega) only [u2n, u2e]; rfl) (by rw [← hj]; simp (disch := omega) only [u2n, u2e]; rfl) (by rw [← hj]; simp (disch := omega) only [u2n, u2e]; rfl)
  rw [tB_0] at key
  exact key
end GB3
