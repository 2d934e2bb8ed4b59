/-! words: the model's time in drawer order -/
section WO
variable {i i' i1 i2 i3 j j' j1 j2 : Tb} {rv rv' rv1 rv2 : Nat → Nat → Option Nat} {W : Option ((Nat → Nat) → Int)} {K g : Nat → Nat → Nat} {σ τ σ' ρ T : Nat → Nat} {q p o k b b' t w v n r z c s x a m y l d : Nat} {a1 a2 x1 x2 x3 x4 : Int32}
theorem oB_ge (hz : z < y) : dB K o σ z ≤ oB K o σ y := by
  induction y with
  | zero => omega
  | succ y ih =>
    have e : oB K o σ (y + 1) = max (oB K o σ y) (dB K o σ y) := rfl
    by_cases h : z = y
    · rw [e, h]; omega
    · have := ih (by omega)
      rw [e]
      omega
theorem m_tensD_l (h' : CarM K j) (hK : OkK K) (hb : OkS K b σ) (hw : ScM K σ (j 63)) (ho : o < K 0 4) (hq : ∀ z, z < K 0 5 → j 66 z = nI (σ (9 + z))) : ∀ n z x, z ≤ K 0 5 → K 0 5 - z < n → x ≤ oB K o σ z → oB K o σ z ≤ max x (tB K o σ z) →
    fX12_tensOf_17 n (nI o) (nI (K 0 5)) (nI (tB K o σ z)) (nI x) (nI (cB σ z)) (nI z) j = some (nI (max (oB K o σ (K 0 5)) (tB K o σ (K 0 5)))) := by
  have hm := hK.1
  have hp := hK.2.2.1
  have hc9 := hb.2.2.2.2.2.2.2.2.1
  intro n
  induction n with
  | zero => intro z x h1 h2; omega
  | succ n ih =>
    intro z x h1 h2 h3 h4
    have hoz := oB_le (o := o) hK hb ho z h1
    have htz := tB_le (o := o) hK hb ho h1
    have hcz : cB σ z ≤ 9 := by unfold cB; omega
    rw [fX12_tensOf_17]
    by_cases h6 : z = K 0 5
    · rw [h6] at h3 h4 htz hoz ⊢
      rw [if_pos (nI_le (by omega) (by omega)), mz_max (by omega) (by omega)]
      congr 2
      omega
    · have hz : z < K 0 5 := by omega
      have f1 := OkS_dr hb z hz
      have e3 := hq z hz
      have g1 : tB K o σ (z + 1) = tB K o σ z + turnS K σ (σ (9 + z)) o := rfl
      have g2 : cB σ (z + 1) = cB σ z - (if σ (18 + σ (9 + z)) = 2 then 1 else 0) := cB_s
      have g3 : oB K o σ (z + 1) = max (oB K o σ z) (tB K o σ z + turnS K σ (σ (9 + z)) o + waitS K (σ (9 + z)) o (σ (18 + σ (9 + z))) (cB σ z)) := rfl
      have g4 := waitS_le (o := o) (s := σ (18 + σ (9 + z))) (c := cB σ z) hK f1
      have g5 := turnS_le (σ := σ) hK f1 ho
      have g6 : j 57 (6 * σ (9 + z) + 1) = nI (sv K (σ (9 + z)) 1) := h'.2.2.2.2.1 _ (by omega)
      have g7 := hK.2.2.2.2.2.2.2.2.2.1 _ 1 f1 (by omega)
      obtain ⟨s1, s2⟩ := hb.2.2.2.2.2.1 _ f1
      have ih' := ih (z + 1)
      rw [g1, g2, g3] at ih'
      rw [if_neg (nI_ge (by omega) (by omega)), if_pos (mz_in (by omega) (by omega)), mz_lt, nI_clamp (by omega), e3, m_turnOf h' hK hb hw f1 ho, mz_b1, show 6 * nI (σ (9 + z)) + 1 = nI (6 * σ (9 + z) + 1) from by rw [q6, mz_mul, q1, nI_add], if_pos (mz_in (by omega) (by omega)), nI_clamp (by omega), g6]
      unfold fX12_tensOf_85
      unfold fX12_tensOf_121
      unfold fX12_tensOf_122
      unfold fX12_tensOf_125
      rw [nI_add, nI_1]
      have k1 := m_waitOf (c := cB σ z) h' hK hw f1 ho s1
      generalize hSS : tB K o σ z = SS at *
      generalize hMM : oB K o σ z = MM at *
      generalize hCC : cB σ z = CC at *
      generalize hTT : turnS K σ (σ (9 + z)) o = TT at *
      by_cases h7 : sv K (σ (9 + z)) 1 = 0
      · have h8 : σ (18 + σ (9 + z)) = 0 := by
          rcases Nat.eq_zero_or_pos (σ (18 + σ (9 + z))) with e | e
          · exact e
          · have := (s2 (by omega)).2
            omega
        have h9 : waitS K (σ (9 + z)) o (σ (18 + σ (9 + z))) CC = 0 := by
          unfold waitS
          rw [h8, h7]
          rfl
        rw [h9] at ih'
        rw [if_neg (show ¬ σ (18 + σ (9 + z)) = 2 by omega), Nat.sub_zero] at ih'
        rw [if_pos (show nI (sv K (σ (9 + z)) 1) = 0 by rw [h7]; rfl)]
        exact ih' x (by omega) (by omega) (by omega) (by omega)
      · have e6 : (6 : Int32) * nI (σ (9 + z)) + 2 = nI (6 * σ (9 + z) + 2) := by rw [q6, mz_mul, q2, nI_add]
        have e7 : (nI (σ (18 + σ (9 + z))) = 2) = (σ (18 + σ (9 + z)) = 2) := by rw [q2, mz_eq (by omega) (by omega)]
        generalize hWW : waitS K (σ (9 + z)) o (σ (18 + σ (9 + z))) CC = WW at *
        have hx : ∀ fl, fX12_waitOf 63 296 (nI (σ (9 + z))) (nI o) fl j = some (nI WW) → bn1 (fX12_waitOf 63 296 (nI (σ (9 + z))) (nI o) fl j) (fun v5 => lt (if nI x < nI (SS + TT) + v5 then nI (SS + TT) + v5 else nI x) fun t7 => if aIn (6 * nI (σ (9 + z)) + 2) 296 = true then (if j 63 (6 * nI (σ (9 + z)) + 2).toNatClampNeg = 2 then (if nI CC ≤ 0 then fX12_tensOf_17 n (nI o) (nI (K 0 5)) (nI (SS + TT)) t7 (nI CC - 0) (nI (z + 1)) j else fX12_tensOf_17 n (nI o) (nI (K 0 5)) (nI (SS + TT)) t7 (nI CC - 1) (nI (z + 1)) j) else fX12_tensOf_17 n (nI o) (nI (K 0 5)) (nI (SS + TT)) t7 (nI CC - 0) (nI (z + 1)) j) else none) = some (nI (max (oB K o σ (K 0 5)) (tB K o σ (K 0 5)))) := by
          intro fl hfl
          have ih2 := ih' (max x (SS + TT + WW)) (by omega) (by omega) (by omega) (by omega)
          rw [hfl, mz_b1, mz_lt, nI_add, mz_max (by omega) (by omega), e6, if_pos (mz_in (by omega) (by omega)), nI_clamp (by omega), (hw.1 _ f1).2.1]
          by_cases h8 : σ (18 + σ (9 + z)) = 2
          · rw [if_pos h8] at ih2
            rw [if_pos (e7 ▸ h8)]
            by_cases h9 : CC = 0
            · rw [if_pos (show nI CC ≤ 0 by rw [h9]; decide), show nI CC - 0 = nI CC from Int32.sub_zero _]
              rw [show CC - 1 = CC by omega] at ih2
              exact ih2
            · rw [if_neg (show ¬ nI CC ≤ 0 by rw [q0, mz_le (by omega) (by omega)]; omega), q1, mz_sub (by omega)]
              exact ih2
          · rw [if_neg h8, Nat.sub_zero] at ih2
            rw [if_neg (fun e => h8 (e7 ▸ e)), show nI CC - 0 = nI CC from Int32.sub_zero _]
            exact ih2
        rw [if_neg (show ¬ nI (sv K (σ (9 + z)) 1) = 0 by rw [q0, nI_eq (by omega) (by omega)]; exact h7)]
        by_cases hc : 0 < CC
        · rw [if_pos hc] at k1
          rw [if_neg (show ¬ nI CC ≤ 0 by rw [q0, mz_le (by omega) (by omega)]; omega)]
          exact hx 1 k1
        · rw [if_neg hc] at k1
          rw [if_pos (show nI CC ≤ 0 by rw [q0, mz_le (by omega) (by omega)]; omega)]
          exact hx 0 k1
theorem m_tensD (h' : CarM K j) (hK : OkK K) (hb : OkS K b σ) (hw : ScM K σ (j 63)) (ho : o < K 0 4) (hq : ∀ z, z < K 0 5 → j 66 z = nI (σ (9 + z))) : fX12_tensOf (nI o) (nI (K 0 5)) j = some (nI (oB K o σ (K 0 5))) := by
  have hm := hK.1
  have hp := hK.2.2.1
  unfold fX12_tensOf
  obtain ⟨fu, hfu, hfu2⟩ := fuel_g
  have k := m_tensD_l h' hK hb hw ho hq fu 0 0 (by omega) (by omega) (by omega) (Nat.zero_le _)
  have h0 : tB K o σ (K 0 5) ≤ oB K o σ (K 0 5) := by
    rcases Nat.eq_zero_or_pos (K 0 5) with e | e
    · rw [e]
      exact Nat.le_refl _
    · obtain ⟨y, hy⟩ : ∃ y, K 0 5 = y + 1 := ⟨K 0 5 - 1, by omega⟩
      have h1 := oB_ge (K := K) (o := o) (σ := σ) (z := y) (y := y + 1) (by omega)
      have h2 : dB K o σ y = tB K o σ (y + 1) + waitS K (σ (9 + y)) o (σ (18 + σ (9 + y))) (cB σ y) := rfl
      rw [hy]
      omega
  rw [show max (oB K o σ (K 0 5)) (tB K o σ (K 0 5)) = oB K o σ (K 0 5) by omega, tB_0, cB_0] at k
  rw [hfu, q54, if_pos (mz_in (by omega) (by omega)), mz_lt, nI_clamp (by omega), hw.2.2.2]
  exact k
end WO
