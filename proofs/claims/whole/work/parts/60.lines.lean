/-! lines: a step as it was told -/
def LnAt (i j : Tb) (x a sz : Nat) : Prop := i a 1 = nI sz ∧ j 62 x = nI sz ∧ 1 ≤ sz ∧ sz ≤ 16 ∧ (∀ k, k < sz → ∃ kd, kd < 6 ∧ i (a + 1) (3 * k) = nI kd ∧ j 61 (48 * x + 3 * k) = nI kd) ∧ (∀ k c, k < sz → c < 3 → i (a + 1) (3 * k + c) = j 61 (48 * x + 3 * k + c))
def LnS (i j : Tb) (rv : Nat → Nat → Option Nat) : Prop := ∃ m, m ≤ 4 ∧ i 3 5 = nI m ∧ j 50 31 = nI m ∧ ∀ x, x < m → ∃ a sz, rv 5 x = some (100 + a) ∧ (a = 9 ∨ 74 ≤ a) ∧ (∀ al, rv 23 2 = some (100 + al) → a ≠ al ∧ a ≠ al + 2 ∧ a + 1 ≠ al ∧ a + 1 ≠ al + 2) ∧ LnAt i j x a sz
section LN
variable {i i' i1 i2 i3 j j' j1 j2 : Tb} {rv rv' rv2 : Nat → Nat → Option Nat} {lo lo' : Nat → Nat → Int64} {W : Option ((Nat → Nat) → Int)} {K g : Nat → Nat → Nat} {σ τ σ' ρ : Nat → Nat} {q p o k b b' t w w0 v n r z c s re x a ac nx B B' kd m y dr sz : Nat} {l l5 : List Nat} {d d' : Nat → Int32} {us : Nat → Nat → Nat} {X : Int64}
theorem c_linesAt0 {a1 : Int32} (ha : a1 < nI 0) : fX9_linesAt a1 i rv = some none := by
  unfold fX9_linesAt
  exact if_pos ha
theorem c_linesAt1 (hm : m ≤ 4) (h5 : i 3 5 = nI m) (hx : m ≤ x) (hx2 : x < 2 ^ 31) : fX9_linesAt (nI x) i rv = some none := by
  unfold fX9_linesAt
  rw [if_neg (show ¬ nI x < 0 from nI_nlt (a := x) (b := 0) (by omega) (by omega)), h5, if_pos (nI_le hx hx2)]
theorem c_linesAt2 (hm : m ≤ 4) (h5 : i 3 5 = nI m) (hx : x < m) (hr : rv 5 x = some (100 + a)) : fX9_linesAt (nI x) i rv = some (some (100 + a)) := by
  unfold fX9_linesAt
  rw [if_neg (show ¬ nI x < 0 from nI_nlt (a := x) (b := 0) (by omega) (by omega)), h5, if_neg (nI_ge hx (by omega)), if_pos (mz_in (by omega) (by omega)), nI_clamp (by omega), hr, mz_o1]
  congr 2
  omega
theorem m_isLine0 {a1 : Int32} (ha : a1 < nI 0) : fX12_isLine a1 j = some 0 := by
  unfold fX12_isLine
  exact if_pos ha
theorem m_isLine (hm : m ≤ 4) (h : j 50 31 = nI m) (hx2 : x < 2 ^ 31) : fX12_isLine (nI x) j = some (if x < m then 1 else 0) := by
  unfold fX12_isLine
  rw [if_neg (show ¬ nI x < 0 from nI_nlt (a := x) (b := 0) (by omega) (by omega)), h]
  by_cases h1 : x < m
  · rw [if_neg (nI_ge h1 (by omega)), if_pos h1]
  · rw [if_pos (nI_le (by omega) (by omega)), if_neg h1]
/-- 18: step -/
theorem R_step (h : LnS i j rv) (a1 a2 a3 : Int32) : ∃ v, fX11_step a1 a2 a3 i rv = some v ∧ fX12_step a1 a2 a3 j = some (v, u2 j 50 0 0) := by
  obtain ⟨m, hm, h1, h2, h3⟩ := h
  unfold fX11_step fX12_step
  simp only [mz_lt]
  rcases mz_cases a1 with c1 | ⟨x, hx, rfl⟩
  · rw [c_linesAt0 c1, m_isLine0 c1]
    exact ⟨_, rfl, rfl⟩
  rw [m_isLine hm (by rw [u2n _ _ _ _ _ (by omega)]; exact h2) hx]
  by_cases hxm : x < m
  · obtain ⟨a, sz, hr, _, _, hs, hs', hz1, hz2, hk, hc⟩ := h3 x hxm
    rw [c_linesAt2 hm h1 hxm hr, mz_b1, mz_o1, mz_b1, if_pos hxm, if_neg (show ¬ (1 : Int32) = 0 by decide), if_pos (mz_in (by omega) (by omega)), nI_clamp (by omega), u2r _ _ _ _ _ (show 62 ≠ 50 by omega), hs', show nI sz - 1 = nI (sz - 1) from by rw [q1, mz_sub (by omega)]]
    unfold fX5_size
    rw [show 100 + a - 100 = a by omega, hs, mz_b1]
    rcases mz_cases a2 with c2 | ⟨y, hy, rfl⟩
    · rw [if_pos (show a2 < 0 from c2), L0, mz_isG (by omega) c2]
      exact ⟨_, rfl, rfl⟩
    · rw [L0, mz_isN (by omega) (by omega) (by omega), if_neg (show ¬ nI y < 0 from nI_nlt (a := y) (b := 0) (by omega) (by omega)), mz_b1]
      by_cases hy2 : y < sz
      · rw [if_neg (nI_ge hy2 (by omega)), if_neg (show ¬ (if 0 ≤ y ∧ y ≤ sz - 1 then (1 : Int32) else 0) = 0 from by rw [if_pos (by omega)]; decide)]
        rcases mz_cases a3 with c3 | ⟨z, hz, rfl⟩
        · rw [if_pos (show a3 < 0 from c3), mz_isG (by omega) c3]
          exact ⟨_, rfl, rfl⟩
        · rw [L2, mz_isN (by omega) (by omega) (by omega), if_neg (show ¬ nI z < 0 from nI_nlt (a := z) (b := 0) (by omega) (by omega)), mz_b1]
          by_cases hz3 : z < 3
          · rw [if_pos (show nI z < 3 from nI_lt (a := z) (b := 3) hz3 (by omega)), if_neg (show ¬ (if 0 ≤ z ∧ z ≤ 2 then (1 : Int32) else 0) = 0 from by rw [if_pos (by omega)]; decide)]
            unfold fX5_part
            rw [show nI y * 3 + nI z = nI (3 * y + z) from by rw [q3, mz_mul, nI_add, Nat.mul_comm], show 3 * (16 * nI x + nI y) + nI z = nI (48 * x + 3 * y + z) from by
              rw [q16, mz_mul, nI_add, q3, mz_mul, nI_add]
              congr 1
              omega]
            rw [if_pos (mz_in (by omega) (by omega)), if_pos (mz_in (by omega) (by omega)), nI_clamp (by omega), nI_clamp (by omega), u2r _ _ _ _ _ (show 61 ≠ 50 by omega), hc y z hy2 hz3]
            exact ⟨_, rfl, rfl⟩
          · rw [if_neg (show ¬ nI z < 3 from nI_nlt (a := z) (b := 3) (by omega) (by omega)), if_pos (show (if 0 ≤ z ∧ z ≤ 2 then (1 : Int32) else 0) = 0 from if_neg (by omega))]
            exact ⟨_, rfl, rfl⟩
      · rw [if_pos (nI_le (by omega) (by omega)), if_pos (show (if 0 ≤ y ∧ y ≤ sz - 1 then (1 : Int32) else 0) = 0 from if_neg (by omega))]
        exact ⟨_, rfl, rfl⟩
  · rw [c_linesAt1 hm h1 (by omega) hx, mz_b1, mz_o0, mz_b1, if_neg hxm]
    exact ⟨_, rfl, rfl⟩
/-- a step can be: the reference -/
theorem M_canStep (h' : CarM K j) (hK : OkK K) (hb : OkS K b σ) (hw : ScM K σ (j w)) (hx : x + 2 < 240) (hkd : kd < 6) (ek : j 61 x = nI kd) : (fX12_canStep w 296 (nI x) j = some 0 ∧ ¬ ∃ y σ', actR K W σ kd (j 61 (x + 1)) (j 61 (x + 2)) y σ') ∨ (fX12_canStep w 296 (nI x) j = some 1 ∧ ∃ y σ', actR K W σ kd (j 61 (x + 1)) (j 61 (x + 2)) y σ') := by
  have n0 : narrow .boolean (.int 0) = .int 0 := by decide +kernel
  have n1 : narrow .boolean (.int 1) = .int 1 := by decide +kernel
  unfold fX12_canStep
  rw [show nI x + 1 = nI (x + 1) from nI_1 x, show nI x + 2 = nI (x + 2) from by rw [q2, nI_add], if_pos (mz_in (by omega) (by omega)), mz_lt, if_pos (mz_in (by omega) (by omega)), mz_lt, if_pos (mz_in (by omega) (by omega)), nI_clamp (by omega), nI_clamp (by omega), nI_clamp (by omega), ek]
  have hk6 : kd = 0 ∨ kd = 1 ∨ kd = 2 ∨ kd = 3 ∨ kd = 4 ∨ kd = 5 := by omega
  rcases hk6 with rfl | rfl | rfl | rfl | rfl | rfl
  · rw [if_pos (by decide)]
    rcases e_move (W := W) (a1 := j 61 (x + 1)) (a2 := j 61 (x + 2)) h' hK hb hw with ⟨e, hn⟩ | ⟨e, hn⟩ <;> rw [e, mz_b1]
    · exact Or.inl ⟨by rw [if_pos n0], hn⟩
    · exact Or.inr ⟨by rw [if_pos n1], hn⟩
  · rw [if_neg (by decide), if_pos (by decide)]
    rcases e_say (W := W) (a1 := j 61 (x + 1)) (a2 := j 61 (x + 2)) h' hK hb hw with ⟨e, hn⟩ | ⟨e, hn⟩ <;> rw [e, mz_b1]
    · exact Or.inl ⟨by rw [if_pos n0], hn⟩
    · exact Or.inr ⟨by rw [if_pos n1], hn⟩
  · rw [if_neg (by decide), if_neg (by decide), if_pos (by decide)]
    rcases e_wake (W := W) (a1 := j 61 (x + 1)) (a2 := j 61 (x + 2)) h' hK hb hw with ⟨e, hn⟩ | ⟨e, hn⟩ <;> rw [e, mz_b1]
    · exact Or.inl ⟨by rw [if_pos n0], hn⟩
    · exact Or.inr ⟨by rw [if_pos n1], hn⟩
  · rw [if_neg (by decide), if_neg (by decide), if_neg (by decide), if_pos (by decide)]
    rcases e_lie (W := W) (a1 := j 61 (x + 1)) (a2 := j 61 (x + 2)) h' hK hb hw with ⟨e, hn⟩ | ⟨e, hn⟩ <;> rw [e, mz_b1]
    · exact Or.inl ⟨by rw [if_pos n0], hn⟩
    · exact Or.inr ⟨by rw [if_pos n1], hn⟩
  · rw [if_neg (by decide), if_neg (by decide), if_neg (by decide), if_neg (by decide), if_pos (by decide)]
    rcases e_swap (W := W) (σ := σ) (a1 := j 61 (x + 1)) (a2 := j 61 (x + 2)) h' hK with ⟨e, hn⟩ | ⟨e, hn⟩ <;> rw [e, mz_b1]
    · exact Or.inl ⟨by rw [if_pos n0], hn⟩
    · exact Or.inr ⟨by rw [if_pos n1], hn⟩
  · rw [if_neg (by decide), if_neg (by decide), if_neg (by decide), if_neg (by decide), if_neg (by decide)]
    rcases e_bord (W := W) (σ := σ) (a1 := j 61 (x + 1)) (a2 := j 61 (x + 2)) h' hK with ⟨e, hn⟩ | ⟨e, hn⟩ <;> rw [e, mz_b1]
    · exact Or.inl ⟨by rw [if_pos n0], hn⟩
    · exact Or.inr ⟨by rw [if_pos n1], hn⟩
/-- a step is done: the reference -/
theorem M_steps {y : Int32} (h' : CarM K j) (hK : OkK K) (hb : OkS K b σ) (hb2 : b < 100000) (hw : ScM K σ (j w)) (hw6 : w = 63 ∨ w = 64) (hL : LawM W j) (hlg : LgM d n (j w)) (hx : x + 2 < 240) (hkd : kd < 6) (ek : j 61 x = nI kd) (hA : actR K W σ kd (j 61 (x + 1)) (j 61 (x + 2)) y σ') : ∃ j' rv', fX12_steps w 296 (nI x) j rv = some (j', rv') ∧ Fr [50, 54, w] j j' ∧ F5 l41 j j' ∧ RvM rv rv' ∧ ScM K σ' (j' w) ∧ (kd < 5 → ∀ k, 55 ≤ k → j' w k = j w k) ∧ (∀ o, kd = 5 → o < K 0 4 → j 61 (x + 1) = nI o → LgM (dyU d n (nI o) (nI (oB K o σ (K 0 5))) (if oB K o σ (K 0 5) ≤ 6 * K 1 0 then nI 0 else nI 1) (nI (lB K W o σ (K 0 5)))) (n + 1) (j' w)) := by
  have hm := hK.1
  have hm4 := hK.2.1
  unfold fX12_steps
  rw [show nI x + 1 = nI (x + 1) from nI_1 x, show nI x + 2 = nI (x + 2) from by rw [q2, nI_add], if_pos (mz_in (by omega) (by omega)), mz_lt, if_pos (mz_in (by omega) (by omega)), mz_lt, if_pos (mz_in (by omega) (by omega)), nI_clamp (by omega), nI_clamp (by omega), nI_clamp (by omega), ek]
  rcases hA with ⟨rfl, r, q, hr, hq, hne, ha, hc, _, rfl⟩ | ⟨rfl, p, v, hp, hcc, hl, hv, hne, ha, hc, _, rfl⟩ | ⟨rfl, p, hp, hsl, ha, _, rfl⟩ | ⟨rfl, p, hp, hsl, ha, _, rfl⟩ | ⟨rfl, p, o, hp, ho, hne, ha, hc, _, rfl⟩ | ⟨rfl, o, ho, ha, _, rfl⟩
  · obtain ⟨j2, k1, k2, k3, k4⟩ := m_moves h' hK hb hw (by omega) hr hq
    rw [if_pos (by decide), ha, hc, k1]
    exact ⟨_, _, rfl, Fr_w (by simp) k2, fun k _ => by rw [k2 50 (by simp; omega)], Or.inl rfl, k3, fun _ k hk => k4 k (by omega), fun o h0 => by omega⟩
  · rw [if_neg (by decide), if_pos (by decide), ha, hc]
    simp (disch := omega) only [q6, q2, mz_mul, nI_add, mz_in, nI_clamp, ↓reduceIte, mz_lt]
    exact ⟨_, _, rfl, Fr_w (by simp) Fr_u, fun k _ => by rw [u2r _ _ _ _ _ (by omega)], Or.inl rfl, ScM_said hK hb hw hp, fun _ k hk => u2n _ _ _ _ _ (by omega), fun o h0 => by omega⟩
  · obtain ⟨j2, rv2, k1, k2, k3, k4, k5, k6⟩ := M_wakes (rv := rv) (t := 0) (o := 9) h' hK hb (by omega) hw hw6 hL hp (by omega) (by omega)
    rw [if_neg (by decide), if_neg (by decide), if_pos (by decide), ha, q0, q9, k1]
    exact ⟨_, _, rfl, k2, F5_w (by decide) k3, k4, k5, fun _ k hk => k6 k (by omega), fun o h0 => by omega⟩
  · rw [if_neg (by decide), if_neg (by decide), if_neg (by decide), if_pos (by decide), ha]
    simp (disch := omega) only [q6, q3, q1, mz_mul, nI_add, mz_in, nI_clamp, ↓reduceIte, mz_lt]
    exact ⟨_, _, rfl, Fr_w (by simp) Fr_u, fun k _ => by rw [u2r _ _ _ _ _ (by omega)], Or.inl rfl, ScM_asl hK hb hw hp, fun _ k hk => u2n _ _ _ _ _ (by omega), fun o h0 => by omega⟩
  · rw [if_neg (by decide), if_neg (by decide), if_neg (by decide), if_neg (by decide), if_pos (by decide), ha, hc, m_swaps hK hb hw hp ho hne]
    exact ⟨_, _, rfl, Fr_t (Fr_w (by simp) Fr_u) (Fr_w (by simp) Fr_u), fun k _ => by rw [u2r _ _ _ _ _ (by omega), u2r _ _ _ _ _ (by omega)], Or.inl rfl, ScM_sw hK hb hw hp ho, fun _ k hk => by rw [u2n _ _ _ _ _ (by omega), u2n _ _ _ _ _ (by omega)], fun o h0 => by omega⟩
  · obtain ⟨j2, rv2, k1, k2, k3, k4, k5, k6, k7⟩ := M_goesn (rv := rv) h' hK hb hb2 hw hw6 hL ho hlg
    rw [if_neg (by decide), if_neg (by decide), if_neg (by decide), if_neg (by decide), if_neg (by decide), ha, k1]
    refine ⟨_, _, rfl, k2, k3, k4, k5, fun h0 => by omega, fun o' _ ho' e => ?_⟩
    have := nI_inj e (by omega) (by omega)
    subst this
    exact k6
end LN
