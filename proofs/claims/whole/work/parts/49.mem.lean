/-! acts that can be undone -/
def UnR (K : Nat → Nat → Nat) (b B : Nat) (i j : Tb) (ac nx : Nat) (us : Nat → Nat → Nat) : Prop :=
  ac ≤ 40 ∧ nx < 41 ∧ i 25 5 = nI ac ∧ i 25 4 = nI nx ∧ j 50 42 = nI ac ∧
  ∀ x, x < ac → OkS K b (us x) ∧ (∀ c, c < 56 → i 26 (56 * ((nx + 41 - ac + x) % 41) + c) = nI (us x c)) ∧ ScM K (us x) (fun c => j 65 (296 * x + c)) ∧ LgM (i 27) (us x 55) (fun c => j 65 (296 * x + c)) ∧ us x 55 ≤ B ∧ B ≤ us x 55 + (ac - x) ∧ ∀ y, x ≤ y → y < ac → us x 55 ≤ us y 55 ∧ us y 55 ≤ us x 55 + (y - x)
section ME
variable {i i' j j' : Tb} {rv rv' : Nat → Nat → Option Nat} {W : Option ((Nat → Nat) → Int)} {K g : Nat → Nat → Nat} {σ τ : Nat → Nat} {q p o k b b' t w w0 v n r z c s re x ac nx B B' : Nat} {l l5 : List Nat} {d d' : Nat → Int32} {us : Nat → Nat → Nat}
theorem C_note (hn : nx < 41) (h4 : i 25 4 = nI nx) : fX6_note 19 i = some (cp2 i (i 20) 0 26 (nx * 56) 56) := by
  unfold fX6_note fX8_copyTo
  simp (disch := omega) only [h4, q56, q0, mz_mul, nI_clamp, mz_ltp, Nat.not_lt_zero, not_false_eq_true, true_and]
  rw [if_pos (by omega)]
  rfl
theorem C_keep (hn : nx < 41) (ha : ac ≤ 40) (h4 : i 25 4 = nI nx) (h5 : i 25 5 = nI ac) : fX6_keepAct i = some (u2 (u2 i 25 4 (nI ((nx + 1) % 41))) 25 5 (nI (min 40 (ac + 1)))) := by
  unfold fX6_keepAct
  simp only [mz_lt]
  rw [u2n _ _ _ _ _ (by omega), h4, h5, nI_1, nI_1, show nI (nx + 1) - nI (nx + 1) / 41 * 41 = nI ((nx + 1) % 41) from mz_rem (a := nx + 1) (b := 41) (by omega) (by omega), q40, mz_min (by omega) (by omega)]
theorem m_rem2_l (ha : ac < 40) (h42 : j 50 42 = nI ac) : ∀ n k j', k ≤ 296 → 296 - k < n → Fr [65] j j' → (∀ c, c < k → j' 65 (296 * ac + c) = j 63 c) → (∀ z, z < 296 * ac → j' 65 z = j 65 z) → ∃ j'', fX12_remember_52 n (nI k) j' = some (u2 j'' 50 42 (nI (ac + 1))) ∧ Fr [65] j j'' ∧ (∀ c, c < 296 → j'' 65 (296 * ac + c) = j 63 c) ∧ (∀ z, z < 296 * ac → j'' 65 z = j 65 z) := by
  intro n
  induction n with
  | zero => intro k j' h1 h2; omega
  | succ n ih =>
    intro k j' h1 h2 hf c1 c2
    have e42 : j' 50 42 = nI ac := by rw [hf 50 (by decide)]; exact h42
    rw [fX12_remember_52]
    by_cases h3 : k = 296
    · have hh : (296 : Int32) ≤ nI k := by rw [q296]; exact nI_le (by omega) (by omega)
      rw [if_pos hh, mz_lt, e42, nI_1]
      exact ⟨j', rfl, hf, fun c hc => c1 c (by omega), c2⟩
    · have hh : ¬ (296 : Int32) ≤ nI k := by rw [q296]; exact nI_ge (by omega) (by omega)
      have e1 : (296 : Int32) * nI ac + nI k = nI (296 * ac + k) := by rw [q296, mz_mul, nI_add]
      rw [if_neg hh, if_pos (mz_in (by omega) (by omega)), e42, e1, if_pos (mz_in (by omega) (by omega)), mz_lt, nI_clamp (by omega), nI_clamp (by omega), nI_1]
      refine ih (k + 1) _ (by omega) (by omega) (Fr_t hf Fr_u) (fun c hc => ?_) (fun z hz => ?_)
      · by_cases e : c = k
        · subst e
          rw [u2e, hf 63 (by decide)]
        · rw [u2n _ _ _ _ _ (by omega)]
          exact c1 c (by omega)
      · rw [u2n _ _ _ _ _ (by omega)]
        exact c2 z hz
theorem m_rem1_l : ∀ n k j', k ≤ 11544 → 11544 - k < n → Fr [65] j j' → (∀ z, z < k → j' 65 z = j 65 (z + 296)) → (∀ z, k ≤ z → j' 65 z = j 65 z) → ∃ j'', fX12_remember_11 n (nI k) j' = fX12_remember_50 (u2 j'' 50 42 (j'' 50 42 - 1)) ∧ Fr [65] j j'' ∧ (∀ z, z < 11544 → j'' 65 z = j 65 (z + 296)) := by
  intro n
  induction n with
  | zero => intro k j' h1 h2; omega
  | succ n ih =>
    intro k j' h1 h2 hf c1 c2
    rw [fX12_remember_11]
    by_cases h3 : k = 11544
    · have hh : (11544 : Int32) ≤ nI k := by rw [q11544]; exact nI_le (by omega) (by omega)
      rw [if_pos hh, mz_lt]
      exact ⟨j', rfl, hf, fun z hz => c1 z (by omega)⟩
    · have hh : ¬ (11544 : Int32) ≤ nI k := by rw [q11544]; exact nI_ge (by omega) (by omega)
      have e1 : nI k + (296 : Int32) = nI (k + 296) := by rw [q296, nI_add]
      rw [if_neg hh, e1, if_pos (mz_in (by omega) (by omega)), if_pos (mz_in (by omega) (by omega)), mz_lt, nI_clamp (by omega), nI_clamp (by omega), nI_1]
      refine ih (k + 1) _ (by omega) (by omega) (Fr_t hf Fr_u) (fun z hz => ?_) (fun z hz => ?_)
      · by_cases e : z = k
        · subst e
          rw [u2e]
          exact c2 _ (by omega)
        · rw [u2n _ _ _ _ _ e]
          exact c1 z (by omega)
      · rw [u2n _ _ _ _ _ (by omega)]
        exact c2 z (by omega)
theorem M_remember (ha : ac ≤ 40) (h42 : j 50 42 = nI ac) : ∃ j', fX12_remember j = some j' ∧ Fr [50, 65] j j' ∧ F5 [42] j j' ∧ j' 50 42 = nI (min 40 (ac + 1)) ∧ (∀ c, c < 296 → j' 65 (296 * (min 40 (ac + 1) - 1) + c) = j 63 c) ∧ (∀ x c, x < min 40 (ac + 1) - 1 → c < 296 → j' 65 (296 * x + c) = j 65 (296 * (if ac = 40 then x + 1 else x) + c)) := by
  unfold fX12_remember fX12_remember_50
  obtain ⟨fu, hfu, hfu2⟩ := fuel_g
  rw [hfu, h42]
  by_cases h : ac = 40
  · have hh : nI ac = 40 := by rw [h]; rfl
    rw [if_pos hh]
    obtain ⟨j1, g1, g2, g3⟩ := m_rem1_l (j := j) fu 0 j (by omega) (by omega) (Fr_r _ _) (fun z hz => by omega) (fun z _ => rfl)
    rw [q0, g1]
    unfold fX12_remember_50
    rw [hfu]
    have e42 : j1 50 42 - 1 = nI 39 := by
      rw [g2 50 (by decide), h42, h]
      exact nI_pred 39
    rw [e42]
    obtain ⟨j2, k1, k2, k3, k4⟩ := m_rem2_l (ac := 39) (j := u2 j1 50 42 (nI 39)) (by omega) (u2e _ _ _ _) fu 0 (u2 j1 50 42 (nI 39)) (by omega) (by omega) (Fr_r _ _) (fun z hz => by omega) (fun z _ => rfl)
    rw [q0, k1]
    refine ⟨_, rfl, Fr_t (Fr_w (by decide) g2) (Fr_t (Fr_w (by decide) Fr_u) (Fr_t (Fr_w (by decide) k2) (Fr_w (by decide) Fr_u))), fun k hk => ?_, by rw [u2e, h]; rfl, fun c hc => ?_, fun x c hx hc => ?_⟩
    · simp only [List.mem_cons, List.mem_nil_iff, or_false] at hk
      rw [u2n _ _ _ _ _ hk, k2 50 (by decide), u2n _ _ _ _ _ hk, g2 50 (by decide)]
    · rw [u2r _ _ _ _ _ (by omega), h, show 296 * (min 40 (40 + 1) - 1) + c = 296 * 39 + c by omega, k3 c hc, u2r _ _ _ _ _ (by omega), g2 63 (by decide)]
    · rw [h] at hx
      rw [u2r _ _ _ _ _ (by omega), k4 _ (by omega), u2r _ _ _ _ _ (by omega), g3 _ (by omega), if_pos h]
      congr 1
      omega
  · have hh : ¬ nI ac = 40 := by rw [q40, nI_eq (by omega) (by omega)]; exact h
    rw [if_neg hh]
    obtain ⟨j2, k1, k2, k3, k4⟩ := m_rem2_l (ac := ac) (j := j) (by omega) h42 fu 0 j (by omega) (by omega) (Fr_r _ _) (fun z hz => by omega) (fun z _ => rfl)
    rw [q0, k1]
    have em : min 40 (ac + 1) = ac + 1 := by omega
    refine ⟨_, rfl, Fr_t (Fr_w (by decide) k2) (Fr_w (by decide) Fr_u), fun k hk => ?_, by rw [u2e, em], fun c hc => ?_, fun x c hx hc => ?_⟩
    · simp only [List.mem_cons, List.mem_nil_iff, or_false] at hk
      rw [u2n _ _ _ _ _ hk, k2 50 (by decide)]
    · rw [u2r _ _ _ _ _ (by omega), em, show ac + 1 - 1 = ac by omega, k3 c hc]
    · rw [em] at hx
      rw [u2r _ _ _ _ _ (by omega), k4 _ (by omega), if_neg h]
theorem LgM_d {u : Nat → Int32} (h : LgM d n u) (hd : ∀ e c, e < n → n ≤ e + 60 → c < 4 → d' (4 * (e % 100) + c) = d (4 * (e % 100) + c)) : LgM d' n u := by
  refine ⟨h.1, fun a c ha hc => ?_⟩
  rw [h.2 a c ha hc, hd _ c (by omega) (by omega) hc]
/-- an act is kept: what was there before it can be brought back -/
theorem UnR_push {i3 j3 : Tb} (h : UnR K b B i j ac nx us) (hbb : b ≤ b') (hs : ScC σ (i 20)) (hb : OkS K b' σ) (hw : ScM K σ (j 63)) (hlg : LgM (i 27) B (j 63)) (hB : σ 55 = B) (hB' : B' = B ∨ B' = B + 1) (hK : OkK K)
    (e26 : i3 26 = va_cpy (i 20) (i 26) 0 (nx * 56) 56) (e4 : i3 25 4 = nI ((nx + 1) % 41)) (e5 : i3 25 5 = nI (min 40 (ac + 1))) (e27 : (B' = B ∧ i3 27 = i 27) ∨ ∃ a0 a1 a2 a3, i3 27 = dyU (i 27) B a0 a1 a2 a3 ∧ B' = B + 1)
    (f42 : j3 50 42 = nI (min 40 (ac + 1))) (fn : ∀ c, c < 296 → j3 65 (296 * (min 40 (ac + 1) - 1) + c) = j 63 c) (fo : ∀ x c, x < min 40 (ac + 1) - 1 → c < 296 → j3 65 (296 * x + c) = j 65 (296 * (if ac = 40 then x + 1 else x) + c)) :
    ∃ us', UnR K b' B' i3 j3 (min 40 (ac + 1)) ((nx + 1) % 41) us' := by
  have hm := hK.1
  obtain ⟨h1, h2, h3, h4, h5, h6⟩ := h
  have hdia : ∀ e c, e < B → B < e + 100 → c < 4 → i3 27 (4 * (e % 100) + c) = i 27 (4 * (e % 100) + c) := by
    intro e c he1 he2 hc
    rcases e27 with ⟨_, e⟩ | ⟨a0, a1, a2, a3, e', _⟩
    · rw [e]
    · rw [e', dyU_o]
      omega
  have hcell : ∀ r c, r < 41 → c < 56 → r ≠ nx → i3 26 (56 * r + c) = i 26 (56 * r + c) := by
    intro r c hr hc hne
    rw [e26, pk_cpy_out]
    omega
  have hnew : ∀ c, c < 56 → i3 26 (56 * nx + c) = nI (σ c) := by
    intro c hc
    rw [e26, pk_cpy_in (by omega) (by omega), ← hs c hc]
    congr 1
    omega
  refine ⟨fun x => if x = min 40 (ac + 1) - 1 then σ else us (if ac = 40 then x + 1 else x), by omega, by omega, e5, e4, f42, fun x hx => ?_⟩
  dsimp only
  by_cases ex : x = min 40 (ac + 1) - 1
  · rw [if_pos ex]
    refine ⟨hb, fun c hc => ?_, ?_, ?_, by omega, by omega, fun y hy1 hy2 => ?_⟩
    · rw [show ((nx + 1) % 41 + 41 - min 40 (ac + 1) + x) % 41 = nx by omega]
      exact hnew c hc
    · rw [ex]
      exact ScM_e hK hb hw (fun k hk => fn k (by omega))
    · rw [ex, hB]
      exact LgM_e (LgM_d hlg (fun e c h1 h2 h3 => hdia e c h1 (by omega) h3)) (fun k hk hk2 => fn k (by omega))
    · rw [if_pos (show y = min 40 (ac + 1) - 1 by omega)]
      omega
  · rw [if_neg ex]
    obtain ⟨y, hy0⟩ : ∃ y, y = (if ac = 40 then x + 1 else x) := ⟨_, rfl⟩
    have hyc : (ac = 40 ∧ y = x + 1) ∨ (ac ≠ 40 ∧ y = x) := by rw [hy0]; split <;> omega
    have hfo : ∀ c, c < 296 → j3 65 (296 * x + c) = j 65 (296 * y + c) := fun c hc => by rw [hy0]; exact fo x c (by omega) hc
    rw [← hy0]
    obtain ⟨g1, g2, g3, g4, g5, g6, g7⟩ := h6 y (by omega)
    refine ⟨OkS_up g1 hbb, fun c hc => ?_, ?_, ?_, by omega, by omega, fun y2 hy1 hy2 => ?_⟩
    · have er : ((nx + 1) % 41 + 41 - min 40 (ac + 1) + x) % 41 = (nx + 41 - ac + y) % 41 := by omega
      rw [er, hcell _ c (by omega) hc (by omega)]
      exact g2 c hc
    · exact ScM_e hK g1 g3 (fun k hk => hfo k (by omega))
    · exact LgM_e (LgM_d g4 (fun e c h1 h2 h3 => hdia e c (by omega) (by omega) h3)) (fun k hk hk2 => hfo k (by omega))
    · by_cases e2 : y2 = min 40 (ac + 1) - 1
      · rw [if_pos e2, hB]
        omega
      · rw [if_neg e2]
        obtain ⟨z, hz0⟩ : ∃ z, z = (if ac = 40 then y2 + 1 else y2) := ⟨_, rfl⟩
        have hzc : (ac = 40 ∧ z = y2 + 1) ∨ (ac ≠ 40 ∧ z = y2) := by rw [hz0]; split <;> omega
        rw [← hz0]
        have := g7 z (by omega) (by omega)
        omega
end ME
