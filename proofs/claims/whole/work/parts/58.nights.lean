/-! nights by draws -/
theorem wb_tb (n : Nat) : (lN n).toBitVec = BitVec.ofNat 64 n := rfl
theorem wb_inj {a b : Int64} (h : a.toBitVec = b.toBitVec) : a = b := Int64.toBitVec_inj.mp h
theorem wb_tn {n : Nat} (h : n < 2 ^ 64) : (lN n).toBitVec.toNat = n := by rw [wb_tb, BitVec.toNat_ofNat, Nat.mod_eq_of_lt h]
theorem wb_of (x : Int64) : ∃ n, n < 2 ^ 64 ∧ x = lN n := ⟨x.toBitVec.toNat, x.toBitVec.isLt, wb_inj (by rw [wb_tb]; simp)⟩
theorem wb_cu : ∀ k, k < 64 → ((nI k).toInt64.toUInt64 &&& Int64.toUInt64 63) = UInt64.ofNat k := by decide +kernel
theorem wb_shr {n k : Nat} (hn : n < 2 ^ 64) (hk : k < 64) : ((lN n).toUInt64 >>> ((nI k).toInt64.toUInt64 &&& Int64.toUInt64 63)).toInt64 = lN (n / 2 ^ k) := by
  rw [wb_cu k hk]
  apply wb_inj
  apply BitVec.eq_of_toNat_eq
  show ((lN n).toUInt64 >>> UInt64.ofNat k).toNat = (BitVec.ofNat 64 _).toNat
  have h1 : (UInt64.ofNat k).toNat = k := by
    show (BitVec.ofNat 64 k).toNat = k
    rw [BitVec.toNat_ofNat, Nat.mod_eq_of_lt (by omega)]
  have h2 : (lN n).toUInt64.toNat = n := wb_tn hn
  rw [UInt64.toNat_shiftRight, h1, h2, Nat.mod_eq_of_lt hk, Nat.shiftRight_eq_div_pow, BitVec.toNat_ofNat, Nat.mod_eq_of_lt (Nat.lt_of_le_of_lt (Nat.div_le_self _ _) hn)]
/-- the next number, and a draw out of it -/
def dX (x : Int64) : Int64 := x * (6364136223846793005 : Int64) + (1442695040888963407 : Int64)
def dZ (x : Int64) : Nat := x.toBitVec.toNat / 2 ^ 33
theorem dZ_lt (x : Int64) : dZ x < 2 ^ 31 := by
  unfold dZ
  have := x.toBitVec.isLt
  omega
theorem dZ_v {x : Int64} {m : Nat} (hm : 0 < m) (hm2 : m < 2 ^ 31) : ((x.toUInt64 >>> ((33 : Int32).toInt64.toUInt64 &&& Int64.toUInt64 63)).toInt64 - (x.toUInt64 >>> ((33 : Int32).toInt64.toUInt64 &&& Int64.toUInt64 63)).toInt64 / (nI m).toInt64 * (nI m).toInt64).toInt32 = nI (dZ x % m) := by
  have e : (x.toUInt64 >>> ((33 : Int32).toInt64.toUInt64 &&& Int64.toUInt64 63)).toInt64 = lN (dZ x) := by
    obtain ⟨n, hn, rfl⟩ := wb_of x
    rw [q33, wb_shr hn (by omega)]
    unfold dZ
    rw [wb_tn hn]
  have hz := dZ_lt x
  rw [e, nI_l hm2, show lN (dZ x) / lN m = lN (dZ x / m) from (Int64.ofNat_div (by omega) (by omega)).symm, lN_mul, lN_sub (Nat.div_mul_le_self _ _), lN_i]
  congr 1
  have := Nat.mod_add_div (dZ x) m
  rw [Nat.mul_comm] at this
  omega
section NG
variable {i i' i1 i2 i3 j j' j1 j2 : Tb} {rv rv' rv2 : Nat → Nat → Option Nat} {lo lo' : Nat → Nat → Int64} {W : Option ((Nat → Nat) → Int)} {K g : Nat → Nat → Nat} {σ τ σ' ρ : Nat → Nat} {q p o k b b' t w w0 v n r z c s re x ac nx B B' kd m y dr : Nat} {l l5 : List Nat} {d d' : Nat → Int32} {us : Nat → Nat → Nat} {X : Int64}
theorem c_draw (h : lo 0 13 = X) (hm : 0 < m) (hm2 : m < 2 ^ 31) : fX11_draw (nI m) lo = some (nI (dZ (dX X) % m), u2 lo 0 13 (dX X)) := by
  unfold fX11_draw
  simp only [mz_lt]
  rw [u2e, h, show X * 6364136223846793005 + 1442695040888963407 = dX X from rfl, dZ_v hm hm2, if_pos (show (1 : Int32) ≤ nI m from nI_le (a := 1) (b := m) (by omega) (by omega)), if_neg (by
    rw [nI_l hm2, show (0 : Int64) = lN 0 from rfl, lN_eq (by omega) (by omega)]
    omega)]
theorem m_draw (h : lo 50 43 = X) (hm : 0 < m) (hm2 : m < 2 ^ 31) : fX12_draw (nI m) lo = some (nI (dZ (dX X) % m), u2 lo 50 43 (dX X)) := by
  unfold fX12_draw
  simp only [mz_lt]
  rw [u2e, h, show X * 6364136223846793005 + 1442695040888963407 = dX X from rfl, dZ_v hm hm2, if_neg (by
    rw [nI_l hm2, show (0 : Int64) = lN 0 from rfl, lN_eq (by omega) (by omega)]
    omega)]
def wts (K : Nat → Nat → Nat) (x : Nat) : Nat := sumTo (fun o => ov K o 0) x
theorem wts_le (hK : OkK K) (hx : x ≤ K 0 4) : wts K x ≤ 9 * x := by
  have h := sumTo_le (f := fun o => ov K o 0) (m := 9) (n := x) (fun z hz => hK.2.2.2.2.2.2.2.2.2.2.2.1 z 0 (by omega) (by omega))
  unfold wts
  omega
theorem c_weights_l (h : CarC q K i) (hK : OkK K) : ∀ n x, x ≤ K 0 4 → K 0 4 - x < n → fX1_allWeights_4 q n (nI (wts K x)) (nI x) i = some (nI (wts K (K 0 4))) := by
  have hm := hK.2.1
  intro n
  induction n with
  | zero => intro x h1 h2; omega
  | succ n ih =>
    intro x h1 h2
    rw [fX1_allWeights_4, h.2.1]
    by_cases h3 : x = K 0 4
    · subst h3
      rw [if_pos (nI_le (by omega) (by omega))]
    · rw [if_neg (nI_ge (by omega) (by omega)), q0, c_ofOfficer h (by omega) (by omega), mz_b1, nI_add, nI_1]
      exact ih (x + 1) (by omega) (by omega)
theorem c_weights (h : CarC q K i) (hK : OkK K) : fX1_allWeights q i = some (nI (wts K (K 0 4))) := c_weights_l h hK fuel 0 (by omega) (by have hm := hK.2.1; show K 0 4 - 0 < 30000; omega)
theorem m_weights_l (h : CarM K j) (hK : OkK K) : ∀ n x, x ≤ K 0 4 → K 0 4 - x < n → fX12_weights_4 n (nI (wts K x)) (nI x) j = some (nI (wts K (K 0 4))) := by
  have hm := hK.2.1
  intro n
  induction n with
  | zero => intro x h1 h2; omega
  | succ n ih =>
    intro x h1 h2
    rw [fX12_weights_4, h.2.1]
    by_cases h3 : x = K 0 4
    · subst h3
      rw [if_pos (nI_le (by omega) (by omega))]
    · have e : j 59 (4 * x) = nI (ov K x 0) := h.2.2.2.2.2 _ (by omega)
      rw [if_neg (nI_ge (by omega) (by omega)), show (4 : Int32) * nI x = nI (4 * x) from by rw [q4, mz_mul], if_pos (mz_in (by omega) (by omega)), mz_lt, nI_clamp (by omega), e, nI_add, nI_1]
      exact ih (x + 1) (by omega) (by omega)
theorem m_weights (h : CarM K j) (hK : OkK K) : fX12_weights j = some (nI (wts K (K 0 4))) := m_weights_l h hK fuel 0 (by omega) (by have hm := hK.2.1; show K 0 4 - 0 < 30000; omega)
theorem drawO_l (h : CarC 15 K i) (h' : CarM K j) (hK : OkK K) : ∀ n x y, x < K 0 4 → K 0 4 - x < n → wts K x + y < wts K (K 0 4) → ∃ o, o < K 0 4 ∧ fX11_drawOfficer_22 n (nI y) (nI x) i lo = some (nI o, lo) ∧ fX12_drawnOfficer_19 n (nI y) (nI x) j lo' = some (nI o, lo') := by
  have hm := hK.2.1
  have hl := wts_le hK (Nat.le_refl (K 0 4))
  intro n
  induction n with
  | zero => intro x y h1 h2; omega
  | succ n ih =>
    intro x y h1 h2 h3
    have e : j 59 (4 * x) = nI (ov K x 0) := h'.2.2.2.2.2 _ (by omega)
    have h9 := hK.2.2.2.2.2.2.2.2.2.2.2.1 x 0 h1 (by omega)
    have es : wts K (x + 1) = wts K x + ov K x 0 := rfl
    rw [fX11_drawOfficer_22, fX12_drawnOfficer_19]
    unfold fX1_officers
    rw [h.2.1, mz_b1, nI_1, q0, c_ofOfficer h (by omega) (by omega), show (4 : Int32) * nI x = nI (4 * x) from by rw [q4, mz_mul], if_pos (mz_in (by omega) (by omega)), if_pos (mz_in (by omega) (by omega)), nI_clamp (by omega), e]
    by_cases h4 : y < ov K x 0
    · rw [if_pos (nI_lt h4 (by omega))]
      refine ⟨x, h1, ?_, rfl⟩
      by_cases h5 : x + 1 = K 0 4
      · rw [if_pos (nI_le (by omega) (by omega))]
      · rw [if_neg (nI_ge (by omega) (by omega)), mz_b1, if_pos (nI_lt h4 (by omega))]
    · have h5 : x + 1 < K 0 4 := by
        rcases Nat.lt_or_ge (x + 1) (K 0 4) with h6 | h6
        · exact h6
        · have : x + 1 = K 0 4 := by omega
          rw [← this, es] at h3
          omega
      rw [if_neg (nI_nlt (by omega) (by omega)), if_neg (nI_ge (by omega) (by omega)), mz_b1, if_neg (nI_nlt (by omega) (by omega)), mz_b1, mz_lt, mz_sub (by omega)]
      exact ih (x + 1) (y - ov K x 0) h5 (by omega) (by omega)
theorem R_drawO (h : CarC 15 K i) (h' : CarM K j) (hK : OkK K) (hn : 0 < K 0 4) (e1 : lo 0 13 = X) (e2 : lo' 50 43 = X) : ∃ o X' L L', o < K 0 4 ∧ fX11_drawOfficer i lo = some (nI o, L) ∧ fX12_drawnOfficer j lo' = some (nI o, L') ∧ L 0 13 = X' ∧ L' 50 43 = X' := by
  have hm := hK.2.1
  have hl := wts_le hK (Nat.le_refl (K 0 4))
  unfold fX11_drawOfficer fX12_drawnOfficer
  obtain ⟨fu, hfu, hfu2⟩ := fuel_g
  rw [hfu, c_weights h hK, m_weights h' hK, mz_b1, mz_b1]
  by_cases h0 : wts K (K 0 4) = 0
  · rw [if_pos (by rw [h0]; rfl), if_pos (by rw [h0]; rfl)]
    exact ⟨0, X, lo, lo', hn, rfl, rfl, e1, e2⟩
  · have hne : ¬ nI (wts K (K 0 4)) = 0 := by rw [q0, nI_eq (by omega) (by omega)]; exact h0
    rw [if_neg hne, if_neg hne, c_draw e1 (by omega) (by omega), m_draw e2 (by omega) (by omega), mz_b2, mz_b2]
    have hd : dZ (dX X) % wts K (K 0 4) < wts K (K 0 4) := Nat.mod_lt _ (by omega)
    obtain ⟨o, ho, k1, k2⟩ := drawO_l (lo := u2 lo 0 13 (dX X)) (lo' := u2 lo' 50 43 (dX X)) h h' hK fu 0 _ hn (by omega) (show wts K 0 + _ < _ by rw [show wts K 0 = 0 from rfl, Nat.zero_add]; exact hd)
    exact ⟨o, dX X, _, _, ho, k1, k2, u2e _ _ _ _, u2e _ _ _ _⟩
/-- who is awake may lie down -/
def lie1 (dr k : Nat) (s : Int64 × (Nat → Nat)) : Int64 × (Nat → Nat) := if s.2 (27 + k) = 0 then (dX s.1, if dr ≤ dZ (dX s.1) % 100 then s.2 else up s.2 (27 + k) 1) else s
def lieN (dr : Nat) (s : Int64 × (Nat → Nat)) : Nat → Int64 × (Nat → Nat)
  | 0 => s
  | k + 1 => lie1 dr k (lieN dr s k)
theorem lieN_ok (hK : OkK K) {s : Int64 × (Nat → Nat)} (hb : OkS K b s.2) : ∀ k, k ≤ K 0 3 → OkS K b (lieN dr s k).2 ∧ (lieN dr s k).2 55 = s.2 55 := by
  have hm := hK.1
  intro k
  induction k with
  | zero => intro _; exact ⟨hb, rfl⟩
  | succ k ih =>
    intro hk
    obtain ⟨h1, h2⟩ := ih (by omega)
    show OkS K b (lie1 dr k (lieN dr s k)).2 ∧ (lie1 dr k (lieN dr s k)).2 55 = _
    unfold lie1
    split
    · dsimp only
      split
      · exact ⟨h1, h2⟩
      · exact ⟨OkS_lie hK h1 (by omega) (by omega), by rw [upn _ _ _ _ (by omega)]; exact h2⟩
    · exact ⟨h1, h2⟩
theorem c_lie_l {S : Int64 × (Nat → Nat)} (hK : OkK K) (hb : OkS K b S.2) (h : CarC 15 K i) (hd : i 0 11 = nI dr) (hdr : dr ≤ 99) : ∀ n k i' lo, k ≤ K 0 3 → K 0 3 - k < n → Fr [20] i i' → ScC (lieN dr S k).2 (i' 20) → lo 0 13 = (lieN dr S k).1 → ∃ i'' lo'', fX11_spendNight_25 n (nI k) i' lo rv = some (i'', lo'') ∧ Fr [20] i i'' ∧ ScC (lieN dr S (K 0 3)).2 (i'' 20) ∧ lo'' 0 13 = (lieN dr S (K 0 3)).1 := by
  have hm := hK.1
  intro n
  induction n with
  | zero => intro k i' lo h1 h2; omega
  | succ n ih =>
    intro k i' lo h1 h2 hf hs hx
    rw [fX11_spendNight_25]
    unfold fX1_sleepers
    rw [hf 15 (by decide), h.1, mz_b1]
    by_cases h3 : k = K 0 3
    · subst h3
      rw [if_pos (nI_le (by omega) (by omega))]
      exact ⟨i', lo, rfl, hf, hs, hx⟩
    · have hok := (lieN_ok (dr := dr) hK hb k (by omega)).1
      have ha := (hok.2.2.2.2.2.2.1 k (by omega)).1
      have hl100 : dZ (dX (lieN dr S k).1) % 100 < 100 := Nat.mod_lt _ (by omega)
      rw [if_neg (nI_ge (by omega) (by omega)), s_isAsleep (q := 19) hs hok (by omega), mz_b1]
      unfold fX11_spendNight_68
      by_cases h4 : (lieN dr S k).2 (27 + k) = 0
      · have e : lieN dr S (k + 1) = (dX (lieN dr S k).1, if dr ≤ dZ (dX (lieN dr S k).1) % 100 then (lieN dr S k).2 else up (lieN dr S k).2 (27 + k) 1) := if_pos h4
        rw [if_pos (by rw [h4]; rfl), q100, c_draw hx (by omega) (by omega), mz_b2, hf 0 (by decide), hd, nI_1]
        by_cases h5 : dr ≤ dZ (dX (lieN dr S k).1) % 100
        · rw [if_pos (nI_le h5 (by omega))]
          rw [if_pos h5] at e
          exact ih (k + 1) _ _ (by omega) (by omega) hf (by rw [e]; exact hs) (by rw [e, u2e])
        · rw [if_neg (nI_ge (by omega) (by omega))]
          rw [if_neg h5] at e
          unfold fX8_layDown
          rw [q27, nI_add, if_pos (mz_in (by omega) (by omega)), mz_lt, mz_b1, nI_clamp (by omega)]
          exact ih (k + 1) _ _ (by omega) (by omega) (Fr_t hf Fr_u) (by rw [e]; exact ScC_u hs rfl) (by rw [e, u2e])
      · have e : lieN dr S (k + 1) = lieN dr S k := if_neg h4
        rw [if_neg (by rw [q0, nI_eq (by omega) (by omega)]; exact h4), nI_1]
        exact ih (k + 1) _ _ (by omega) (by omega) hf (by rw [e]; exact hs) (by rw [e]; exact hx)
theorem m_lie_l {S : Int64 × (Nat → Nat)} {x1 x4 : Int32} {kh : Int32 → Int32 → (Nat → Nat → Int32) → (Nat → Nat → Int64) → (Nat → Nat → Option Nat) → Option ((Int32) × (Nat → Nat → Int32) × (Nat → Nat → Int64) × (Nat → Nat → Option Nat))} (hK : OkK K) (hb : OkS K b S.2) (h : CarM K j) (hd : j 50 36 = nI dr) (hdr : dr ≤ 99) : ∀ n k j' lo, k ≤ K 0 3 → K 0 3 - k < n → Fr [63] j j' → (∀ z, 54 ≤ z → j' 63 z = j 63 z) → ScM K (lieN dr S k).2 (j' 63) → lo 50 43 = (lieN dr S k).1 → ∃ j'' lo'', fX12_nights_59 kh n x1 x4 (nI k) j' lo rv = kh x1 (x4 + 1) j'' lo'' rv ∧ Fr [63] j j'' ∧ (∀ z, 54 ≤ z → j'' 63 z = j 63 z) ∧ ScM K (lieN dr S (K 0 3)).2 (j'' 63) ∧ lo'' 50 43 = (lieN dr S (K 0 3)).1 := by
  have hm := hK.1
  intro n
  induction n with
  | zero => intro k j' lo h1 h2; omega
  | succ n ih =>
    intro k j' lo h1 h2 hf hz hs hx
    rw [fX12_nights_59, hf 50 (by decide), h.1]
    by_cases h3 : k = K 0 3
    · subst h3
      rw [if_pos (nI_le (by omega) (by omega))]
      exact ⟨j', lo, rfl, hf, hz, hs, hx⟩
    · have hok := (lieN_ok (dr := dr) hK hb k (by omega)).1
      have ha := (hok.2.2.2.2.2.2.1 k (by omega)).1
      have hl100 : dZ (dX (lieN dr S k).1) % 100 < 100 := Nat.mod_lt _ (by omega)
      have ea : (6 : Int32) * nI k + 3 = nI (6 * k + 3) := by rw [q6, mz_mul, q3, nI_add]
      rw [if_neg (nI_ge (by omega) (by omega)), ea, if_pos (mz_in (by omega) (by omega)), nI_clamp (by omega), (hs.1 k (by omega)).2.2.1]
      unfold fX12_nights_109
      by_cases h4 : (lieN dr S k).2 (27 + k) = 0
      · have e : lieN dr S (k + 1) = (dX (lieN dr S k).1, if dr ≤ dZ (dX (lieN dr S k).1) % 100 then (lieN dr S k).2 else up (lieN dr S k).2 (27 + k) 1) := if_pos h4
        rw [if_pos (by rw [h4]; rfl), q100, m_draw hx (by omega) (by omega), mz_b2, hd, nI_1]
        by_cases h5 : dr ≤ dZ (dX (lieN dr S k).1) % 100
        · rw [if_pos (nI_le h5 (by omega))]
          rw [if_pos h5] at e
          exact ih (k + 1) _ _ (by omega) (by omega) hf hz (by rw [e]; exact hs) (by rw [e, u2e])
        · rw [if_neg (nI_ge (by omega) (by omega)), if_pos (mz_in (by omega) (by omega)), mz_lt]
          rw [if_neg h5] at e
          exact ih (k + 1) _ _ (by omega) (by omega) (Fr_t hf Fr_u) (fun z hz2 => by rw [u2n _ _ _ _ _ (by omega)]; exact hz z hz2) (by rw [e]; exact ScM_asl hK hok hs (by omega)) (by rw [e, u2e])
      · have e : lieN dr S (k + 1) = lieN dr S k := if_neg h4
        rw [if_neg (by rw [q0, nI_eq (by omega) (by omega)]; exact h4), nI_1]
        exact ih (k + 1) _ _ (by omega) (by omega) hf hz (by rw [e]; exact hs) (by rw [e]; exact hx)
end NG
