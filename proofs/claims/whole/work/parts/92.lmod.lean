/-! laws: the model reads and reckons -/
def cZ (z : Nat) : Nat := (aCh 2 (nI z)).toNatClampNeg
def LtM (l : Nat → Int) (Y : Tb) : Prop := ∀ z, z < 6 → Y 54 (cZ z) = zI (l z)
def MS (T : Nat → Nat) (L B w : Nat) (l : Nat → Int) (d : Nat) (Y : Tb) (rv : Nat → Nat → Option Nat) : Prop := TxM T L B w Y rv ∧ Y 50 11 = NN ∧ Y 50 12 = nI d ∧ LtM l Y
def FlM (Y : Tb) (r : Nat) (Y' : Tb) : Prop := Y' 50 11 = nI r ∧ Fr [50] Y Y' ∧ F5 [10, 11, 12] Y Y'
def MR (l : Nat → Int) (Y : Tb) (res : PR) (out : Option (Int32 × Tb)) : Prop := (∀ r x, res = (r, some x) → out = some (zI (x.2 l), mP Y r)) ∧ (∀ r, res = (r, none) → ∃ v Y', out = some (v, Y') ∧ FlM Y r Y')
def MG (T : Nat → Nat) (L B w : Nat) (l : Nat → Int) (d : Nat) (rv : Nat → Nat → Option Nat) (g : Nat → PR) (G : Tb → (Nat → Nat → Option Nat) → Option (Int32 × Tb)) : Prop := ∀ Y p, MS T L B w l d Y rv → p ≤ L → MR l Y (g p) (G (mP Y p) rv)
def MRb (l : Nat → Int) (Y : Tb) (res : PR) (out : Option (Int32 × Tb)) : Prop := (∀ r x, res = (r, some x) → out = some (zI (x.2 l), mP Y r)) ∧ (∀ r, res = (r, none) → ∃ v Y', out = some (v, Y') ∧ (v = 0 ∨ v = 1) ∧ FlM Y r Y')
def MGb (T : Nat → Nat) (L B w : Nat) (l : Nat → Int) (d : Nat) (rv : Nat → Nat → Option Nat) (g : Nat → PR) (G : Tb → (Nat → Nat → Option Nat) → Option (Int32 × Tb)) : Prop := ∀ Y p, MS T L B w l d Y rv → p ≤ L → MRb l Y (g p) (G (mP Y p) rv)
def R32 (v : Int) : Prop := -2147483648 ≤ v ∧ v < 2147483648
section LM
variable {Y Y' Y'' : Tb} {rv : Nat → Nat → Option Nat} {T : Nat → Nat} {L B w p q r n d e m k c z : Nat} {g : Nat → PR} {x y : VL} {v : Int32} {l : Nat → Int} {gs : (Nat → Nat → Int32) → (Nat → Nat → Option Nat) → Option ((Int32) × (Nat → Nat → Int32))}
theorem MR_n {out : Option (Int32 × Tb)} (h : ∃ v Y', out = some (v, Y') ∧ FlM Y r Y') : MR l Y (r, none) out := ⟨fun r x e => by have := (Prod.mk.inj e).2; simp at this, fun r' e => by rw [← (Prod.mk.inj e).1]; exact h⟩
theorem MR_s {out : Option (Int32 × Tb)} (h : out = some (zI (x.2 l), mP Y r)) : MR l Y (r, some x) out := ⟨fun r' x' e => by rw [← (Prod.mk.inj e).1, ← Option.some.inj (Prod.mk.inj e).2]; exact h, fun r' e => by have := (Prod.mk.inj e).2; simp at this⟩
theorem MRb_n {out : Option (Int32 × Tb)} (h : ∃ v Y', out = some (v, Y') ∧ (v = 0 ∨ v = 1) ∧ FlM Y r Y') : MRb l Y (r, none) out := ⟨fun r x e => by have := (Prod.mk.inj e).2; simp at this, fun r' e => by rw [← (Prod.mk.inj e).1]; exact h⟩
theorem MRb_s {out : Option (Int32 × Tb)} (h : out = some (zI (x.2 l), mP Y r)) : MRb l Y (r, some x) out := ⟨fun r' x' e => by rw [← (Prod.mk.inj e).1, ← Option.some.inj (Prod.mk.inj e).2]; exact h, fun r' e => by have := (Prod.mk.inj e).2; simp at this⟩
theorem FlM_F : FlM Y r (mF Y r) := by
  refine ⟨mF_11, fun q hq => ?_, fun k hk => ?_⟩
  · unfold mF mP
    rw [u2r _ _ _ _ _ (fun e => hq (by simp [e])), u2r _ _ _ _ _ (fun e => hq (by simp [e]))]
  · unfold mF mP
    rw [u2n _ _ _ _ _ (fun e => hk (by simp [e])), u2n _ _ _ _ _ (fun e => hk (by simp [e]))]
theorem FlM_d (h : FlM (u2 Y 50 12 v) r Y') : FlM Y r Y' := by
  obtain ⟨h1, h2, h3⟩ := h
  refine ⟨h1, fun q hq => ?_, fun k hk => ?_⟩
  · rw [h2 q hq, u2r _ _ _ _ _ (fun e => hq (by simp [e]))]
  · rw [h3 k hk, u2n _ _ _ _ _ (fun e => hk (by simp [e]))]
theorem FlM_u (h : FlM Y r Y') : FlM Y r (u2 Y' 50 12 v) := by
  obtain ⟨h1, h2, h3⟩ := h
  refine ⟨by rw [u2n _ _ _ _ _ (by omega)]; exact h1, fun q hq => ?_, fun k hk => ?_⟩
  · rw [u2r _ _ _ _ _ (fun e => hq (by simp [e])), h2 q hq]
  · rw [u2n _ _ _ _ _ (fun e => hk (by simp [e])), h3 k hk]
theorem FlM_11 (h : FlM Y r Y') (hr : r ≤ 240) : ¬ Y' 50 11 = NN := by rw [h.1, mz_nm (by omega)]; exact fun e => e
theorem MS_d (h : MS T L B w l d Y rv) : MS T L B w l k (u2 Y 50 12 (nI k)) rv := by
  obtain ⟨h1, h2, h3, h4⟩ := h
  exact ⟨TxM_u h1 (by omega), by rw [u2n _ _ _ _ _ (by omega)]; exact h2, u2e _ _ _ _, fun z hz => by rw [u2r _ _ _ _ _ (by omega)]; exact h4 z hz⟩
theorem cZ_i : ∀ z, z < 6 → aIn (aCh 2 (nI z)) 128 = true := by decide +kernel
theorem not91 : ∀ z, z < 6 → ¬ aCh 2 (nI z) = 91 := by decide +kernel
theorem len2 : aLen.getD 2 0 = 6 := by decide +kernel
theorem lcz_0 {X : Int64} : (lg_cmp X 0 = 0) ↔ X = 0 := by
  have h1 := lg_cmp_lt X 0
  have h2 := lg_cmp_gt X 0
  constructor
  · intro e
    rw [e] at h1 h2
    apply Int64.toInt_inj.mp
    have e1 : ¬ X < 0 := fun f => absurd (h1.mpr f) (by decide)
    have e2 : ¬ 0 < X := fun f => absurd (h2.mpr f) (by decide)
    have f1 := Int64.not_lt.mp e1
    have f2 := Int64.not_lt.mp e2
    have g1 := Int64.le_iff_toInt_le.mp f1
    have g2 := Int64.le_iff_toInt_le.mp f2
    omega
  · intro e
    rw [e]
    decide +kernel
theorem m_num_l (hT : OkT T L) (h : TxM T L B w Y rv) (h11 : Y 50 11 = NN) : ∀ d n x v p, p ≤ L → x + d = 4 → d < n → (∀ r v', nmS T L d v p = (r, some v') → fX12_atom_90 gs n (nI v) (nI x) (mP Y p) rv = some (nI v', mP Y r)) ∧ (∀ r, nmS T L d v p = (r, none) → fX12_atom_90 gs n (nI v) (nI x) (mP Y p) rv = some (0, mF Y r)) := by
  have hL := hT.1
  obtain ⟨t1, t2, t3, t4, t5, t6⟩ := id h
  have hb : bLen w ≤ 960 := by unfold bLen; split <;> omega
  intro d
  induction d with
  | zero =>
    intro n x v p hp h1 h2
    obtain ⟨n', rfl⟩ : ∃ n', n = n' + 1 := ⟨n - 1, by omega⟩
    rw [fX12_atom_90, nmS, m_isDigit hT h hp, mz_b1]
    by_cases h3 : dgt T L p = true
    · rw [if_pos h3, if_pos h3, if_neg (show ¬ (1 : Int32) = 0 by decide), mP_n (by omega), h11, if_pos qN1.symm, if_pos (show nI x = 4 by rw [show x = 4 by omega]; rfl), m_fails h11, mz_b2]
      exact ⟨fun r v' e => by have := (Prod.mk.inj e).2; simp at this, fun r e => by rw [← (Prod.mk.inj e).1]⟩
    · rw [if_neg h3, if_neg h3, if_pos rfl]
      exact ⟨fun r v' e => by rw [← (Prod.mk.inj e).1, ← Option.some.inj (Prod.mk.inj e).2], fun r e => by have := (Prod.mk.inj e).2; simp at this⟩
  | succ d ih =>
    intro n x v p hp h1 h2
    obtain ⟨n', rfl⟩ : ∃ n', n = n' + 1 := ⟨n - 1, by omega⟩
    rw [fX12_atom_90, nmS, m_isDigit hT h hp, mz_b1]
    by_cases h3 : dgt T L p = true
    · have h4 := dgt_of h3
      rw [if_pos h3, if_pos h3, if_neg (show ¬ (1 : Int32) = 0 by decide), mP_n (by omega), h11, if_pos qN1.symm, if_neg (show ¬ nI x = 4 by rw [q4, nI_eq (by omega) (by omega)]; omega), mP_n (by omega), mP_at, t1, t3, mP_r (by omega), nI_add, if_pos (mz_in (by omega) (by omega)), nI_clamp (by omega), t6 p h4.1, bS_lo _ (by omega), q10, mz_mul, nI_add, q48, mz_sub (by omega), mz_lt, mz_lt, nI_1, nI_1, mP_2, show 10 * v + T p - 48 = 10 * v + (T p - 48) by omega]
      exact ih n' (x + 1) _ (p + 1) (by omega) (by omega) (by omega)
    · rw [if_neg h3, if_neg h3, if_pos rfl]
      exact ⟨fun r v' e => by rw [← (Prod.mk.inj e).1, ← Option.some.inj (Prod.mk.inj e).2], fun r e => by have := (Prod.mk.inj e).2; simp at this⟩
theorem m_goes (h11 : Y 50 11 = NN) (h12 : Y 50 12 = nI d) (hd : d < 6) (hp : p < 300) : fX12_goesIn (mP Y p) = some (1, mP (u2 Y 50 12 (nI (d + 1))) (p + 1)) := by
  unfold fX12_goesIn
  rw [mP_n (by omega), h12, if_neg (show ¬ nI d = 6 by rw [q6, nI_eq (by omega) (by omega)]; omega), mz_lt, mz_lt, q1, nI_add, mP_c (by omega), mP_at, nI_add, mP_2]
theorem m_goes6 (h11 : Y 50 11 = NN) (h12 : Y 50 12 = nI 6) : fX12_goesIn (mP Y p) = some (0, mF Y p) := by
  have n0 : narrow .boolean (.int 0) = .int 0 := by decide +kernel
  unfold fX12_goesIn
  rw [mP_n (by omega), h12, if_pos (show nI 6 = 6 from rfl), m_fails h11, mz_b2, if_pos n0]
theorem m_out (h12 : Y 50 12 = nI d) (hd : d < 300) : u2 (mP (u2 Y 50 12 (nI (d + 1))) p) 50 12 (mP (u2 Y 50 12 (nI (d + 1))) p 50 12 - 1) = mP Y p := by
  rw [mP_n (by omega), u2e, q1, mz_sub (by omega), show d + 1 - 1 = d by omega, mP_c (by omega), u2_2, u2_i _ h12]
/-- an atom -/
theorem m_atom {go : Option (Nat → PR)} (hT : OkT T L) (hgo : (go = none ∧ d = 6) ∨ (∃ g, go = some g ∧ d < 6 ∧ MG T L B w l (d + 1) rv g gs ∧ SpO L g)) : MG T L B w l d rv (atS T L go) (fX12_atom gs) := by
  intro Y p hM hp
  obtain ⟨hX, h11, h12, hl⟩ := id hM
  have hL := hT.1
  have s1 := sk_ge (T := T) hp
  have s2 := sk_le (T := T) hp
  unfold fX12_atom fX12_atom_86
  rw [m_look hT hX hp, mz_b2, m_isAmong (by omega), len2, mz_b1]
  cases hz : fnC (fun z => aCh 2 (nI z)) (ch T L (skp T L p)) 6 0 with
  | some z =>
    have hlt := lt_let hz
    have hch := (fnC_lt 6 0 hz).2.2
    have h91 : ¬ ch T L (skp T L p) = 91 := by rw [← hch]; exact not91 z hlt.2
    have hll := hl z hlt.2
    unfold cZ at hll
    rw [atS_3 h91 hz, show (some z).isSome = true from rfl, if_pos rfl, if_neg (show ¬ (1 : Int32) = 0 by decide), mz_lt, mP_at, q1, nI_add, mP_2, ← hch, if_pos (cZ_i z hlt.2), mP_r (by omega), hll]
    exact MR_s rfl
  | none =>
    rw [show (none : Option Nat).isSome = false from rfl, if_neg (show ¬ false = true by decide), if_pos rfl]
    by_cases h : ch T L (skp T L p) = 91
    · have hlt := ch_skl (c := 91) (by omega) h
      rw [if_pos h]
      rcases hgo with ⟨rfl, rfl⟩ | ⟨g, rfl, hd, hG, hS⟩
      · rw [atS_0 h, m_goes6 h11 h12, mz_b2, if_pos rfl]
        exact MR_n ⟨_, _, rfl, FlM_F⟩
      · rw [m_goes h11 h12 hd (by omega), mz_b2, if_neg (show ¬ (1 : Int32) = 0 by decide)]
        have hM1 : MS T L B w l (d + 1) (u2 Y 50 12 (nI (d + 1))) rv := MS_d hM
        have k := hG _ (skp T L p + 1) hM1 (by omega)
        rcases hr : g (skp T L p + 1) with ⟨r0, _ | x0⟩
        · obtain ⟨v0, Y', e1, e2⟩ := k.2 _ hr
          have hr0 := (hS (skp T L p + 1) (by omega)).1 _ hr
          rw [atS_1 h hr, e1, mz_b2, m_takes2 (FlM_11 e2 (by omega)), mz_b2, if_pos rfl]
          exact MR_n ⟨_, _, rfl, FlM_d e2⟩
        · have e1 := k.1 _ _ hr
          obtain ⟨b1, b2, b3⟩ := (hS (skp T L p + 1) (by omega)).2 _ _ hr
          rw [atS_2 h hr, e1, mz_b2, show (93 : Int32) = nI 93 from rfl, m_takes hT hM1.1 hM1.2.1 b2 (by omega)]
          by_cases h3 : ch T L (skp T L r0) = nI 93
          · rw [if_pos h3, if_pos h3, mz_b2, if_neg (show ¬ (1 : Int32) = 0 by decide), mz_lt, m_out h12 (by omega)]
            exact MR_s rfl
          · rw [if_neg h3, if_neg h3, mz_b2, if_pos rfl]
            exact MR_n ⟨_, _, rfl, FlM_d FlM_F⟩
    · obtain ⟨fu, hfu, hfu2⟩ := fuel_g
      rw [if_neg h, m_isDigit hT hX s2, mz_b1, hfu]
      by_cases h3 : dgt T L (skp T L p) = true
      · have k := m_num_l (gs := gs) hT hX h11 4 fu 0 0 (skp T L p) s2 (by omega) (by omega)
        have enm : nmT T L 4 (skp T L p) = nmS T L 4 0 (skp T L p) := by unfold nmT; rw [if_pos h3]
        rw [if_pos h3, if_neg (show ¬ (1 : Int32) = 0 by decide)]
        rcases hr : nmS T L 4 0 (skp T L p) with ⟨r0, _ | v0⟩
        · rw [atS_4 h hz (by rw [enm, hr])]
          exact MR_n ⟨_, _, k.2 _ hr, FlM_F⟩
        · rw [atS_5 h hz (by rw [enm, hr])]
          refine MR_s ?_
          show _ = some (zI (v0 : Int), mP Y r0)
          rw [← zI_n]
          exact k.1 _ _ hr
      · have enm : nmT T L 4 (skp T L p) = (skp T L p, none) := by unfold nmT; rw [if_neg h3]
        obtain ⟨n', rfl⟩ : ∃ n', fu = n' + 1 := ⟨fu - 1, by omega⟩
        have hX2 : TxM T L B w (u2 Y 50 11 (nI (skp T L p))) rv := TxM_u hX (by omega)
        have ed := m_isDigit hT hX2 s2
        have ef : mP (u2 Y 50 11 (nI (skp T L p))) (skp T L p) = mF Y (skp T L p) := (mP_c (by omega)).symm
        rw [ef] at ed
        rw [if_neg h3, if_pos rfl, m_fails h11, mz_b2, atS_4 h hz enm, fX12_atom_90, ed, mz_b1, if_neg h3, if_pos rfl]
        exact MR_n ⟨_, _, rfl, FlM_F⟩
theorem jn_1 (a b : Int) : jn 42 a b = wi (a * b) ∧ jn 47 a b = wi (if b = 0 then 0 else Int.tdiv a b) ∧ jn 43 a b = wi (a + b) ∧ jn 45 a b = wi (a - b) := ⟨rfl, rfl, rfl, rfl⟩
theorem m_op1 {kh : Int32 → (Nat → Nat → Int32) → (Nat → Nat → Option Nat) → Option ((Int32) × (Nat → Nat → Int32))} {a b : Int} {Z : Tb} (hc : c = 42 ∨ c = 47) (ha : R32 a) (hb : R32 b) : (if (if c = 42 then (1 : Int32) else 0) = 0 then (if (lg_cmp (zI b).toInt64 0) = 0 then (fX12_term_87 gs kh 0 Z rv) else (if (zI b).toInt64 = 0 then none else fX12_term_87 gs kh ((zI a).toInt64 / (zI b).toInt64) Z rv)) else (fX12_term_87 gs kh ((zI a).toInt64 * (zI b).toInt64) Z rv)) = kh (zI (jn c a b)) Z rv := by
  unfold fX12_term_87 fX12_within
  rcases hc with rfl | rfl
  · rw [if_pos rfl, if_neg (show ¬ (1 : Int32) = 0 by decide), mz_b1, lg_wi (lg_mul ha hb), (jn_1 a b).1]
  · rw [if_neg (show ¬ (47 : Nat) = 42 by omega), if_pos rfl, (jn_1 a b).2.1]
    by_cases h0 : b = 0
    · have e0 : (zI b).toInt64 = 0 := by rw [h0]; decide +kernel
      rw [if_pos (lcz_0.mpr e0), mz_b1, if_pos h0, lg_wi (v := 0) (by decide +kernel)]
    · have e0 : ¬ (zI b).toInt64 = 0 := fun e => h0 (by
        have := congrArg Int64.toInt e
        rw [lg_z hb.1 hb.2] at this
        exact this)
      rw [if_neg (fun e => e0 (lcz_0.mp e)), if_neg e0, mz_b1, if_neg h0, lg_wi (lg_div ha hb)]
theorem m_op1f {kh : Int32 → (Nat → Nat → Int32) → (Nat → Nat → Option Nat) → Option ((Int32) × (Nat → Nat → Int32))} {s0 x1 v0 : Int32} {Z : Tb} (hk : ∀ u, ∃ u', kh u Z rv = some (u', Z)) : ∃ u', (if s0 = 0 then (if (lg_cmp v0.toInt64 0) = 0 then (fX12_term_87 gs kh 0 Z rv) else (if v0.toInt64 = 0 then none else fX12_term_87 gs kh (x1.toInt64 / v0.toInt64) Z rv)) else (fX12_term_87 gs kh (x1.toInt64 * v0.toInt64) Z rv)) = some (u', Z) := by
  unfold fX12_term_87 fX12_within
  by_cases h1 : s0 = 0
  · rw [if_pos h1]
    by_cases h2 : lg_cmp v0.toInt64 0 = 0
    · rw [if_pos h2, mz_b1]
      exact hk _
    · rw [if_neg h2, if_neg (fun e => h2 (lcz_0.mpr e)), mz_b1]
      exact hk _
  · rw [if_neg h1, mz_b1]
    exact hk _
theorem m_op2 {kh : Int32 → (Nat → Nat → Int32) → (Nat → Nat → Option Nat) → Option ((Int32) × (Nat → Nat → Int32))} {a b : Int} {Z : Tb} (hc : c = 43 ∨ c = 45) (ha : R32 a) (hb : R32 b) : (if (if c = 43 then (1 : Int32) else 0) = 0 then (fX12_sum_77 gs kh ((zI a).toInt64 - (zI b).toInt64) Z rv) else (fX12_sum_77 gs kh ((zI a).toInt64 + (zI b).toInt64) Z rv)) = kh (zI (jn c a b)) Z rv := by
  unfold fX12_sum_77 fX12_within
  rcases hc with rfl | rfl
  · rw [if_pos rfl, if_neg (show ¬ (1 : Int32) = 0 by decide), mz_b1, lg_wi (lg_add ha hb), (jn_1 a b).2.2.1]
  · rw [if_neg (show ¬ (45 : Nat) = 43 by omega), if_pos rfl, mz_b1, lg_wi (lg_sub ha hb), (jn_1 a b).2.2.2]
theorem m_op2f {kh : Int32 → (Nat → Nat → Int32) → (Nat → Nat → Option Nat) → Option ((Int32) × (Nat → Nat → Int32))} {s0 x1 v0 : Int32} {Z : Tb} (hk : ∀ u, ∃ u', kh u Z rv = some (u', Z)) : ∃ u', (if s0 = 0 then (fX12_sum_77 gs kh (x1.toInt64 - v0.toInt64) Z rv) else (fX12_sum_77 gs kh (x1.toInt64 + v0.toInt64) Z rv)) = some (u', Z) := by
  unfold fX12_sum_77 fX12_within
  by_cases h1 : s0 = 0
  · rw [if_pos h1, mz_b1]
    exact hk _
  · rw [if_neg h1, mz_b1]
    exact hk _
theorem m_term_l (hT : OkT T L) (hG : MG T L B w l d rv g (fX12_atom gs)) (hS : SpO L g) (hE : ∀ p r y, p ≤ L → g p = (r, some y) → R32 (y.2 l)) (hM : MS T L B w l d Y rv) : ∀ n m x p, p ≤ L → L - p + 1 < n → L - p < m → R32 (x.2 l) → MR l Y (lpS T L o1 g m x p) (fX12_term_5 gs n (zI (x.2 l)) (mP Y p) rv) := by
  have hL := hT.1
  obtain ⟨hX, h11, h12, hl⟩ := id hM
  intro n
  induction n with
  | zero => intro m x p h1 h2; omega
  | succ n ih =>
    intro m x p h1 h2 h3 h5
    obtain ⟨m, rfl⟩ : ∃ m', m = m' + 1 := ⟨m - 1, by omega⟩
    have s1 := sk_ge (T := T) h1
    have s2 := sk_le (T := T) h1
    rw [fX12_term_5, mP_n (by omega), h11, if_pos qN1.symm, m_look hT hX h1, mz_b2, m_look hT hX s2, sk_id h1, mz_b2]
    unfold fX12_term_31
    rw [m_look hT hX s2, sk_id h1, mz_b2]
    by_cases h : skp T L p < L ∧ o1 (T (skp T L p)) = true
    · have hc : T (skp T L p) = 42 ∨ T (skp T L p) = 47 := of_decide_eq_true h.2
      have hcn : ch T L (skp T L p) = nI (T (skp T L p)) := ch_in h.1
      have k := hG Y (skp T L p + 1) hM (by omega)
      have red : ∀ (C : Option (Int32 × Tb)), (if ch T L (skp T L p) = 42 then (if ch T L (skp T L p) = 42 then fX12_term_45 gs (fX12_term_5 gs n) (zI (x.2 l)) 1 (mP Y (skp T L p)) rv else fX12_term_45 gs (fX12_term_5 gs n) (zI (x.2 l)) 0 (mP Y (skp T L p)) rv) else if ch T L (skp T L p) = 47 then (if ch T L (skp T L p) = 42 then fX12_term_45 gs (fX12_term_5 gs n) (zI (x.2 l)) 1 (mP Y (skp T L p)) rv else fX12_term_45 gs (fX12_term_5 gs n) (zI (x.2 l)) 0 (mP Y (skp T L p)) rv) else C) = fX12_term_45 gs (fX12_term_5 gs n) (zI (x.2 l)) (if T (skp T L p) = 42 then (1 : Int32) else 0) (mP Y (skp T L p)) rv := by
        intro C
        rw [hcn]
        rcases hc with e | e
        · rw [e, if_pos (show nI 42 = 42 from rfl), if_pos (show nI 42 = 42 from rfl), if_pos rfl]
        · rw [e, if_neg (show ¬ nI 47 = 42 by decide), if_pos (show nI 47 = 47 from rfl), if_neg (show ¬ nI 47 = 42 by decide), if_neg (show ¬ (47 : Nat) = 42 by omega)]
      rw [red]
      unfold fX12_term_45
      rw [mz_lt, mP_at, q1, nI_add, mP_2]
      rcases hr : g (skp T L p + 1) with ⟨r0, _ | y0⟩
      · obtain ⟨v0, Y', e1, e2⟩ := k.2 _ hr
        have hr0 := (hS (skp T L p + 1) (by omega)).1 _ hr
        have hn := FlM_11 e2 (by omega)
        rw [lpS_n h hr, e1, mz_b2, q1.symm]
        obtain ⟨u', hu⟩ := m_op1f (gs := gs) (rv := rv) (kh := fX12_term_5 gs n) (s0 := if T (skp T L p) = 42 then (1 : Int32) else 0) (x1 := zI (x.2 l)) (v0 := v0) (Z := Y') (fun u => by
          obtain ⟨n2, rfl⟩ : ∃ n2, n = n2 + 1 := ⟨n - 1, by omega⟩
          exact ⟨u, by rw [fX12_term_5, if_neg (by rw [qN1]; exact hn)]⟩)
        exact MR_n ⟨u', Y', hu, e2⟩
      · have e1 := k.1 _ _ hr
        obtain ⟨b1, b2, b3⟩ := (hS (skp T L p + 1) (by omega)).2 _ _ hr
        have hy := hE _ _ _ (by omega) hr
        rw [lpS_s h hr, e1, mz_b2, q1.symm, m_op1 hc h5 hy]
        refine ih m _ r0 b2 (by omega) (by omega) ?_
        have := jn_b (T (skp T L p)) (x.2 l) (y0.2 l)
        show R32 (jn (T (skp T L p)) (x.2 l) (y0.2 l))
        unfold R32
        omega
    · have hA : ¬ ch T L (skp T L p) = 42 := fun e => by
        have e2 := ch_skl (c := 42) (by omega) e
        rw [ch_in e2] at e
        have := (nI_eq (by have := (hT.2 _ e2).2; omega) (by omega)).mp (show nI (T (skp T L p)) = nI 42 from e)
        exact h ⟨e2, decide_eq_true (by omega)⟩
      have hB : ¬ ch T L (skp T L p) = 47 := fun e => by
        have e2 := ch_skl (c := 47) (by omega) e
        rw [ch_in e2] at e
        have := (nI_eq (by have := (hT.2 _ e2).2; omega) (by omega)).mp (show nI (T (skp T L p)) = nI 47 from e)
        exact h ⟨e2, decide_eq_true (by omega)⟩
      rw [lpS_e h, if_neg hA, if_neg hB]
      exact MR_s rfl
theorem m_term (hT : OkT T L) (hG : MG T L B w l d rv g (fX12_atom gs)) (hS : SpO L g) (hE : ∀ p r y, p ≤ L → g p = (r, some y) → R32 (y.2 l)) : MG T L B w l d rv (seS T L o1 g) (fX12_term gs) := by
  intro Y p hM hp
  have hL := hT.1
  obtain ⟨fu, hfu, hfu2⟩ := fuel_g
  unfold fX12_term
  rw [hfu]
  have k := hG Y p hM hp
  rcases hr : g p with ⟨r0, _ | x0⟩
  · obtain ⟨v0, Y', e1, e2⟩ := k.2 _ hr
    have hr0 := (hS p hp).1 _ hr
    have hn := FlM_11 e2 (by omega)
    obtain ⟨n2, rfl⟩ : ∃ n2, fu = n2 + 1 := ⟨fu - 1, by omega⟩
    rw [seS_n hr, e1, mz_b2, fX12_term_5, if_neg (by rw [qN1]; exact hn)]
    exact MR_n ⟨_, _, rfl, e2⟩
  · have e1 := k.1 _ _ hr
    obtain ⟨b1, b2, b3⟩ := (hS p hp).2 _ _ hr
    rw [seS_s hr, e1, mz_b2]
    exact m_term_l hT hG hS hE hM fu 300 x0 r0 b2 (by omega) (by omega) (hE _ _ _ hp hr)
theorem m_sumb_l (hT : OkT T L) (hG : MG T L B w l d rv g (fX12_term gs)) (hS : SpO L g) (hE : ∀ p r y, p ≤ L → g p = (r, some y) → R32 (y.2 l)) (hM : MS T L B w l d Y rv) : ∀ n m x p, p ≤ L → L - p + 1 < n → L - p < m → R32 (x.2 l) → MR l Y (lpS T L o2 g m x p) (fX12_sum_5 gs n (zI (x.2 l)) (mP Y p) rv) := by
  have hL := hT.1
  obtain ⟨hX, h11, h12, hl⟩ := id hM
  intro n
  induction n with
  | zero => intro m x p h1 h2; omega
  | succ n ih =>
    intro m x p h1 h2 h3 h5
    obtain ⟨m, rfl⟩ : ∃ m', m = m' + 1 := ⟨m - 1, by omega⟩
    have s1 := sk_ge (T := T) h1
    have s2 := sk_le (T := T) h1
    rw [fX12_sum_5, mP_n (by omega), h11, if_pos qN1.symm, m_look hT hX h1, mz_b2, m_look hT hX s2, sk_id h1, mz_b2]
    unfold fX12_sum_31
    rw [m_look hT hX s2, sk_id h1, mz_b2]
    by_cases h : skp T L p < L ∧ o2 (T (skp T L p)) = true
    · have hc : T (skp T L p) = 43 ∨ T (skp T L p) = 45 := of_decide_eq_true h.2
      have hcn : ch T L (skp T L p) = nI (T (skp T L p)) := ch_in h.1
      have k := hG Y (skp T L p + 1) hM (by omega)
      have red : ∀ (C : Option (Int32 × Tb)), (if ch T L (skp T L p) = 43 then (if ch T L (skp T L p) = 43 then fX12_sum_45 gs (fX12_sum_5 gs n) (zI (x.2 l)) 1 (mP Y (skp T L p)) rv else fX12_sum_45 gs (fX12_sum_5 gs n) (zI (x.2 l)) 0 (mP Y (skp T L p)) rv) else if ch T L (skp T L p) = 45 then (if ch T L (skp T L p) = 43 then fX12_sum_45 gs (fX12_sum_5 gs n) (zI (x.2 l)) 1 (mP Y (skp T L p)) rv else fX12_sum_45 gs (fX12_sum_5 gs n) (zI (x.2 l)) 0 (mP Y (skp T L p)) rv) else C) = fX12_sum_45 gs (fX12_sum_5 gs n) (zI (x.2 l)) (if T (skp T L p) = 43 then (1 : Int32) else 0) (mP Y (skp T L p)) rv := by
        intro C
        rw [hcn]
        rcases hc with e | e
        · rw [e, if_pos (show nI 43 = 43 from rfl), if_pos (show nI 43 = 43 from rfl), if_pos rfl]
        · rw [e, if_neg (show ¬ nI 45 = 43 by decide), if_pos (show nI 45 = 45 from rfl), if_neg (show ¬ nI 45 = 43 by decide), if_neg (show ¬ (45 : Nat) = 43 by omega)]
      rw [red]
      unfold fX12_sum_45
      rw [mz_lt, mP_at, q1, nI_add, mP_2]
      rcases hr : g (skp T L p + 1) with ⟨r0, _ | y0⟩
      · obtain ⟨v0, Y', e1, e2⟩ := k.2 _ hr
        have hr0 := (hS (skp T L p + 1) (by omega)).1 _ hr
        have hn := FlM_11 e2 (by omega)
        rw [lpS_n h hr, e1, mz_b2, q1.symm]
        obtain ⟨u', hu⟩ := m_op2f (gs := gs) (rv := rv) (kh := fX12_sum_5 gs n) (s0 := if T (skp T L p) = 43 then (1 : Int32) else 0) (x1 := zI (x.2 l)) (v0 := v0) (Z := Y') (fun u => by
          obtain ⟨n2, rfl⟩ : ∃ n2, n = n2 + 1 := ⟨n - 1, by omega⟩
          exact ⟨u, by rw [fX12_sum_5, if_neg (by rw [qN1]; exact hn)]⟩)
        exact MR_n ⟨u', Y', hu, e2⟩
      · have e1 := k.1 _ _ hr
        obtain ⟨b1, b2, b3⟩ := (hS (skp T L p + 1) (by omega)).2 _ _ hr
        have hy := hE _ _ _ (by omega) hr
        rw [lpS_s h hr, e1, mz_b2, q1.symm, m_op2 hc h5 hy]
        refine ih m _ r0 b2 (by omega) (by omega) ?_
        have := jn_b (T (skp T L p)) (x.2 l) (y0.2 l)
        show R32 (jn (T (skp T L p)) (x.2 l) (y0.2 l))
        unfold R32
        omega
    · have hA : ¬ ch T L (skp T L p) = 43 := fun e => by
        have e2 := ch_skl (c := 43) (by omega) e
        rw [ch_in e2] at e
        have := (nI_eq (by have := (hT.2 _ e2).2; omega) (by omega)).mp (show nI (T (skp T L p)) = nI 43 from e)
        exact h ⟨e2, decide_eq_true (by omega)⟩
      have hB : ¬ ch T L (skp T L p) = 45 := fun e => by
        have e2 := ch_skl (c := 45) (by omega) e
        rw [ch_in e2] at e
        have := (nI_eq (by have := (hT.2 _ e2).2; omega) (by omega)).mp (show nI (T (skp T L p)) = nI 45 from e)
        exact h ⟨e2, decide_eq_true (by omega)⟩
      rw [lpS_e h, if_neg hA, if_neg hB]
      exact MR_s rfl
theorem m_sumb (hT : OkT T L) (hG : MG T L B w l d rv g (fX12_term gs)) (hS : SpO L g) (hE : ∀ p r y, p ≤ L → g p = (r, some y) → R32 (y.2 l)) : MG T L B w l d rv (seS T L o2 g) (fX12_sumb gs) := by
  intro Y p hM hp
  have hL := hT.1
  obtain ⟨fu, hfu, hfu2⟩ := fuel_g
  unfold fX12_sumb
  rw [hfu]
  have k := hG Y p hM hp
  rcases hr : g p with ⟨r0, _ | x0⟩
  · obtain ⟨v0, Y', e1, e2⟩ := k.2 _ hr
    have hr0 := (hS p hp).1 _ hr
    have hn := FlM_11 e2 (by omega)
    obtain ⟨n2, rfl⟩ : ∃ n2, fu = n2 + 1 := ⟨fu - 1, by omega⟩
    rw [seS_n hr, e1, mz_b2, fX12_sum_5, if_neg (by rw [qN1]; exact hn)]
    exact MR_n ⟨_, _, rfl, e2⟩
  · have e1 := k.1 _ _ hr
    obtain ⟨b1, b2, b3⟩ := (hS p hp).2 _ _ hr
    rw [seS_s hr, e1, mz_b2]
    exact m_sumb_l hT hG hS hE hM fu 300 x0 r0 b2 (by omega) (by omega) (hE _ _ _ hp hr)
theorem m_sum (hT : OkT T L) (hi : i32 l) : ∀ e d n, d + e = 6 → e < n → MG T L B w l d rv (suS T L e) (fX12_sum n) := by
  intro e
  induction e with
  | zero =>
    intro d n h1 h2
    obtain ⟨n, rfl⟩ : ∃ n', n = n' + 1 := ⟨n - 1, by omega⟩
    intro Y p
    rw [fX12_sum]
    have hA : SpO L (atS T L none) := atS_ok (fun g' h => by simp at h)
    have hE : ∀ p r y, p ≤ L → atS T L none p = (r, some y) → EvO 1 y := fun p r y hp => atS_ev (fun g' h => by simp at h) (by omega) p r y hp
    exact m_sumb hT (m_term hT (m_atom hT (Or.inl ⟨rfl, by omega⟩)) hA (fun p r y hp h => (hE p r y hp h).1 l hi)) (seS_ok hA) (fun p r y hp h => (seS_ev (m := 3) (m1 := 1) o1_s hE (by omega) (by omega) p r y hp h).1 l hi) Y p
  | succ e ih =>
    intro d n h1 h2
    obtain ⟨n, rfl⟩ : ∃ n', n = n' + 1 := ⟨n - 1, by omega⟩
    intro Y p
    rw [fX12_sum]
    have hA : SpO L (atS T L (some (suS T L e))) := atS_ok (fun g' h => by have := Option.some.inj h; rw [← this]; exact suS_ok e)
    have hE : ∀ p r y, p ≤ L → atS T L (some (suS T L e)) p = (r, some y) → EvO (4 + 2 * e) y := fun p r y hp => atS_ev (fun g' h => by have := Option.some.inj h; rw [← this]; exact suS_ev e) (by omega) p r y hp
    exact m_sumb hT (m_term hT (m_atom hT (Or.inr ⟨suS T L e, rfl, by omega, ih (d + 1) n (by omega) (by omega), suS_ok e⟩)) hA (fun p r y hp h => (hE p r y hp h).1 l hi)) (seS_ok hA) (fun p r y hp h => (seS_ev (m := 5 + 2 * e) (m1 := 4 + 2 * e) o1_s hE (by omega) (by omega) p r y hp h).1 l hi) Y p
theorem m_isSg : ∀ t, t < 256 → fX12_isSign (nI t) = some (if o3 t = true then 1 else 0) := by decide +kernel
theorem m_isSgN : fX12_isSign NN = some 0 := by decide +kernel
theorem m_isS (hT : OkT T L) : fX12_isSign (ch T L p) = some (if p < L ∧ o3 (T p) = true then 1 else 0) := by
  by_cases h : p < L
  · rw [ch_in h, m_isSg _ (hT.2 p h).2]
    by_cases h2 : o3 (T p) = true
    · rw [if_pos h2, if_pos ⟨h, h2⟩]
    · rw [if_neg h2, if_neg (fun e => h2 e.2)]
  · rw [ch_out (by omega), m_isSgN, if_neg (fun e => h e.1)]
theorem m_cmpv {a b : Int} {Z : Tb} (hc : c = 61 ∨ c = 60 ∨ c = 62) (ha : R32 a) (hb : R32 b) : (if nI c = 61 then (if zI a = zI b then (some ((1 : Int32), Z)) else (some (0, Z))) else (if nI c = 60 then (if zI b ≤ zI a then (some (0, Z)) else (some (1, Z))) else (if zI a ≤ zI b then (some (0, Z)) else (some (1, Z))))) = some (zI (jn c a b), Z) := by
  have e0 : (0 : Int32) = zI 0 := by decide +kernel
  have e1 : (1 : Int32) = zI 1 := by decide +kernel
  have h1 : (zI a = zI b) = (a = b) := zI_eq ha.1 ha.2 hb.1 hb.2
  have h2 : (zI b ≤ zI a) = (b ≤ a) := zI_le hb.1 hb.2 ha.1 ha.2
  have h3 : (zI a ≤ zI b) = (a ≤ b) := zI_le ha.1 ha.2 hb.1 hb.2
  rcases hc with rfl | rfl | rfl
  · rw [if_pos (show nI 61 = 61 from rfl), show jn 61 a b = (if a = b then 1 else 0) from rfl]
    by_cases h0 : a = b
    · rw [if_pos (h1.mpr h0), if_pos h0, e1]
    · rw [if_neg (fun e => h0 (h1.mp e)), if_neg h0, e0]
  · rw [if_neg (show ¬ nI 60 = 61 by decide), if_pos (show nI 60 = 60 from rfl), show jn 60 a b = (if a < b then 1 else 0) from rfl]
    by_cases h0 : b ≤ a
    · rw [if_pos (h2.mpr h0), if_neg (show ¬ a < b by omega), e0]
    · rw [if_neg (fun e => h0 (h2.mp e)), if_pos (show a < b by omega), e1]
  · rw [if_neg (show ¬ nI 62 = 61 by decide), if_neg (show ¬ nI 62 = 60 by decide), show jn 62 a b = (if b < a then 1 else 0) from rfl]
    by_cases h0 : a ≤ b
    · rw [if_pos (h3.mpr h0), if_neg (show ¬ b < a by omega), e0]
    · rw [if_neg (fun e => h0 (h3.mp e)), if_pos (show b < a by omega), e1]
/-- a comparison whose first sum has been read -/
theorem m_cmp (hT : OkT T L) (hi : i32 l) (hde : d + e = 6) (hM : MS T L B w l d Y rv) (hp : p ≤ L) (hx : R32 (x.2 l)) : MRb l Y (cpS T L e x p) (fX12_compares_12 (zI (x.2 l)) (mP Y p) rv) := by
  have hL := hT.1
  have n0' : narrow .boolean (.int 0) = .int 0 := by decide +kernel
  obtain ⟨hX, h11, h12, hl⟩ := id hM
  have s1 := sk_ge (T := T) hp
  have s2 := sk_le (T := T) hp
  unfold fX12_compares_12
  rw [mP_n (by omega), h11, if_pos qN1.symm, m_look hT hX hp, mz_b2, m_isS hT, mz_b1]
  by_cases h : skp T L p < L ∧ o3 (T (skp T L p)) = true
  · have hcn : ch T L (skp T L p) = nI (T (skp T L p)) := ch_in h.1
    have hc : T (skp T L p) = 61 ∨ T (skp T L p) = 60 ∨ T (skp T L p) = 62 := of_decide_eq_true h.2
    have k := m_sum (rv := rv) (B := B) (w := w) hT hi e d 12 hde (by omega) Y (skp T L p + 1) hM (by omega)
    rw [if_pos h, if_neg (show ¬ (1 : Int32) = 0 by decide), mz_lt, mP_at, q1, nI_add, mP_2]
    rcases hr : suS T L e (skp T L p + 1) with ⟨r0, _ | y0⟩
    · obtain ⟨v0, Y', e1, e2⟩ := k.2 _ hr
      rw [cpS_n h hr, e1, mz_b2]
      refine MRb_n ?_
      (repeat' split) <;> first | exact ⟨_, _, rfl, Or.inl rfl, e2⟩ | exact ⟨_, _, rfl, Or.inr rfl, e2⟩
    · have e1 := k.1 _ _ hr
      have hy := (suS_ev (T := T) (L := L) e _ _ _ (by omega) hr).1 l hi
      rw [cpS_s h hr, e1, mz_b2, q1.symm, hcn, m_cmpv hc hx hy]
      exact MRb_s rfl
  · rw [if_neg h, cpS_e h, if_pos rfl, m_fails h11, mz_b2, if_pos n0']
    exact MRb_n ⟨_, _, rfl, Or.inl rfl, FlM_F⟩
theorem m_cm (hT : OkT T L) (hi : i32 l) (hde : d + e = 6) : MGb T L B w l d rv (cmS T L e) (fX12_compares 0 0) := by
  intro Y p hM hp
  have hL := hT.1
  unfold fX12_compares
  rw [if_pos rfl]
  have k := m_sum (rv := rv) (B := B) (w := w) hT hi e d 12 hde (by omega) Y p hM hp
  rcases hr : suS T L e p with ⟨r0, _ | x0⟩
  · obtain ⟨v0, Y', e1, e2⟩ := k.2 _ hr
    have hr0 := (suS_ok (T := T) (L := L) e p hp).1 _ hr
    rw [cmS_n hr, e1, mz_b2]
    unfold fX12_compares_12
    rw [if_neg (by rw [qN1]; exact FlM_11 e2 (by omega))]
    exact MRb_n ⟨_, _, rfl, Or.inl rfl, e2⟩
  · have e1 := k.1 _ _ hr
    obtain ⟨b1, b2, b3⟩ := (suS_ok (T := T) (L := L) e p hp).2 _ _ hr
    rw [cmS_s hr, e1, mz_b2]
    exact m_cmp hT hi hde hM b2 ((suS_ev (T := T) (L := L) e _ _ _ hp hr).1 l hi)
end LM
