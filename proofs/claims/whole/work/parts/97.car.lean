/-! cars as they are read: items -/
def loA (k : Nat) : Nat := [1, 0, 0, 0, 1, 0, 0, 0, 0, 0, 0, 0, 0, 0].getD k 0
def hiA (k : Nat) : Nat := [60, 99, 9, 9, 9, 9, 9, 9, 9, 1, 9, 1, 9, 9].getD k 0
def woA (k : Nat) : Nat := [11, 20, 2, 3, 2, 0, 3, 0, 0, 0, 1, 0, 1, 1].getD k 0
def itF (fi : Nat) : Nat → Int32 := fun z => aCh 1 (nI (fi + z))
def itS (T : Nat → Nat) (L fi mn : Nat) : Nat → Nat → (Nat → Nat) → Nat → Nat × Option (Nat → Nat)
  | 0, _, _, p => (p, none)
  | m + 1, seen, V, p => match fnC (itF fi) (ch T L (skp T L p)) mn 0 with
    | none => (skp T L p, some V)
    | some it => if seen.testBit it = true then (skp T L p, none) else (match nmT T L 2 (skp T L (skp T L p + 1)) with
      | (r, none) => (r, none)
      | (r, some v) => if loA (fi + it) ≤ v ∧ v ≤ hiA (fi + it) then itS T L fi mn m (seen ||| 2 ^ it) (up V it v) r else (r - 1, none))
def FrI (w fr mn : Nat) (X X' : Tb) : Prop := ∀ q k, (q ≠ w ∨ k < fr ∨ fr + mn ≤ k) → X' q k = X q k
section CI
variable {X X' X'' i i' Y Y' j j' : Tb} {rv : Nat → Nat → Option Nat} {T V V' : Nat → Nat} {L B w a p q r n d e m k c z f fi mn fr it lo hi u n1 seen t s : Nat} {v : Int32} {K D : Nat → Nat → Nat}
theorem itS_0 (h : fnC (itF fi) (ch T L (skp T L p)) mn 0 = none) : itS T L fi mn (m + 1) seen V p = (skp T L p, some V) := by rw [itS, h]
theorem itS_1 (h : fnC (itF fi) (ch T L (skp T L p)) mn 0 = some it) (h2 : seen.testBit it = true) : itS T L fi mn (m + 1) seen V p = (skp T L p, none) := by rw [itS, h]; dsimp only; rw [if_pos h2]
theorem itS_2 (h : fnC (itF fi) (ch T L (skp T L p)) mn 0 = some it) (h2 : ¬ seen.testBit it = true) (h3 : nmT T L 2 (skp T L (skp T L p + 1)) = (r, none)) : itS T L fi mn (m + 1) seen V p = (r, none) := by rw [itS, h]; dsimp only; rw [if_neg h2, h3]
theorem itS_3 (h : fnC (itF fi) (ch T L (skp T L p)) mn 0 = some it) (h2 : ¬ seen.testBit it = true) (h3 : nmT T L 2 (skp T L (skp T L p + 1)) = (r, some u)) (h4 : loA (fi + it) ≤ u ∧ u ≤ hiA (fi + it)) : itS T L fi mn (m + 1) seen V p = itS T L fi mn m (seen ||| 2 ^ it) (up V it u) r := by rw [itS, h]; dsimp only; rw [if_neg h2, h3]; dsimp only; rw [if_pos h4]
theorem itS_4 (h : fnC (itF fi) (ch T L (skp T L p)) mn 0 = some it) (h2 : ¬ seen.testBit it = true) (h3 : nmT T L 2 (skp T L (skp T L p + 1)) = (r, some u)) (h4 : ¬ (loA (fi + it) ≤ u ∧ u ≤ hiA (fi + it))) : itS T L fi mn (m + 1) seen V p = (r - 1, none) := by rw [itS, h]; dsimp only; rw [if_neg h2, h3]; dsimp only; rw [if_neg h4]
theorem FrI_r : FrI w fr mn X X := fun _ _ _ => rfl
theorem FrI_t (h : FrI w fr mn X X') (h' : FrI w fr mn X' X'') : FrI w fr mn X X'' := fun q k hk => (h' q k hk).trans (h q k hk)
theorem FrI_u (h : it < mn) : FrI w fr mn X (u2 X w (fr + it) v) := fun q k hk => u2o _ _ (by omega)
theorem TaC_i (hw : 2 < w) (h : TaC T L X) (hf : FrI w fr mn X X') : TaC T L X' := ⟨by rw [hf 1 1 (by omega)]; exact h.1, fun k hk => by rw [hf 2 k (by omega)]; exact h.2 k hk⟩
theorem it_lt (hfi : fi + mn ≤ 14) (h : fnC (itF fi) (ch T L (skp T L p)) mn 0 = some it) : skp T L p < L ∧ it < mn := by
  obtain ⟨_, e2, e3⟩ := fnC_lt mn 0 h
  refine ⟨?_, by omega⟩
  by_cases h1 : skp T L p < L
  · exact h1
  · rw [ch_out (by omega)] at e3
    exact absurd e3 ((by decide +kernel : ∀ z, z < 14 → ¬ aCh 1 (nI z) = NN) (fi + it) (by omega))
theorem tab_v : ∀ k, k < 14 → (aTab 2).getD k 0 = nI (loA k) ∧ (aTab 1).getD k 0 = nI (hiA k) ∧ (aTab 3).getD k 0 = nI (woA k) ∧ loA k ≤ 99 ∧ hiA k ≤ 99 := by decide +kernel
/-- the class's items -/
theorem c_items_l (hT : OkT T L) (hw : 2 < w) (hfi : fi + mn ≤ 14) (hmn : mn ≤ 9) (hfr : fr + mn ≤ n1) (hn1 : n1 ≤ 54) : ∀ m n seen V p X t, seen < 2 ^ mn → sS (fun _ => 1) seen = t → t ≤ mn → mn - t < n → mn - t < m → p ≤ L → TaC T L X → (∀ k, k < mn → X w (fr + k) = nI (V k)) →
    (∀ r V', itS T L fi mn m seen V p = (r, some V') → ∃ X', fX1_readItems_17 w n1 n (nI fr) (nI fi) (nI mn) (nI seen) (nI t) (pP X p) = some (1, pP X' r) ∧ (∀ k, k < mn → X' w (fr + k) = nI (V' k)) ∧ FrI w fr mn X X' ∧ p ≤ r ∧ r ≤ L) ∧ (∀ r, itS T L fi mn m seen V p = (r, none) → ∃ X', fX1_readItems_17 w n1 n (nI fr) (nI fi) (nI mn) (nI seen) (nI t) (pP X p) = some (0, pP X' r) ∧ FrI w fr mn X X' ∧ r ≤ L) := by
  have hL := hT.1
  have h2p : 2 ^ mn ≤ 2 ^ 9 := Nat.pow_le_pow_right (by omega) hmn
  intro m
  induction m with
  | zero => intro n seen V p X t _ _ _ _ h; omega
  | succ m ih =>
    intro n seen V p X t hse hct htm hn hm hp hX hV
    obtain ⟨n, rfl⟩ : ∃ n', n = n' + 1 := ⟨n - 1, by omega⟩
    have s1 := sk_ge (T := T) hp
    have s2 := sk_le (T := T) hp
    rw [fX1_readItems_17, if_neg (show ¬ nI mn < nI t by rw [mz_ltp (by omega) (by omega)]; omega), c_ahead hT hX hp, mz_b2, c_itemOf hfi, mz_b1, qN1]
    rw [show (fun z => aCh 1 (nI (fi + z))) = itF fi from rfl]
    cases hz : fnC (itF fi) (ch T L (skp T L p)) mn 0 with
    | none =>
      rw [itS_0 hz, if_pos (show oI none = NN from rfl)]
      refine ⟨fun r V' e => ?_, fun r e => by have := (Prod.mk.inj e).2; simp at this⟩
      rw [← (Prod.mk.inj e).1, ← Option.some.inj (Prod.mk.inj e).2]
      exact ⟨X, rfl, hV, FrI_r, s1, s2⟩
    | some it =>
      obtain ⟨hlt, hit⟩ := it_lt hfi hz
      have hpw : 2 ^ it < 2 ^ mn := Nat.pow_lt_pow_right (by omega) hit
      rw [if_neg (show ¬ oI (some it) = NN by show ¬ nI it = NN; rw [mz_nm (by omega)]; exact fun e => e), show oI (some it) = nI it from rfl, mz_bit1 (by omega) (by omega), mz_1l _ (by omega), mz_or]
      by_cases h2 : seen.testBit it = true
      · rw [if_pos h2, if_pos (show nI 1 = 1 from rfl), itS_1 hz h2]
        refine ⟨fun r V' e => by have := (Prod.mk.inj e).2; simp at this, fun r e => ?_⟩
        rw [← (Prod.mk.inj e).1]
        exact ⟨X, rfl, FrI_r, s2⟩
      · have h2' : seen.testBit it = false := by simpa using h2
        have hc := cnt_lt hmn hse hit h2'
        have hsa : sS (fun _ => 1) (seen ||| 2 ^ it) = sS (fun _ => 1) seen + 1 := sS_add (by omega) h2'
        have hsl : seen ||| 2 ^ it < 2 ^ mn := Nat.or_lt_two_pow hse hpw
        have s3 := sk_ge (T := T) (L := L) (p := skp T L p + 1) (by omega)
        have s4 := sk_le (T := T) (L := L) (p := skp T L p + 1) (by omega)
        have hok := nmT_ok (T := T) (m := 2) s4
        rw [if_neg h2, if_neg (show ¬ nI 0 = 1 by decide), mz_lt, c_pass hL hX hlt, mz_b1, show (2 : Int32) = nI 2 from rfl, c_number hT hX (by omega) (by omega) (by omega), mz_b2]
        rcases hr : nmT T L 2 (skp T L (skp T L p + 1)) with ⟨r0, _ | u⟩
        · rw [hr] at hok
          rw [itS_2 hz h2 hr, if_pos (show oI none = NN from rfl)]
          refine ⟨fun r V' e => by have := (Prod.mk.inj e).2; simp at this, fun r e => ?_⟩
          rw [← (Prod.mk.inj e).1]
          exact ⟨X, rfl, FrI_r, hok.2.1⟩
        · have hl := nmT_lt (T := T) (m := 2) (v := u) s4 (by omega) (by rw [hr])
          rw [hr] at hok hl
          have hu := hok.2.2 u rfl
          have hr1 : r0 ≤ L := hok.2.1
          have hr2 : skp T L (skp T L p + 1) < r0 := hl
          obtain ⟨t1, t2, t3, t4, t5⟩ := tab_v (fi + it) (by omega)
          rw [if_neg (show ¬ oI (some u) = NN by show ¬ nI u = NN; rw [mz_nm (by omega)]; exact fun e => e), show oI (some u) = nI u from rfl, nI_add, nI_add, if_pos (mz_in (by omega) (by omega)), if_pos (mz_in (by omega) (by omega)), nI_clamp (by omega), t1, t2]
          unfold fX1_readItems_111
          have hst : fX10_stayAtLastDigit (pP X r0) = some (pP X (r0 - 1)) := by
            have := c_stay (X := X) (p := r0 - 1) hL (by omega)
            rw [show r0 - 1 + 1 = r0 by omega] at this
            exact this
          have bad : ¬ (loA (fi + it) ≤ u ∧ u ≤ hiA (fi + it)) → (∀ r V', itS T L fi mn (m + 1) seen V p = (r, some V') → ∃ X', (bn1 (fX10_stayAtLastDigit (pP X r0)) fun i14 => some ((0 : Int32), i14)) = some (1, pP X' r) ∧ (∀ k, k < mn → X' w (fr + k) = nI (V' k)) ∧ FrI w fr mn X X' ∧ p ≤ r ∧ r ≤ L) ∧ (∀ r, itS T L fi mn (m + 1) seen V p = (r, none) → ∃ X', (bn1 (fX10_stayAtLastDigit (pP X r0)) fun i14 => some ((0 : Int32), i14)) = some (0, pP X' r) ∧ FrI w fr mn X X' ∧ r ≤ L) := by
            intro h4
            rw [hst, mz_b1, itS_4 hz h2 hr h4]
            refine ⟨fun r V' e => by have := (Prod.mk.inj e).2; simp at this, fun r e => ?_⟩
            rw [← (Prod.mk.inj e).1]
            exact ⟨X, rfl, FrI_r, by omega⟩
          have c1 : (nI u < nI (loA (fi + it))) = (u < loA (fi + it)) := mz_ltp (by omega) (by omega)
          have c2 : (nI u ≤ nI (hiA (fi + it))) = (u ≤ hiA (fi + it)) := mz_le (by omega) (by omega)
          by_cases h5 : u < loA (fi + it)
          · rw [if_pos (c1.mpr h5)]
            exact bad (by omega)
          · rw [if_neg (fun e => h5 (c1.mp e))]
            by_cases h6 : u ≤ hiA (fi + it)
            · rw [if_pos (c2.mpr h6), if_pos (mz_in (by omega) (by omega)), mz_lt, nI_clamp (by omega), nI_1, pP_c (by omega), itS_3 hz h2 hr ⟨by omega, h6⟩]
              have k := ih n (seen ||| 2 ^ it) (up V it u) r0 (u2 X w (fr + it) (nI u)) (t + 1) hsl (by omega) (by omega) (by omega) (by omega) hr1 (TaC_u hX hw) (fun k hk => by
                by_cases e : k = it
                · rw [e, u2e, up_e]
                · rw [u2n _ _ _ _ _ (by omega), up_n e]
                  exact hV k hk)
              refine ⟨fun r V' e => ?_, fun r e => ?_⟩
              · obtain ⟨X', g1, g2, g3, g4, g5⟩ := k.1 r V' e
                exact ⟨X', g1, g2, FrI_t (FrI_u hit) g3, by omega, g5⟩
              · obtain ⟨X', g1, g2, g3⟩ := k.2 r e
                exact ⟨X', g1, FrI_t (FrI_u hit) g2, g3⟩
            · rw [if_neg (fun e => h6 (c2.mp e))]
              exact bad (by omega)
theorem va_g (f g : Nat → Int32) (sp dp n : Nat) (hk : k < n) : va_cpy f g sp dp n (dp + k) = f (sp + k) := by
  unfold va_cpy
  rw [if_pos (by omega)]
  congr 1
  omega
theorem C_items (hT : OkT T L) (hw : 2 < w) (hfi : fi + mn ≤ 14) (hmn : mn ≤ 9) (hfr : fr + mn ≤ n1) (hn1 : n1 ≤ 54) (hp : p ≤ L) (hX : TaC T L X) :
    (∀ r V', itS T L fi mn 20 0 (fun k => woA (fi + k)) p = (r, some V') → ∃ X', fX1_readItems w n1 (nI fr) (nI fi) (nI mn) (pP X p) = some (1, pP X' r) ∧ (∀ k, k < mn → X' w (fr + k) = nI (V' k)) ∧ FrI w fr mn X X' ∧ p ≤ r ∧ r ≤ L) ∧ (∀ r, itS T L fi mn 20 0 (fun k => woA (fi + k)) p = (r, none) → ∃ X', fX1_readItems w n1 (nI fr) (nI fi) (nI mn) (pP X p) = some (0, pP X' r) ∧ FrI w fr mn X X' ∧ r ≤ L) := by
  have hL := hT.1
  obtain ⟨fu, hfu, hfu2⟩ := fuel_g
  have hnn : ∀ z, z < 2 ^ 31 → ¬ nI z < 0 := fun z hz => by rw [q0, mz_ltp hz (by omega)]; omega
  have hXc : ∀ q k, (q ≠ w ∨ k < fr ∨ fr + mn ≤ k) → cp2 X (fun k => (aTab 3).getD k 0) fi w fr mn q k = X q k := by
    intro q k hk
    by_cases e : q = w
    · rw [e, cp2s, pk_cpy_out]
      omega
    · rw [cp2r _ _ _ _ _ _ _ e]
  have hXv : ∀ k, k < mn → cp2 X (fun k => (aTab 3).getD k 0) fi w fr mn w (fr + k) = nI (woA (fi + k)) := by
    intro k hk
    rw [cp2s, va_g _ _ _ _ _ hk]
    exact (tab_v (fi + k) (by omega)).2.2.1
  have ecp : cp2 (pP X p) (fun k => (aTab 3).getD k 0) fi w fr mn = pP (cp2 X (fun k => (aTab 3).getD k 0) fi w fr mn) p := by
    funext q z
    by_cases e : q = w
    · rw [e, cp2s, pP_r (by omega), pP_r (by omega), cp2s]
    · rw [cp2r _ _ _ _ _ _ _ e]
      by_cases e1 : q = 1
      · rw [e1]
        by_cases e2 : z = 2
        · rw [e2, pP_at, pP_at]
        · rw [pP_n e2, pP_n e2, cp2r _ _ _ _ _ _ _ (by omega)]
      · rw [pP_r e1, pP_r e1, cp2r _ _ _ _ _ _ _ e]
  have k := c_items_l (w := w) (n1 := n1) (fr := fr) (fi := fi) (mn := mn) hT hw hfi hmn hfr hn1 20 fu 0 (fun k => woA (fi + k)) p (cp2 X (fun k => (aTab 3).getD k 0) fi w fr mn) 0 (Nat.two_pow_pos _) sS_0 (by omega) (by omega) (by omega) hp ⟨by rw [hXc 1 1 (by omega)]; exact hX.1, fun k hk => by rw [hXc 2 k (by omega)]; exact hX.2 k hk⟩ hXv
  unfold fX1_readItems
  rw [nI_clamp (by omega), nI_clamp (by omega), nI_clamp (by omega), if_pos ⟨hnn _ (by omega), hnn _ (by omega), hnn _ (by omega), by omega, by omega⟩, mz_lt, ecp, hfu]
  refine ⟨fun r V' e => ?_, fun r e => ?_⟩
  · obtain ⟨X', g1, g2, g3, g4⟩ := k.1 r V' e
    exact ⟨X', g1, g2, FrI_t hXc g3, g4⟩
  · obtain ⟨X', g1, g2, g3⟩ := k.2 r e
    exact ⟨X', g1, FrI_t hXc g2, g3⟩
/-! the model -/
theorem m_number (hT : OkT T L) (h : TxM T L B w Y rv) (h11 : Y 50 11 = NN) (hp : p ≤ L) (hlo : lo ≤ 99) (hhi : hi ≤ 99) :
    (∀ r u, nmT T L 2 (skp T L p) = (r, some u) → (lo ≤ u ∧ u ≤ hi → fX12_number (nI lo) (nI hi) (mP Y p) rv = some (nI u, mP Y r)) ∧ (¬ (lo ≤ u ∧ u ≤ hi) → fX12_number (nI lo) (nI hi) (mP Y p) rv = some (nI u, mF Y (r - 1)))) ∧ (∀ r, nmT T L 2 (skp T L p) = (r, none) → fX12_number (nI lo) (nI hi) (mP Y p) rv = some (0, mF Y r)) := by
  have hL := hT.1
  have s2 := sk_le (T := T) hp
  obtain ⟨t1, t2, t3, t4, t5, t6⟩ := id h
  have hb : bLen w ≤ 960 := by unfold bLen; split <;> omega
  have k67 : ∀ u r, u < 100 → r ≤ L → 0 < r → (dgt T L r = true → fX12_number_67 (nI lo) (nI hi) (nI u) (mP Y r) rv = some (0, mF Y r)) ∧ (¬ dgt T L r = true → (lo ≤ u ∧ u ≤ hi → fX12_number_67 (nI lo) (nI hi) (nI u) (mP Y r) rv = some (nI u, mP Y r)) ∧ (¬ (lo ≤ u ∧ u ≤ hi) → fX12_number_67 (nI lo) (nI hi) (nI u) (mP Y r) rv = some (nI u, mF Y (r - 1)))) := by
    intro u r hu hr hr0
    unfold fX12_number_67
    rw [m_isDigit hT h hr, mz_b1, mz_isN (by omega) (by omega) (by omega), mz_b1]
    refine ⟨fun e => ?_, fun e => ⟨fun e2 => ?_, fun e2 => ?_⟩⟩
    · rw [if_pos e, if_neg (show ¬ (1 : Int32) = 0 by decide), m_fails h11, mz_b2]
    · rw [if_neg e, if_pos rfl, if_pos e2, if_neg (show ¬ (1 : Int32) = 0 by decide)]
    · rw [if_neg e, if_pos rfl, if_neg e2, if_pos rfl, mz_lt, mP_at, q1, mz_sub (by omega), mP_2, m_fails h11, mz_b2]
  unfold fX12_number
  rw [m_look hT h hp, mz_b2, m_isDigit hT h s2, mz_b1]
  generalize hq : skp T L p = q at *
  by_cases h1 : dgt T L q = true
  · have h1' := dgt_of h1
    rw [if_pos h1, if_neg (show ¬ (1 : Int32) = 0 by decide), mz_lt, mP_at, show nI q + 1 = nI (q + 1) from nI_1 _, mP_2, m_isDigit hT h (by omega), mz_b1, ch_in h1'.1, q48, mz_sub (by omega)]
    unfold nmT
    rw [if_pos h1, nmS, if_pos h1, nmS, Nat.mul_zero, Nat.zero_add]
    by_cases h2 : dgt T L (q + 1) = true
    · have h2' := dgt_of h2
      have eh : fX12_here (mP Y (q + 1)) rv = some (nI (T (q + 1))) := by
        unfold fX12_here
        rw [mP_at, mP_n (by omega), mP_n (by omega), t1, t2, t3, mP_r (by omega), if_neg (nI_ge (by omega) (by omega)), nI_add, if_pos (mz_in (by omega) (by omega)), nI_clamp (by omega), t6 _ h2'.1, bS_and _ (by have := (hT.2 _ h2'.1).2; omega)]
      rw [if_pos h2, if_pos h2, if_neg (show ¬ (1 : Int32) = 0 by decide), eh, mz_b1, q10, mz_mul, nI_add, mz_sub (by omega), mz_lt, mz_lt, mP_at, show nI (q + 1) + 1 = nI (q + 1 + 1) from nI_1 _, mP_2, nmS, show 10 * (T q - 48) + T (q + 1) - 48 = 10 * (T q - 48) + (T (q + 1) - 48) by omega]
      have kk := k67 (10 * (T q - 48) + (T (q + 1) - 48)) (q + 1 + 1) (by omega) (by omega) (by omega)
      by_cases h3 : dgt T L (q + 1 + 1) = true
      · rw [if_pos h3]
        refine ⟨fun r u e => by have := (Prod.mk.inj e).2; simp at this, fun r e => ?_⟩
        rw [← (Prod.mk.inj e).1]
        exact kk.1 h3
      · rw [if_neg h3]
        refine ⟨fun r u e => ?_, fun r e => by have := (Prod.mk.inj e).2; simp at this⟩
        rw [← (Prod.mk.inj e).1, ← Option.some.inj (Prod.mk.inj e).2]
        exact kk.2 h3
    · have kk := k67 (T q - 48) (q + 1) (by omega) (by omega) (by omega)
      rw [if_neg h2, if_neg h2, if_pos rfl]
      refine ⟨fun r u e => ?_, fun r e => by have := (Prod.mk.inj e).2; simp at this⟩
      rw [← (Prod.mk.inj e).1, ← Option.some.inj (Prod.mk.inj e).2]
      exact kk.2 h2
  · rw [if_neg h1, if_pos rfl, m_fails h11, mz_b2]
    unfold nmT
    rw [if_neg h1]
    refine ⟨fun r u e => by have := (Prod.mk.inj e).2; simp at this, fun r e => ?_⟩
    rw [← (Prod.mk.inj e).1]
end CI
