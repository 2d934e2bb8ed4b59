/-! cars as they are read: the model's items; clauses -/
def KdM (kc fi mn s w n2 : Nat) : Prop := (kc = 115 ∧ fi = 0 ∧ mn = 4 ∧ s = 4 ∧ w = 56 ∧ n2 = 4) ∨ (kc = 112 ∧ fi = 4 ∧ mn = 6 ∧ s = 6 ∧ w = 58 ∧ n2 = 54) ∨ (kc = 111 ∧ fi = 10 ∧ mn = 4 ∧ s = 7 ∧ w = 60 ∧ n2 = 16)
def FlC (w fr mn : Nat) (Y : Tb) (r : Nat) (Y' : Tb) : Prop := Y' 50 11 = nI r ∧ ∀ q k, (q ≠ w ∨ k < fr ∨ fr + mn ≤ k) → ¬ (q = 50 ∧ (k = 10 ∨ k = 11)) → Y' q k = Y q k
section CJ
variable {X X' X'' i i' Y Y' Y'' j j' : Tb} {rv : Nat → Nat → Option Nat} {T V V' : Nat → Nat} {L B w a p q r n d e m k c z f fi mn fr it lo hi u n1 n2 seen t s kc x5 : Nat} {v : Int32} {K D : Nat → Nat → Nat}
theorem Kd_f (h : KdM kc fi mn s w n2) : aLen.getD s 0 = mn ∧ s < 8 ∧ fi + mn ≤ 14 ∧ mn ≤ 6 ∧ 52 < w ∧ n2 ≤ 54 ∧ kc < 128 ∧ (∀ k, k < mn → aCh s (nI k) = itF fi k) ∧ (∀ k, k < mn → fX12_leastOf (nI kc) (nI k) = some (nI (loA (fi + k))) ∧ fX12_mostOf (nI kc) (nI k) = some (nI (hiA (fi + k))) ∧ fX12_usual (nI kc) (nI k) = some (nI (woA (fi + k)))) := by
  rcases h with ⟨rfl, rfl, rfl, rfl, rfl, rfl⟩ | ⟨rfl, rfl, rfl, rfl, rfl, rfl⟩ | ⟨rfl, rfl, rfl, rfl, rfl, rfl⟩
  · exact ⟨by decide +kernel, by omega, by omega, by omega, by omega, by omega, by omega, by decide +kernel, by decide +kernel⟩
  · exact ⟨by decide +kernel, by omega, by omega, by omega, by omega, by omega, by omega, by decide +kernel, by decide +kernel⟩
  · exact ⟨by decide +kernel, by omega, by omega, by omega, by omega, by omega, by omega, by decide +kernel, by decide +kernel⟩
theorem Kd_spot (h : KdM kc fi mn s w n2) : fX12_spotOf s v = some (oI (fnC (itF fi) v mn 0)) := by
  obtain ⟨h1, h2, _, _, _, _, _, h3, _⟩ := Kd_f h
  rw [m_spotOf h2, h1, fnC_congr mn 0 (fun z _ hz => h3 z (by omega))]
theorem FlC_F (h : FrI w fr mn Y Y') : FlC w fr mn Y r (mF Y' r) := by
  refine ⟨mF_11, fun q k h1 h2 => ?_⟩
  unfold mF mP
  rw [u2o _ _ (by omega), u2o _ _ (by omega)]
  exact h q k h1
theorem FlC_t (h : FrI w fr mn Y Y') (h' : FlC w fr mn Y' r Y'') : FlC w fr mn Y r Y'' := ⟨h'.1, fun q k h1 h2 => (h'.2 q k h1 h2).trans (h q k h1)⟩
theorem TxM_i (h : TxM T L B q Y rv) (hw : 52 < w) (hf : FrI w fr mn Y Y') : TxM T L B q Y' rv := by
  obtain ⟨h1, h2, h3, h4, h5, h6⟩ := h
  exact ⟨by rw [hf 50 8 (by omega)]; exact h1, by rw [hf 50 9 (by omega)]; exact h2, h3, h4, h5, fun k hk => by rw [hf q _ (by omega)]; exact h6 k hk⟩
theorem m_items_l (hT : OkT T L) (hK : KdM kc fi mn s w n2) (hfr : fr + mn ≤ n2) : ∀ m n seen V p Y t, seen < 2 ^ mn → sS (fun _ => 1) seen = t → t ≤ mn → mn - t + 1 < n → mn - t < m → p ≤ L → TxM T L B q Y rv → Y 50 11 = NN → (∀ k, k < mn → Y w (fr + k) = nI (V k)) →
    (∀ r V', itS T L fi mn m seen V p = (r, some V') → ∃ Y', fX12_readItems_45 w n2 s n (nI kc) (nI fr) (nI seen) (oI (fnC (itF fi) (ch T L (skp T L p)) mn 0)) (mP Y (skp T L p)) rv = some (mP Y' r) ∧ (∀ k, k < mn → Y' w (fr + k) = nI (V' k)) ∧ FrI w fr mn Y Y') ∧ (∀ r, itS T L fi mn m seen V p = (r, none) → ∃ Y', fX12_readItems_45 w n2 s n (nI kc) (nI fr) (nI seen) (oI (fnC (itF fi) (ch T L (skp T L p)) mn 0)) (mP Y (skp T L p)) rv = some Y' ∧ FlC w fr mn Y r Y') := by
  have hL := hT.1
  obtain ⟨k1, k2, k3, k4, k5, k6, k7, k8, k9⟩ := Kd_f hK
  have h2p : 2 ^ mn ≤ 2 ^ 9 := Nat.pow_le_pow_right (by omega) (by omega)
  intro m
  induction m with
  | zero => intro n seen V p Y t _ _ _ _ h; omega
  | succ m ih =>
    intro n seen V p Y t hse hct htm hn hm hp hX h11 hV
    obtain ⟨n, rfl⟩ : ∃ n', n = n' + 1 := ⟨n - 1, by omega⟩
    have s1 := sk_ge (T := T) hp
    have s2 := sk_le (T := T) hp
    rw [fX12_readItems_45, qN1]
    cases hz : fnC (itF fi) (ch T L (skp T L p)) mn 0 with
    | none =>
      rw [itS_0 hz, if_pos (show oI none = NN from rfl)]
      refine ⟨fun r V' e => ?_, fun r e => by have := (Prod.mk.inj e).2; simp at this⟩
      rw [← (Prod.mk.inj e).1, ← Option.some.inj (Prod.mk.inj e).2]
      exact ⟨Y, rfl, hV, FrI_r⟩
    | some it =>
      obtain ⟨hlt, hit⟩ := it_lt k3 hz
      have hpw : 2 ^ it < 2 ^ mn := Nat.pow_lt_pow_right (by omega) hit
      obtain ⟨l1, l2, l3⟩ := k9 it hit
      obtain ⟨_, _, _, t4, t5⟩ := tab_v (fi + it) (by omega)
      unfold fX12_has
      rw [if_neg (show ¬ oI (some it) = NN by show ¬ nI it = NN; rw [mz_nm (by omega)]; exact fun e => e), show oI (some it) = nI it from rfl, mP_n (by omega), h11, if_pos rfl, mz_bit1 (by omega) (by omega), mz_1l _ (by omega), mz_or]
      by_cases h2 : seen.testBit it = true
      · rw [if_pos h2, if_pos (show nI 1 = 1 from rfl), mz_b1, if_neg (show ¬ (1 : Int32) = 0 by decide), m_fails h11, mz_b2, itS_1 hz h2]
        refine ⟨fun r V' e => by have := (Prod.mk.inj e).2; simp at this, fun r e => ?_⟩
        rw [← (Prod.mk.inj e).1]
        exact ⟨_, rfl, FlC_F FrI_r⟩
      · have h2' : seen.testBit it = false := by simpa using h2
        have hc := cnt_lt (show mn ≤ 9 by omega) hse hit h2'
        have hsa : sS (fun _ => 1) (seen ||| 2 ^ it) = sS (fun _ => 1) seen + 1 := sS_add (by omega) h2'
        have hsl : seen ||| 2 ^ it < 2 ^ mn := Nat.or_lt_two_pow hse hpw
        have s3 := sk_ge (T := T) (L := L) (p := skp T L p + 1) (by omega)
        have s4 := sk_le (T := T) (L := L) (p := skp T L p + 1) (by omega)
        have hok := nmT_ok (T := T) (m := 2) s4
        have kn := m_number (p := skp T L p + 1) (lo := loA (fi + it)) (hi := hiA (fi + it)) hT hX h11 (by omega) t4 t5
        have bad : ∀ v0 r1, r1 ≤ L → fX12_number (nI (loA (fi + it))) (nI (hiA (fi + it))) (mP Y (skp T L p + 1)) rv = some (v0, mF Y r1) → ∃ Y', (bn2 (fX12_number (nI (loA (fi + it))) (nI (hiA (fi + it))) (mP Y (skp T L p + 1)) rv) fun v19 i20 => if aIn (nI fr + nI it) n2 = true then (lt (u2 i20 w (nI fr + nI it).toNatClampNeg v19) fun i22 => if (i22 50 11) = NN then (bn2 (fX12_look i22 rv) fun v23 i24 => bn1 (fX12_spotOf s v23) fun v26 => fX12_readItems_45 w n2 s n (nI kc) (nI fr) (nI (seen ||| 2 ^ it)) v26 i24 rv) else (fX12_readItems_45 w n2 s n (nI kc) (nI fr) (nI (seen ||| 2 ^ it)) (nI it) i22 rv)) else none) = some Y' ∧ FlC w fr mn Y r1 Y' := by
          intro v0 r1 hr1 e
          obtain ⟨n3, rfl⟩ : ∃ n3, n = n3 + 1 := ⟨n - 1, by omega⟩
          have hne : ¬ nI r1 = NN := by rw [mz_nm (by omega)]; exact fun e => e
          refine ⟨mF (u2 Y w (fr + it) v0) r1, ?_, FlC_F (FrI_u hit)⟩
          rw [e, mz_b2, nI_add, if_pos (mz_in (by omega) (by omega)), mz_lt, nI_clamp (by omega), mF_u (by omega), mF_11, if_neg hne, fX12_readItems_45, qN1, if_neg (show ¬ nI it = NN by rw [mz_nm (by omega)]; exact fun e => e), mF_11, if_neg hne]
        rw [if_neg h2, if_neg (show ¬ nI 0 = 1 by decide), mz_b1, if_pos rfl, mz_lt, mz_lt, mP_at, show nI (skp T L p) + 1 = nI (skp T L p + 1) from nI_1 _, mP_2, l1, mz_b1, l2, mz_b1]
        rcases hr : nmT T L 2 (skp T L (skp T L p + 1)) with ⟨r0, _ | u⟩
        · rw [hr] at hok
          rw [itS_2 hz h2 hr]
          refine ⟨fun r V' e => by have := (Prod.mk.inj e).2; simp at this, fun r e => ?_⟩
          rw [← (Prod.mk.inj e).1]
          exact bad 0 r0 hok.2.1 (kn.2 _ hr)
        · have hl := nmT_lt (T := T) (m := 2) (v := u) s4 (by omega) (by rw [hr])
          rw [hr] at hok hl
          have hu := hok.2.2 u rfl
          have hr1 : r0 ≤ L := hok.2.1
          have hr2 : skp T L (skp T L p + 1) < r0 := hl
          by_cases h5 : loA (fi + it) ≤ u ∧ u ≤ hiA (fi + it)
          · have hX2 : TxM T L B q (u2 Y w (fr + it) (nI u)) rv := TxM_u hX (by omega)
            have g11 : u2 Y w (fr + it) (nI u) 50 11 = NN := by rw [u2r _ _ _ _ _ (by omega)]; exact h11
            rw [itS_3 hz h2 hr h5, (kn.1 _ _ hr).1 h5, mz_b2, nI_add, if_pos (mz_in (by omega) (by omega)), mz_lt, nI_clamp (by omega), mP_c (by omega), mP_n (by omega), g11, if_pos rfl, m_look hT hX2 hr1, mz_b2, Kd_spot hK, mz_b1]
            have k := ih n (seen ||| 2 ^ it) (up V it u) r0 (u2 Y w (fr + it) (nI u)) (t + 1) hsl (by omega) (by omega) (by omega) (by omega) hr1 hX2 g11 (fun k hk => by
              by_cases e : k = it
              · rw [e, u2e, up_e]
              · rw [u2n _ _ _ _ _ (by omega), up_n e]
                exact hV k hk)
            refine ⟨fun r V' e => ?_, fun r e => ?_⟩
            · obtain ⟨Y', g1, g2, g3⟩ := k.1 r V' e
              exact ⟨Y', g1, g2, FrI_t (FrI_u hit) g3⟩
            · obtain ⟨Y', g1, g2⟩ := k.2 r e
              exact ⟨Y', g1, FlC_t (FrI_u hit) g2⟩
          · rw [itS_4 hz h2 hr h5]
            refine ⟨fun r V' e => by have := (Prod.mk.inj e).2; simp at this, fun r e => ?_⟩
            rw [← (Prod.mk.inj e).1]
            exact bad _ (r0 - 1) (by omega) ((kn.1 _ _ hr).2 h5)
theorem M_items (hT : OkT T L) (hK : KdM kc fi mn s w n2) (hfr : fr + mn ≤ n2) (hp : p ≤ L) : ∀ n x5 Y, x5 ≤ mn → mn - x5 < n → TxM T L B q Y rv → Y 50 11 = NN → (∀ k, k < x5 → Y w (fr + k) = nI (woA (fi + k))) →
    (∀ r V', itS T L fi mn 20 0 (fun k => woA (fi + k)) p = (r, some V') → ∃ Y', fX12_readItems_3 w n2 s n (nI kc) (nI fr) (nI x5) (mP Y p) rv = some (mP Y' r) ∧ (∀ k, k < mn → Y' w (fr + k) = nI (V' k)) ∧ FrI w fr mn Y Y') ∧ (∀ r, itS T L fi mn 20 0 (fun k => woA (fi + k)) p = (r, none) → ∃ Y', fX12_readItems_3 w n2 s n (nI kc) (nI fr) (nI x5) (mP Y p) rv = some Y' ∧ FlC w fr mn Y r Y') := by
  have hL := hT.1
  obtain ⟨k1, k2, k3, k4, k5, k6, k7, k8, k9⟩ := Kd_f hK
  obtain ⟨e1, _⟩ := str_len s k2
  intro n
  induction n with
  | zero => intro x5 Y _ h; omega
  | succ n ih =>
    intro x5 Y h1 h2 hX h11 hV
    rw [fX12_readItems_3, e1, k1, mz_b1]
    by_cases h3 : x5 = mn
    · obtain ⟨fu, hfu, hfu2⟩ := fuel_g
      rw [h3] at hV
      rw [if_pos (nI_le (by omega) (by omega)), m_look hT hX hp, mz_b2, Kd_spot hK, mz_b1, hfu]
      exact m_items_l hT hK hfr 20 fu 0 (fun k => woA (fi + k)) p Y 0 (Nat.two_pow_pos _) sS_0 (by omega) (by omega) (by omega) hp hX h11 hV
    · obtain ⟨_, _, l3⟩ := k9 x5 (by omega)
      rw [if_neg (nI_ge (by omega) (by omega)), l3, mz_b1, nI_add, if_pos (mz_in (by omega) (by omega)), mz_lt, nI_clamp (by omega), mP_c (by omega), nI_1]
      have k := ih (x5 + 1) (u2 Y w (fr + x5) (nI (woA (fi + x5)))) (by omega) (by omega) (TxM_u hX (by omega)) (by rw [u2r _ _ _ _ _ (by omega)]; exact h11) (fun k hk => by
        by_cases e : k = x5
        · rw [e, u2e]
        · rw [u2n _ _ _ _ _ (by omega)]
          exact hV k (by omega))
      refine ⟨fun r V' e => ?_, fun r e => ?_⟩
      · obtain ⟨Y', g1, g2, g3⟩ := k.1 r V' e
        exact ⟨Y', g1, g2, FrI_t (FrI_u (by omega)) g3⟩
      · obtain ⟨Y', g1, g2⟩ := k.2 r e
        exact ⟨Y', g1, FlC_t (FrI_u (by omega)) g2⟩
/-! clauses -/
def upI (D : Nat → Nat → Nat) (a off mn : Nat) (V : Nat → Nat) : Nat → Nat → Nat := fun x k => if x = a ∧ off ≤ k ∧ k < off + mn then V (k - off) else D x k
def upN (D : Nat → Nat → Nat) (z : Nat) : Nat → Nat → Nat := fun x k => if x = 0 ∧ k = z then D 0 z + 1 else D x k
def cc1 (T : Nat → Nat) (L : Nat) (told : Bool) (D : Nat → Nat → Nat) (q : Nat) : Nat × Option (Nat → Nat → Nat) :=
  if ch T L q = 115 ∧ told = false then (match itS T L 0 4 20 0 (fun k => woA (0 + k)) (q + 1) with
    | (r, none) => (r, none)
    | (r, some V) => (r, some (upI D 1 0 4 V)))
  else if ch T L q = 112 ∧ D 0 3 < 9 then (match itS T L 4 6 20 0 (fun k => woA (4 + k)) (q + 1) with
    | (r, none) => (r, none)
    | (r, some V) => (r, some (upI (upN D 3) 2 (6 * D 0 3) 6 V)))
  else if ch T L q = 111 ∧ D 0 4 < 4 then (match itS T L 10 4 20 0 (fun k => woA (10 + k)) (q + 1) with
    | (r, none) => (r, none)
    | (r, some V) => (r, some (upI (upN D 4) 3 (4 * D 0 4) 4 V)))
  else (q, none)
def pap (D : Nat → Nat → Nat) : Nat := sumTo (fun p => if sv D p 5 = 0 then 1 else 0) (D 0 3)
def crS (T : Nat → Nat) (L : Nat) : Nat → Bool → (Nat → Nat → Nat) → Nat → Nat × Option (Nat → Nat → Nat)
  | 0, _, _, p => (p, none)
  | m + 1, told, D, p => match cc1 T L told D (skp T L p) with
    | (r, none) => (r, none)
    | (r, some D') => if L ≤ skp T L r then (if 0 < pap D' ∧ 0 < D' 0 4 then (skp T L r, some D') else (skp T L r, none)) else if ch T L (skp T L r) = 59 then crS T L m (told || decide (ch T L (skp T L p) = 115)) D' (skp T L r + 1) else (skp T L r, none)
def DrC (D : Nat → Nat → Nat) (X : Tb) : Prop := X 11 3 = nI (D 0 3) ∧ X 11 4 = nI (D 0 4) ∧ (∀ k, k < 4 → X 12 k = nI (D 1 k)) ∧ (∀ k, k < 6 * D 0 3 → X 13 k = nI (D 2 k)) ∧ (∀ k, k < 4 * D 0 4 → X 14 k = nI (D 3 k))
def DrM (told : Bool) (D : Nat → Nat → Nat) (Y : Tb) : Prop := Y 50 29 = nI (D 0 3) ∧ Y 50 30 = nI (D 0 4) ∧ Y 50 32 = (if told = true then 1 else 0) ∧ (∀ k, k < 4 → Y 56 k = nI (D 1 k)) ∧ (∀ k, k < 6 * D 0 3 → Y 58 k = nI (D 2 k)) ∧ (∀ k, k < 4 * D 0 4 → Y 60 k = nI (D 3 k))
def OkD (D : Nat → Nat → Nat) : Prop := D 0 3 ≤ 9 ∧ D 0 4 ≤ 4 ∧ (∀ k, k < 4 → D 1 k ≤ hiA k) ∧ (∀ p k, p < D 0 3 → k < 6 → D 2 (6 * p + k) ≤ hiA (4 + k)) ∧ (∀ o k, o < D 0 4 → k < 4 → D 3 (4 * o + k) ≤ hiA (10 + k))
theorem wo_hi : ∀ k, k < 14 → woA k ≤ hiA k := by decide +kernel
theorem itS_b (hfi : fi + mn ≤ 14) : ∀ m seen V p r V', (∀ k, k < mn → V k ≤ hiA (fi + k)) → itS T L fi mn m seen V p = (r, some V') → ∀ k, k < mn → V' k ≤ hiA (fi + k) := by
  intro m
  induction m with
  | zero => intro seen V p r V' _ e; rw [itS] at e; have := (Prod.mk.inj e).2; simp at this
  | succ m ih =>
    intro seen V p r V' hV e
    cases hz : fnC (itF fi) (ch T L (skp T L p)) mn 0 with
    | none =>
      rw [itS_0 hz] at e
      rw [← Option.some.inj (Prod.mk.inj e).2]
      exact hV
    | some it =>
      by_cases h2 : seen.testBit it = true
      · rw [itS_1 hz h2] at e
        have := (Prod.mk.inj e).2
        simp at this
      · rcases hr : nmT T L 2 (skp T L (skp T L p + 1)) with ⟨r0, _ | u⟩
        · rw [itS_2 hz h2 hr] at e
          have := (Prod.mk.inj e).2
          simp at this
        · by_cases h5 : loA (fi + it) ≤ u ∧ u ≤ hiA (fi + it)
          · rw [itS_3 hz h2 hr h5] at e
            refine ih _ _ _ _ _ (fun k hk => ?_) e
            by_cases e2 : k = it
            · rw [e2, up_e]; exact h5.2
            · rw [up_n e2]; exact hV k hk
          · rw [itS_4 hz h2 hr h5] at e
            have := (Prod.mk.inj e).2
            simp at this
theorem upI_i {off : Nat} (h : k < mn) : upI D a off mn V a (off + k) = V k := by
  unfold upI
  rw [if_pos (by omega)]
  congr 1
  omega
theorem upI_o {off : Nat} (h : q ≠ a ∨ k < off ∨ off + mn ≤ k) : upI D a off mn V q k = D q k := if_neg (by omega)
theorem upN_e : upN D z 0 z = D 0 z + 1 := if_pos ⟨rfl, rfl⟩
theorem upN_o (h : q ≠ 0 ∨ k ≠ z) : upN D z q k = D q k := if_neg (by omega)
end CJ
