/-! cars as they are read: the model's clauses; a whole car on both sides -/
/-- a fault while a car is read -/
def FlD (Y : Tb) (r : Nat) (Y' : Tb) : Prop := Y' 50 11 = nI r ∧ Fr [50, 56, 58, 60] Y Y' ∧ F5 [10, 11, 29, 30, 32] Y Y'
section CD
variable {X X' X'' i i' Y Y' Y'' j j' : Tb} {rv : Nat → Nat → Option Nat} {T V V' : Nat → Nat} {L B w a p q r n d e m k c z f fi mn fr it u t s x : Nat} {v : Int32} {K D D' : Nat → Nat → Nat} {told : Bool}
theorem FrM_i (hw : w = 56 ∨ w = 58 ∨ w = 60) (h : FrI w fr mn Y Y') : Fr [50, 56, 58, 60] Y Y' ∧ F5 [10, 11, 29, 30, 32] Y Y' := ⟨fun q hq => by
  funext k
  exact h q k (by simp at hq; omega), fun k _ => h 50 k (by omega)⟩
theorem FlD_c (hw : w = 56 ∨ w = 58 ∨ w = 60) (h : FlC w fr mn Y r Y') : FlD Y r Y' := by
  refine ⟨h.1, fun q hq => ?_, fun k hk => ?_⟩
  · funext k
    simp at hq
    exact h.2 q k (by omega) (by omega)
  · simp at hk
    exact h.2 50 k (by omega) (by omega)
theorem FlD_t (h1 : Fr [50, 56, 58, 60] Y Y') (h2 : F5 [10, 11, 29, 30, 32] Y Y') (h : FlD Y' r Y'') : FlD Y r Y'' := ⟨h.1, Fr_t h1 h.2.1, F5_t h2 h.2.2⟩
theorem FlD_F : FlD Y r (mF Y r) := by
  refine ⟨mF_11, fun q hq => ?_, fun k hk => ?_⟩
  · unfold mF mP
    rw [u2r _ _ _ _ _ (fun e => hq (by simp [e])), u2r _ _ _ _ _ (fun e => hq (by simp [e]))]
  · unfold mF mP
    rw [u2n _ _ _ _ _ (fun e => hk (by simp [e])), u2n _ _ _ _ _ (fun e => hk (by simp [e]))]
/-- the model reads a clause -/
theorem m_cc1 (hT : OkT T L) (hX : TxM T L B x Y rv) (h11 : Y 50 11 = NN) (hD : DrM told D Y) (hO : OkD D) (hp : p ≤ L) :
    (∀ r D', cc1 T L told D (skp T L p) = (r, some D') → ∃ Y', fX12_readClause (mP Y p) rv = some (mP Y' r) ∧ DrM (told || decide (ch T L (skp T L p) = 115)) D' Y' ∧ Fr [50, 56, 58, 60] Y Y' ∧ F5 [10, 11, 29, 30, 32] Y Y' ∧ TxM T L B x Y' rv ∧ Y' 50 11 = NN) ∧ (∀ r, cc1 T L told D (skp T L p) = (r, none) → ∃ Y', fX12_readClause (mP Y p) rv = some Y' ∧ FlD Y r Y') := by
  have hL := hT.1
  have s1 := sk_ge (T := T) hp
  have s2 := sk_le (T := T) hp
  obtain ⟨o1', o2', _, _, _⟩ := id hO
  have et : ((if told = true then (1 : Int32) else 0) = 0) = (told = false) := by cases told <;> decide
  obtain ⟨fu, hfu, hfu2⟩ := fuel_g
  unfold fX12_readClause
  rw [m_look hT hX hp, mz_b2]
  unfold fX12_readClause_18 fX12_readClause_33 fX12_readClause_47 fX12_readClause_51
  rw [mP_n (by omega), mP_n (by omega), mP_n (by omega), hD.1, hD.2.1, hD.2.2.1]
  generalize hq : skp T L p = q at *
  have bad : fX12_readClause_52 (ch T L q) 0 (mP Y q) rv = some (mF Y q) := by
    unfold fX12_readClause_52
    rw [if_pos rfl, m_fails h11, mz_b2]
  have good : q < L → fX12_readClause_52 (ch T L q) 1 (mP Y q) rv = (if ch T L q = 115 then (bn1 (fX12_readItems_3 56 4 4 fu (ch T L q) 0 0 (mP (u2 Y 50 32 1) (q + 1)) rv) fun i12 => some i12) else (if ch T L q = 112 then (bn1 (fX12_readItems_3 58 54 6 fu (ch T L q) (nI (6 * D 0 3)) 0 (mP (u2 Y 50 29 (nI (D 0 3 + 1))) (q + 1)) rv) fun i9 => some i9) else (bn1 (fX12_readItems_3 60 16 7 fu (ch T L q) (nI (4 * D 0 4)) 0 (mP (u2 Y 50 30 (nI (D 0 4 + 1))) (q + 1)) rv) fun i6 => some i6))) := by
    intro hlt
    have ef1 : (6 : Int32) * (nI (D 0 3 + 1) - 1) = nI (6 * D 0 3) := by
      rw [q1, mz_sub (by omega), q6, mz_mul]
      congr 1
    have ef2 : (4 : Int32) * (nI (D 0 4 + 1) - 1) = nI (4 * D 0 4) := by
      rw [q1, mz_sub (by omega), q4, mz_mul]
      congr 1
    unfold fX12_readClause_52 fX12_readItems
    rw [if_neg (show ¬ (1 : Int32) = 0 by decide), mz_lt, mP_at, show nI q + 1 = nI (q + 1) from nI_1 _, mP_2, mz_lt, mz_lt, mz_lt, hfu, mP_n (by omega), mP_n (by omega), hD.1, hD.2.1, nI_1, nI_1, u2e, u2e, ef1, ef2, mP_c (by omega), mP_c (by omega), mP_c (by omega)]
  by_cases h0 : ch T L q = 115 ∧ told = false
  · have hlt := ch_lt (c := 115) (by omega) h0.1
    have hX1 : TxM T L B x (u2 Y 50 32 1) rv := TxM_u hX (by omega)
    have g11 : u2 Y 50 32 1 50 11 = NN := by rw [u2n _ _ _ _ _ (by omega)]; exact h11
    have k := M_items (fr := 0) (kc := 115) (fi := 0) (mn := 4) (s := 4) (w := 56) (n2 := 4) hT (Or.inl ⟨rfl, rfl, rfl, rfl, rfl, rfl⟩) (by omega) (show q + 1 ≤ L by omega) fu 0 (u2 Y 50 32 1) (by omega) (by omega) hX1 g11 (fun k hk => by omega)
    have f5a : F5 [10, 11, 29, 30, 32] Y (u2 Y 50 32 1) := F5_w (by decide) F5_u
    have fra : Fr [50, 56, 58, 60] Y (u2 Y 50 32 1) := Fr_w (by decide) Fr_u
    have ec : (115 : Int32) = nI 115 := rfl
    rw [if_pos h0.1, if_pos (et.mpr h0.2), good hlt, if_pos h0.1, h0.1, h0.2, decide_eq_true rfl]
    rcases hr : itS T L 0 4 20 0 (fun k => woA (0 + k)) (q + 1) with ⟨r0, _ | V⟩
    · obtain ⟨Y', g1, g2⟩ := k.2 _ hr
      have g1' : fX12_readItems_3 56 4 4 fu 115 0 0 (mP (u2 Y 50 32 1) (q + 1)) rv = some Y' := g1
      rw [(cc1_s ⟨h0.1, rfl⟩).1 _ hr, g1', mz_b1]
      refine ⟨fun r D' e => by have := (Prod.mk.inj e).2; simp at this, fun r e => ?_⟩
      rw [← (Prod.mk.inj e).1]
      exact ⟨Y', rfl, FlD_t fra f5a (FlD_c (by omega) g2)⟩
    · obtain ⟨Y', g1, g2, g3⟩ := k.1 _ _ hr
      have g1' : fX12_readItems_3 56 4 4 fu 115 0 0 (mP (u2 Y 50 32 1) (q + 1)) rv = some (mP Y' r0) := g1
      rw [(cc1_s ⟨h0.1, rfl⟩).2 _ _ hr, g1', mz_b1]
      refine ⟨fun r D' e => ?_, fun r e => by have := (Prod.mk.inj e).2; simp at this⟩
      rw [← (Prod.mk.inj e).1, ← Option.some.inj (Prod.mk.inj e).2]
      have ff := FrM_i (by omega) g3
      exact ⟨Y', rfl, DrM_s hD g3 g2, Fr_t fra ff.1, F5_t f5a ff.2, TxM_i hX1 (by omega) g3, by rw [g3 50 11 (by omega)]; exact g11⟩
  · have red0 : ∀ (A C : Option Tb), (if ch T L q = 115 then (if (if told = true then (1 : Int32) else 0) = 0 then A else C) else C) = C := by
      intro A C
      by_cases e : ch T L q = 115
      · rw [if_pos e, if_neg (fun e2 => h0 ⟨e, et.mp e2⟩)]
      · rw [if_neg e]
    rw [red0]
    have e9 : (nI (D 0 3) < 9) = (D 0 3 < 9) := by rw [q9, mz_ltp (by omega) (by omega)]
    have e4 : ((4 : Int32) ≤ nI (D 0 4)) = (4 ≤ D 0 4) := by rw [q4, mz_le (by omega) (by omega)]
    by_cases h1 : ch T L q = 112 ∧ D 0 3 < 9
    · have hlt := ch_lt (c := 112) (by omega) h1.1
      have hX1 : TxM T L B x (u2 Y 50 29 (nI (D 0 3 + 1))) rv := TxM_u hX (by omega)
      have g11 : u2 Y 50 29 (nI (D 0 3 + 1)) 50 11 = NN := by rw [u2n _ _ _ _ _ (by omega)]; exact h11
      have k := M_items (fr := 6 * D 0 3) (kc := 112) (fi := 4) (mn := 6) (s := 6) (w := 58) (n2 := 54) hT (Or.inr (Or.inl ⟨rfl, rfl, rfl, rfl, rfl, rfl⟩)) (by omega) (show q + 1 ≤ L by omega) fu 0 (u2 Y 50 29 (nI (D 0 3 + 1))) (by omega) (by omega) hX1 g11 (fun k hk => by omega)
      have f5a : F5 [10, 11, 29, 30, 32] Y (u2 Y 50 29 (nI (D 0 3 + 1))) := F5_w (by decide) F5_u
      have fra : Fr [50, 56, 58, 60] Y (u2 Y 50 29 (nI (D 0 3 + 1))) := Fr_w (by decide) Fr_u
      rw [if_pos h1.1, if_pos (e9.mpr h1.2), good hlt, if_neg (show ¬ ch T L q = 115 by rw [h1.1]; decide), if_pos h1.1]
      rcases hr : itS T L 4 6 20 0 (fun k => woA (4 + k)) (q + 1) with ⟨r0, _ | V⟩
      · obtain ⟨Y', g1, g2⟩ := k.2 _ hr
        have g1' : fX12_readItems_3 58 54 6 fu (ch T L q) (nI (6 * D 0 3)) 0 (mP (u2 Y 50 29 (nI (D 0 3 + 1))) (q + 1)) rv = some Y' := by rw [h1.1]; exact g1
        rw [(cc1_p h0 h1).1 _ hr, g1', mz_b1]
        refine ⟨fun r D' e => by have := (Prod.mk.inj e).2; simp at this, fun r e => ?_⟩
        rw [← (Prod.mk.inj e).1]
        exact ⟨Y', rfl, FlD_t fra f5a (FlD_c (by omega) g2)⟩
      · obtain ⟨Y', g1, g2, g3⟩ := k.1 _ _ hr
        have g1' : fX12_readItems_3 58 54 6 fu (ch T L q) (nI (6 * D 0 3)) 0 (mP (u2 Y 50 29 (nI (D 0 3 + 1))) (q + 1)) rv = some (mP Y' r0) := by rw [h1.1]; exact g1
        rw [(cc1_p h0 h1).2 _ _ hr, g1', mz_b1]
        refine ⟨fun r D' e => ?_, fun r e => by have := (Prod.mk.inj e).2; simp at this⟩
        rw [← (Prod.mk.inj e).1, ← Option.some.inj (Prod.mk.inj e).2]
        have ff := FrM_i (by omega) g3
        have hd : (told || decide (ch T L q = 115)) = told := by rw [decide_eq_false (show ¬ ch T L q = 115 by rw [h1.1]; decide), Bool.or_false]
        rw [hd]
        exact ⟨Y', rfl, DrM_p hD g3 g2, Fr_t fra ff.1, F5_t f5a ff.2, TxM_i hX1 (by omega) g3, by rw [g3 50 11 (by omega)]; exact g11⟩
    · have red1 : ∀ (A C : Option Tb), (if ch T L q = 112 then (if nI (D 0 3) < 9 then A else C) else C) = C := by
        intro A C
        by_cases e : ch T L q = 112
        · rw [if_pos e, if_neg (fun e2 => h1 ⟨e, e9.mp e2⟩)]
        · rw [if_neg e]
      rw [red1]
      by_cases h2 : ch T L q = 111 ∧ D 0 4 < 4
      · have hlt := ch_lt (c := 111) (by omega) h2.1
        have hX1 : TxM T L B x (u2 Y 50 30 (nI (D 0 4 + 1))) rv := TxM_u hX (by omega)
        have g11 : u2 Y 50 30 (nI (D 0 4 + 1)) 50 11 = NN := by rw [u2n _ _ _ _ _ (by omega)]; exact h11
        have k := M_items (fr := 4 * D 0 4) (kc := 111) (fi := 10) (mn := 4) (s := 7) (w := 60) (n2 := 16) hT (Or.inr (Or.inr ⟨rfl, rfl, rfl, rfl, rfl, rfl⟩)) (by omega) (show q + 1 ≤ L by omega) fu 0 (u2 Y 50 30 (nI (D 0 4 + 1))) (by omega) (by omega) hX1 g11 (fun k hk => by omega)
        have f5a : F5 [10, 11, 29, 30, 32] Y (u2 Y 50 30 (nI (D 0 4 + 1))) := F5_w (by decide) F5_u
        have fra : Fr [50, 56, 58, 60] Y (u2 Y 50 30 (nI (D 0 4 + 1))) := Fr_w (by decide) Fr_u
        rw [if_pos h2.1, if_neg (fun e => by have := e4.mp e; omega), good hlt, if_neg (show ¬ ch T L q = 115 by rw [h2.1]; decide), if_neg (show ¬ ch T L q = 112 by rw [h2.1]; decide)]
        rcases hr : itS T L 10 4 20 0 (fun k => woA (10 + k)) (q + 1) with ⟨r0, _ | V⟩
        · obtain ⟨Y', g1, g2⟩ := k.2 _ hr
          have g1' : fX12_readItems_3 60 16 7 fu (ch T L q) (nI (4 * D 0 4)) 0 (mP (u2 Y 50 30 (nI (D 0 4 + 1))) (q + 1)) rv = some Y' := by rw [h2.1]; exact g1
          rw [(cc1_o h0 h1 h2).1 _ hr, g1', mz_b1]
          refine ⟨fun r D' e => by have := (Prod.mk.inj e).2; simp at this, fun r e => ?_⟩
          rw [← (Prod.mk.inj e).1]
          exact ⟨Y', rfl, FlD_t fra f5a (FlD_c (by omega) g2)⟩
        · obtain ⟨Y', g1, g2, g3⟩ := k.1 _ _ hr
          have g1' : fX12_readItems_3 60 16 7 fu (ch T L q) (nI (4 * D 0 4)) 0 (mP (u2 Y 50 30 (nI (D 0 4 + 1))) (q + 1)) rv = some (mP Y' r0) := by rw [h2.1]; exact g1
          rw [(cc1_o h0 h1 h2).2 _ _ hr, g1', mz_b1]
          refine ⟨fun r D' e => ?_, fun r e => by have := (Prod.mk.inj e).2; simp at this⟩
          rw [← (Prod.mk.inj e).1, ← Option.some.inj (Prod.mk.inj e).2]
          have ff := FrM_i (by omega) g3
          have hd : (told || decide (ch T L q = 115)) = told := by rw [decide_eq_false (show ¬ ch T L q = 115 by rw [h2.1]; decide), Bool.or_false]
          rw [hd]
          exact ⟨Y', rfl, DrM_o hD g3 g2, Fr_t fra ff.1, F5_t f5a ff.2, TxM_i hX1 (by omega) g3, by rw [g3 50 11 (by omega)]; exact g11⟩
      · have red2 : ∀ (A C : Option Tb), (if ch T L q = 111 then (if (4 : Int32) ≤ nI (D 0 4) then C else A) else C) = C := by
          intro A C
          by_cases e : ch T L q = 111
          · rw [if_pos e, if_pos (e4.mpr (by
              rcases Nat.lt_or_ge (D 0 4) 4 with e2 | e2
              · exact absurd ⟨e, e2⟩ h2
              · exact e2))]
          · rw [if_neg e]
        rw [red2, bad, cc1_n h0 h1 h2]
        refine ⟨fun r D' e => by have := (Prod.mk.inj e).2; simp at this, fun r e => ?_⟩
        rw [← (Prod.mk.inj e).1]
        exact ⟨_, rfl, FlD_F⟩
theorem crS_1 (h : cc1 T L told D (skp T L p) = (r, none)) : crS T L (m + 1) told D p = (r, none) := by rw [crS, h]
theorem crS_2 (h : cc1 T L told D (skp T L p) = (r, some D')) (h2 : L ≤ skp T L r) : crS T L (m + 1) told D p = if 0 < pap D' ∧ 0 < D' 0 4 then (skp T L r, some D') else (skp T L r, none) := by rw [crS, h]; dsimp only; rw [if_pos h2]
theorem crS_3 (h : cc1 T L told D (skp T L p) = (r, some D')) (h2 : ¬ L ≤ skp T L r) (h3 : ¬ ch T L (skp T L r) = 59) : crS T L (m + 1) told D p = (skp T L r, none) := by rw [crS, h]; dsimp only; rw [if_neg h2, if_neg h3]
theorem crS_4 (h : cc1 T L told D (skp T L p) = (r, some D')) (h2 : ¬ L ≤ skp T L r) (h3 : ch T L (skp T L r) = 59) : crS T L (m + 1) told D p = crS T L m (told || decide (ch T L (skp T L p) = 115)) D' (skp T L r + 1) := by rw [crS, h]; dsimp only; rw [if_neg h2, if_pos h3]
theorem c_pap_l (hD : DrC D X) (hO : OkD D) : ∀ n k, k ≤ D 0 3 → D 0 3 - k < n → fX1_countPapers_4 11 n (nI (sumTo (fun p => if sv D p 5 = 0 then 1 else 0) k)) (nI k) X = some (nI (pap D)) := by
  obtain ⟨o1', o2', o3', o4', _⟩ := id hO
  intro n
  induction n with
  | zero => intro k h1 h2; omega
  | succ n ih =>
    intro k h1 h2
    rw [fX1_countPapers_4, hD.1]
    unfold fX1_countPapers_23 fX1_hasPaper fX1_hasSleeper fX1_ofSleeper
    rw [hD.1, nI_1, nI_1]
    by_cases h3 : k = D 0 3
    · rw [if_pos (nI_le (by omega) (by omega)), h3]
      rfl
    · have hb := o4' k 5 (by omega) (by omega)
      have h9 : hiA (4 + 5) = 1 := rfl
      have e13 : X 13 (6 * k + 5) = nI (sv D k 5) := hD.2.2.2.1 _ (by omega)
      have ih' := ih (k + 1) (by omega) (by omega)
      rw [sumTo] at ih'
      rw [if_neg (nI_ge (by omega) (by omega)), if_neg (show ¬ nI k < 0 by rw [q0, mz_ltp (by omega) (by omega)]; omega), if_neg (nI_ge (by omega) (by omega)), mz_b1, if_neg (show ¬ (1 : Int32) = 0 by decide), q6, q5, mz_mul, nI_add, Nat.mul_comm k 6, if_pos (mz_in (by omega) (by omega)), nI_clamp (by omega), e13, mz_b1]
      have hsv : sv D k 5 ≤ 1 := hb
      by_cases h4 : sv D k 5 = 0
      · rw [if_pos h4] at ih'
        rw [if_pos (show nI (sv D k 5) = 0 by rw [h4]; rfl), mz_b1, if_neg (show ¬ (1 : Int32) = 0 by decide)]
        exact ih'
      · rw [if_neg h4] at ih'
        rw [if_neg (show ¬ nI (sv D k 5) = 0 by rw [q0, nI_eq (by omega) (by omega)]; exact h4), mz_b1, if_pos rfl]
        exact ih'
theorem pap_le : pap D ≤ D 0 3 * 1 := sumTo_le (fun z _ => by split <;> omega)
theorem c_pap (hD : DrC D X) (hO : OkD D) : fX1_countPapers 11 X = some (nI (pap D)) := by
  have := hO.1
  obtain ⟨fu, hfu, hfu2⟩ := fuel_g
  unfold fX1_countPapers
  rw [hfu]
  exact c_pap_l hD hO fu 0 (by omega) (by omega)
theorem DrC_p0 (h : DrC D X) : DrC D (pP X p) := by
  obtain ⟨h1, h2, h3, h4, h5⟩ := h
  exact ⟨by rw [pP_r (by omega)]; exact h1, by rw [pP_r (by omega)]; exact h2, by rw [pP_r (by omega)]; exact h3, by rw [pP_r (by omega)]; exact h4, by rw [pP_r (by omega)]; exact h5⟩
/-- the class reads a car -/
theorem c_cr_l (hT : OkT T L) : ∀ m n told D p X x, p ≤ L → L - p < n → L - p < m → x ≤ p → TaC T L X → DrC D X → OkD D →
    (∀ r D', crS T L m told D p = (r, some D') → ∃ X', fX1_read_31 11 n (if told = true then 1 else 0) (nI x) (pP X p) = some (1, pP X' r) ∧ DrC D' X' ∧ OkD D' ∧ 0 < pap D' ∧ 0 < D' 0 4 ∧ X' 11 5 = nI (pap D') ∧ Fr [11, 12, 13, 14] X X' ∧ r ≤ L) ∧ (∀ r, crS T L m told D p = (r, none) → ∃ X', fX1_read_31 11 n (if told = true then 1 else 0) (nI x) (pP X p) = some (0, pP X' r) ∧ Fr [11, 12, 13, 14] X X' ∧ r ≤ L) := by
  have hL := hT.1
  intro m
  induction m with
  | zero => intro n told D p X x h1 h2 h3; omega
  | succ m ih =>
    intro n told D p X x h1 h2 h3 h4 hX hD hO
    obtain ⟨n, rfl⟩ : ∃ n', n = n' + 1 := ⟨n - 1, by omega⟩
    have s1 := sk_ge (T := T) h1
    have s2 := sk_le (T := T) h1
    have k := c_cc1 (told := told) hT hX hD hO s2
    have et : ((if told = true then (1 : Int32) else 0) = 0) = (told = false) := by cases told <;> decide
    rw [fX1_read_31, if_neg (show ¬ (240 : Int32) < nI x by rw [q240, mz_ltp (by omega) (by omega)]; omega), c_ahead hT hX h1, mz_b2]
    unfold fX1_read_68
    rcases hc : cc1 T L told D (skp T L p) with ⟨r0, _ | D1⟩
    · obtain ⟨X', e1, e2, e3⟩ := k.2 _ hc
      rw [crS_1 hc, e1, mz_b2, if_pos rfl]
      refine ⟨fun r D' e => by have := (Prod.mk.inj e).2; simp at this, fun r e => ?_⟩
      rw [← (Prod.mk.inj e).1]
      exact ⟨X', rfl, e2, e3⟩
    · obtain ⟨X1, e1, e2, e3, e4, e5, e6⟩ := k.1 _ _ hc
      have t1 := sk_ge (T := T) e6
      have t2 := sk_le (T := T) e6
      have hX1 : TaC T L X1 := ⟨by rw [e4 1 (by decide)]; exact hX.1, by rw [e4 2 (by decide)]; exact hX.2⟩
      rw [e1, mz_b2, if_neg (show ¬ (1 : Int32) = 0 by decide)]
      have red : (if (if told = true then (1 : Int32) else 0) = 0 then (if ch T L (skp T L p) = 115 then fX1_read_73 11 (fX1_read_31 11 n) (nI x) 1 (pP X1 r0) else fX1_read_73 11 (fX1_read_31 11 n) (nI x) 0 (pP X1 r0)) else fX1_read_73 11 (fX1_read_31 11 n) (nI x) 1 (pP X1 r0)) = fX1_read_73 11 (fX1_read_31 11 n) (nI x) (if (told || decide (ch T L (skp T L p) = 115)) = true then 1 else 0) (pP X1 r0) := by
        cases told
        · by_cases e : ch T L (skp T L p) = 115
          · rw [if_pos (by decide), if_pos e, decide_eq_true e]; rfl
          · rw [if_pos (by decide), if_neg e, decide_eq_false e]; rfl
        · rw [if_neg (by decide)]; rfl
      rw [red]
      unfold fX1_read_73
      rw [c_ahead hT hX1 e6, mz_b2, qN1]
      by_cases h6 : L ≤ skp T L r0
      · have hpp := pap_le (D := D1)
        have ho1 := e3.1
        have ho2 := e3.2.1
        rw [if_pos ((ch_N hT).mpr h6), c_pap (DrC_p0 e2) e3, mz_b1, mz_lt, pP_c (by omega), pP_r (by omega), u2e, u2n _ _ _ _ _ (by omega), e2.2.1, crS_2 hc h6]
        have c1 : (nI (pap D1) ≤ 0) = (pap D1 ≤ 0) := by rw [q0, mz_le (by omega) (by omega)]
        have c2 : (nI (D1 0 4) ≤ 0) = (D1 0 4 ≤ 0) := by rw [q0, mz_le (by omega) (by omega)]
        have fr5 : Fr [11, 12, 13, 14] X (u2 X1 11 5 (nI (pap D1))) := Fr_t e4 (Fr_w (by decide) Fr_u)
        have bad : ¬ (0 < pap D1 ∧ 0 < D1 0 4) → (∀ r D', (if 0 < pap D1 ∧ 0 < D1 0 4 then (skp T L r0, some D1) else (skp T L r0, none)) = (r, some D') → ∃ X', some ((0 : Int32), pP (u2 X1 11 5 (nI (pap D1))) (skp T L r0)) = some (1, pP X' r) ∧ DrC D' X' ∧ OkD D' ∧ 0 < pap D' ∧ 0 < D' 0 4 ∧ X' 11 5 = nI (pap D') ∧ Fr [11, 12, 13, 14] X X' ∧ r ≤ L) ∧ (∀ r, (if 0 < pap D1 ∧ 0 < D1 0 4 then (skp T L r0, some D1) else (skp T L r0, none)) = (r, none) → ∃ X', some ((0 : Int32), pP (u2 X1 11 5 (nI (pap D1))) (skp T L r0)) = some (0, pP X' r) ∧ Fr [11, 12, 13, 14] X X' ∧ r ≤ L) := by
          intro hb
          rw [if_neg hb]
          refine ⟨fun r D' e => by have := (Prod.mk.inj e).2; simp at this, fun r e => ?_⟩
          rw [← (Prod.mk.inj e).1]
          exact ⟨_, rfl, fr5, t2⟩
        by_cases h7 : pap D1 ≤ 0
        · rw [if_pos (c1.mpr h7)]
          exact bad (by omega)
        · rw [if_neg (fun e => h7 (c1.mp e))]
          by_cases h8 : D1 0 4 ≤ 0
          · rw [if_pos (c2.mpr h8)]
            exact bad (by omega)
          · rw [if_neg (fun e => h8 (c2.mp e)), if_pos ⟨by omega, by omega⟩]
            refine ⟨fun r D' e => ?_, fun r e => by have := (Prod.mk.inj e).2; simp at this⟩
            rw [← (Prod.mk.inj e).1, ← Option.some.inj (Prod.mk.inj e).2]
            refine ⟨_, rfl, ?_, e3, by omega, by omega, u2e _ _ _ _, fr5, t2⟩
            obtain ⟨d1, d2, d3, d4, d5⟩ := e2
            exact ⟨by rw [u2n _ _ _ _ _ (by omega)]; exact d1, by rw [u2n _ _ _ _ _ (by omega)]; exact d2, by rw [u2r _ _ _ _ _ (by omega)]; exact d3, by rw [u2r _ _ _ _ _ (by omega)]; exact d4, by rw [u2r _ _ _ _ _ (by omega)]; exact d5⟩
      · rw [if_neg (fun e => h6 ((ch_N hT).mp e)), show (59 : Int32) = nI 59 from rfl, c_takes hT hX1 t2 (by omega), sk_id e6]
        by_cases h7 : ch T L (skp T L r0) = nI 59
        · have hlt := ch_skl (c := 59) (by omega) h7
          rw [if_pos h7, mz_b2, if_neg (show ¬ (1 : Int32) = 0 by decide), nI_1, crS_4 hc h6 h7]
          have kk := ih n (told || decide (ch T L (skp T L p) = 115)) D1 (skp T L r0 + 1) X1 (x + 1) (by omega) (by omega) (by omega) (by omega) hX1 e2 e3
          refine ⟨fun r D' e => ?_, fun r e => ?_⟩
          · obtain ⟨X', g1, g2, g3, g4, g5, g6, g7, g8⟩ := kk.1 r D' e
            exact ⟨X', g1, g2, g3, g4, g5, g6, Fr_t e4 g7, g8⟩
          · obtain ⟨X', g1, g2, g3⟩ := kk.2 r e
            exact ⟨X', g1, Fr_t e4 g2, g3⟩
        · rw [if_neg h7, mz_b2, if_pos rfl, crS_3 hc h6 h7]
          refine ⟨fun r D' e => by have := (Prod.mk.inj e).2; simp at this, fun r e => ?_⟩
          rw [← (Prod.mk.inj e).1]
          exact ⟨X1, rfl, e4, t2⟩
/-- before anything is read -/
def D0 : Nat → Nat → Nat := fun x k => if x = 1 then woA k else 0
theorem OkD_0 : OkD D0 := ⟨by decide, by decide, fun k hk => wo_hi k (by omega), fun p k hp => by exact absurd hp (by show ¬ p < 0; omega), fun o k ho => by exact absurd ho (by show ¬ o < 0; omega)⟩
theorem C_car (hT : OkT T L) (h : TaC T L i) : (∀ r D', crS T L 300 false D0 0 = (r, some D') → ∃ X', fX1_read 11 i = some (1, pP X' r) ∧ DrC D' X' ∧ OkD D' ∧ 0 < pap D' ∧ 0 < D' 0 4 ∧ X' 11 5 = nI (pap D') ∧ Fr [11, 12, 13, 14] i X' ∧ r ≤ L) ∧ (∀ r, crS T L 300 false D0 0 = (r, none) → ∃ X', fX1_read 11 i = some (0, pP X' r) ∧ Fr [11, 12, 13, 14] i X' ∧ r ≤ L) := by
  have hL := hT.1
  obtain ⟨fu, hfu, hfu2⟩ := fuel_g
  have c0 : (0 : Int32).toNatClampNeg = 0 := by decide
  have c4 : (4 : Int32).toNatClampNeg = 4 := by decide
  unfold fX1_read fX10_rewind
  rw [c0, c4, if_pos (by decide), mz_lt, mz_lt, mz_lt, mz_lt, mz_b1, hfu]
  generalize hI : u2 (u2 (cp2 i (fun k => (aTab 3).getD k 0) 0 (11 + 1) 0 4) 11 3 0) 11 4 0 = I
  have hfr : Fr [11, 12, 13, 14] i I := by
    rw [← hI]
    exact Fr_t (fun q hq => cp2r _ _ _ _ _ _ _ (by simp at hq; omega)) (Fr_t (Fr_w (by decide) Fr_u) (Fr_w (by decide) Fr_u))
  have hX : TaC T L I := ⟨by rw [hfr 1 (by decide)]; exact h.1, by rw [hfr 2 (by decide)]; exact h.2⟩
  have hD : DrC D0 I := by
    refine ⟨by rw [← hI, u2n _ _ _ _ _ (by omega), u2e]; rfl, by rw [← hI, u2e]; rfl, fun k hk => ?_, fun k hk => absurd hk (by show ¬ k < 6 * 0; omega), fun k hk => absurd hk (by show ¬ k < 4 * 0; omega)⟩
    rw [← hI, u2r _ _ _ _ _ (by omega), u2r _ _ _ _ _ (by omega), cp2s]
    have := va_g (fun k => (aTab 3).getD k 0) (i 12) 0 0 4 hk
    rw [Nat.zero_add] at this
    rw [this]
    exact (tab_v k (by omega)).2.2.1
  have k := c_cr_l hT 300 fu false D0 0 I 0 (by omega) (by omega) (by omega) (by omega) hX hD OkD_0
  refine ⟨fun r D' e => ?_, fun r e => ?_⟩
  · obtain ⟨X', g1, g2, g3, g4, g5, g6, g7, g8⟩ := k.1 r D' e
    exact ⟨X', g1, g2, g3, g4, g5, g6, Fr_t hfr g7, g8⟩
  · obtain ⟨X', g1, g2, g3⟩ := k.2 r e
    exact ⟨X', g1, Fr_t hfr g2, g3⟩
theorem m_who_l (hD : DrM told D Y) (hO : OkD D) : ∀ n k, k ≤ D 0 3 → D 0 3 - k < n → fX12_isWhole_4 n (if 0 < sumTo (fun p => if sv D p 5 = 0 then 1 else 0) k then 1 else 0) (nI k) Y = some (if 0 < pap D ∧ 0 < D 0 4 then 1 else 0) := by
  obtain ⟨o1', o2', o3', o4', _⟩ := id hO
  intro n
  induction n with
  | zero => intro k h1 h2; omega
  | succ n ih =>
    intro k h1 h2
    rw [fX12_isWhole_4, hD.1, hD.2.1]
    unfold fX12_isWhole_30 fX12_isWhole_35
    rw [nI_1]
    by_cases h3 : k = D 0 3
    · have c2 : (nI (D 0 4) ≤ 0) = (D 0 4 ≤ 0) := by rw [q0, mz_le (by omega) (by omega)]
      rw [if_pos (nI_le (by omega) (by omega)), h3]
      show (if (if 0 < pap D then (1 : Int32) else 0) = 0 then _ else _) = _
      by_cases h4 : 0 < pap D
      · rw [if_pos h4, if_neg (show ¬ (1 : Int32) = 0 by decide)]
        by_cases h5 : D 0 4 ≤ 0
        · rw [if_pos (c2.mpr h5), if_neg (by omega)]
        · rw [if_neg (fun e => h5 (c2.mp e)), if_pos (by omega)]
      · rw [if_neg h4, if_pos rfl, if_neg (fun e => h4 e.1)]
    · have hb : sv D k 5 ≤ 1 := o4' k 5 (by omega) (by omega)
      have e58 : Y 58 (6 * k + 5) = nI (sv D k 5) := hD.2.2.2.2.1 _ (by omega)
      have ih' := ih (k + 1) (by omega) (by omega)
      rw [sumTo] at ih'
      rw [if_neg (nI_ge (by omega) (by omega)), q6, q5, mz_mul, nI_add, if_pos (mz_in (by omega) (by omega)), nI_clamp (by omega), e58]
      generalize sumTo (fun p => if sv D p 5 = 0 then 1 else 0) k = S at *
      by_cases h5 : 0 < S
      · rw [if_pos h5, if_neg (show ¬ (1 : Int32) = 0 by decide)]
        rw [if_pos (by omega)] at ih'
        exact ih'
      · rw [if_neg h5, if_pos rfl]
        by_cases h4 : sv D k 5 = 0
        · rw [if_pos h4, if_pos (show 0 < S + 1 by omega)] at ih'
          rw [if_pos (show nI (sv D k 5) = 0 by rw [h4]; rfl)]
          exact ih'
        · rw [if_neg h4, if_neg (show ¬ 0 < S + 0 by omega)] at ih'
          rw [if_neg (show ¬ nI (sv D k 5) = 0 by rw [q0, nI_eq (by omega) (by omega)]; exact h4)]
          exact ih'
theorem m_who (hD : DrM told D Y) (hO : OkD D) : fX12_isWhole Y = some (if 0 < pap D ∧ 0 < D 0 4 then 1 else 0) := by
  have := hO.1
  obtain ⟨fu, hfu, hfu2⟩ := fuel_g
  unfold fX12_isWhole
  rw [hfu]
  exact m_who_l hD hO fu 0 (by omega) (by omega)
theorem DrM_p0 (h : DrM told D Y) : DrM told D (mP Y p) := by
  obtain ⟨h1, h2, h0, h3, h4, h5⟩ := h
  exact ⟨by rw [mP_n (by omega)]; exact h1, by rw [mP_n (by omega)]; exact h2, by rw [mP_n (by omega)]; exact h0, by rw [mP_r (by omega)]; exact h3, by rw [mP_r (by omega)]; exact h4, by rw [mP_r (by omega)]; exact h5⟩
theorem m_cr_l (hT : OkT T L) : ∀ m n told D p Y, p ≤ L → L - p + 1 < n → L - p < m → TxM T L B x Y rv → Y 50 11 = NN → DrM told D Y → OkD D →
    (∀ r D', crS T L m told D p = (r, some D') → ∃ Y' td, fX12_readCar_55 n 1 (mP Y p) rv = some (mP Y' r, rv) ∧ DrM td D' Y' ∧ Y' 50 11 = NN ∧ Fr [50, 56, 58, 60] Y Y' ∧ F5 [10, 11, 29, 30, 32] Y Y') ∧ (∀ r, crS T L m told D p = (r, none) → ∃ Y', fX12_readCar_55 n 1 (mP Y p) rv = some (Y', rv) ∧ FlD Y r Y') := by
  have hL := hT.1
  intro m
  induction m with
  | zero => intro n told D p Y h1 h2 h3; omega
  | succ m ih =>
    intro n told D p Y h1 h2 h3 hX h11 hD hO
    obtain ⟨n, rfl⟩ : ∃ n', n = n' + 1 := ⟨n - 1, by omega⟩
    have k := m_cc1 hT hX h11 hD hO h1
    have kc := c_cc1 (told := told) (X := u2 (u2 (u2 (fun a k => if a = 2 then nI (T k) else if a = 12 then nI (D 1 k) else if a = 13 then nI (D 2 k) else nI (D 3 k)) 11 3 (nI (D 0 3))) 11 4 (nI (D 0 4))) 1 1 (nI L)) (q := skp T L p) hT ⟨u2e _ _ _ _, fun k hk => by rw [u2r _ _ _ _ _ (by omega), u2r _ _ _ _ _ (by omega), u2r _ _ _ _ _ (by omega)]; rfl⟩ ⟨by rw [u2r _ _ _ _ _ (by omega), u2n _ _ _ _ _ (by omega), u2e], by rw [u2r _ _ _ _ _ (by omega), u2e], fun k hk => by rw [u2r _ _ _ _ _ (by omega), u2r _ _ _ _ _ (by omega), u2r _ _ _ _ _ (by omega)]; rfl, fun k hk => by rw [u2r _ _ _ _ _ (by omega), u2r _ _ _ _ _ (by omega), u2r _ _ _ _ _ (by omega)]; rfl, fun k hk => by rw [u2r _ _ _ _ _ (by omega), u2r _ _ _ _ _ (by omega), u2r _ _ _ _ _ (by omega)]; rfl⟩ hO (sk_le h1)
    obtain ⟨n2, rfl⟩ : ∃ n2, n = n2 + 1 := ⟨n - 1, by omega⟩
    rw [fX12_readCar_55, if_neg (show ¬ (1 : Int32) = 0 by decide), mP_n (by omega), h11, if_pos qN1.symm]
    rcases hc : cc1 T L told D (skp T L p) with ⟨r0, _ | D1⟩
    · obtain ⟨Y', e1, e2⟩ := k.2 _ hc
      obtain ⟨_, _, _, hr0⟩ := kc.2 _ hc
      have hne : ¬ Y' 50 11 = NN := by rw [e2.1, mz_nm (by omega)]; exact fun e => e
      rw [crS_1 hc, e1, mz_b1, if_neg (by rw [qN1]; exact hne)]
      unfold fX12_readCar_92 fX12_readCar_93
      rw [if_pos rfl, fX12_readCar_55, if_pos rfl]
      unfold fX12_readCar_111
      rw [if_neg (by rw [qN1]; exact hne)]
      refine ⟨fun r D' e => by have := (Prod.mk.inj e).2; simp at this, fun r e => ?_⟩
      rw [← (Prod.mk.inj e).1]
      exact ⟨Y', rfl, e2⟩
    · obtain ⟨Y1, e1, e2, e3, e4, e5, e6⟩ := k.1 _ _ hc
      obtain ⟨_, _, _, hO1, _, _, hr0⟩ := kc.1 _ _ hc
      have t1 := sk_ge (T := T) hr0
      have t2 := sk_le (T := T) hr0
      rw [e1, mz_b1, mP_n (by omega), e6, if_pos qN1.symm, m_look hT e5 hr0, mz_b2]
      unfold fX12_readCar_92 fX12_readCar_93
      by_cases h7 : ch T L (skp T L r0) = 59
      · have hlt := ch_skl (c := 59) (by omega) h7
        obtain ⟨b1, b2, b3, b4, b5, b6⟩ : True ∧ True ∧ True ∧ True ∧ True ∧ True := ⟨trivial, trivial, trivial, trivial, trivial, trivial⟩
        have hgt : p < r0 := by
          have := sk_ge (T := T) h1
          obtain ⟨_, _, _, _, _, hh, _⟩ := kc.1 _ _ hc
          omega
        rw [if_pos h7, if_neg (show ¬ (1 : Int32) = 0 by decide), mz_lt, mP_at, show nI (skp T L r0) + 1 = nI (skp T L r0 + 1) from nI_1 _, mP_2, crS_4 hc (by omega) h7]
        have kk := ih (n2 + 1) (told || decide (ch T L (skp T L p) = 115)) D1 (skp T L r0 + 1) Y1 (by omega) (by omega) (by omega) e5 e6 e2 hO1
        refine ⟨fun r D' e => ?_, fun r e => ?_⟩
        · obtain ⟨Y', td, g1, g2, g3, g4, g5⟩ := kk.1 r D' e
          exact ⟨Y', td, g1, g2, g3, Fr_t e3 g4, F5_t e4 g5⟩
        · obtain ⟨Y', g1, g2⟩ := kk.2 r e
          exact ⟨Y', g1, FlD_t e3 e4 g2⟩
      · rw [if_neg h7, if_pos rfl, fX12_readCar_55, if_pos rfl]
        unfold fX12_readCar_111 fX12_readCar_134
        rw [mP_n (by omega), e6, if_pos qN1.symm, m_look hT e5 t2, sk_id hr0, mz_b2, qN1, m_who (DrM_p0 e2) hO1, mz_b1, m_fails e6, mz_b2]
        by_cases h6 : L ≤ skp T L r0
        · rw [if_pos ((ch_N hT).mpr h6), crS_2 hc h6]
          by_cases h8 : 0 < pap D1 ∧ 0 < D1 0 4
          · rw [if_pos h8, if_pos h8, if_neg (show ¬ (1 : Int32) = 0 by decide)]
            refine ⟨fun r D' e => ?_, fun r e => by have := (Prod.mk.inj e).2; simp at this⟩
            rw [← (Prod.mk.inj e).1, ← Option.some.inj (Prod.mk.inj e).2]
            exact ⟨Y1, _, rfl, e2, e6, e3, e4⟩
          · rw [if_neg h8, if_neg h8, if_pos rfl]
            refine ⟨fun r D' e => by have := (Prod.mk.inj e).2; simp at this, fun r e => ?_⟩
            rw [← (Prod.mk.inj e).1]
            exact ⟨_, rfl, FlD_t e3 e4 FlD_F⟩
        · rw [if_neg (fun e => h6 ((ch_N hT).mp e)), crS_3 hc h6 h7]
          refine ⟨fun r D' e => by have := (Prod.mk.inj e).2; simp at this, fun r e => ?_⟩
          rw [← (Prod.mk.inj e).1]
          exact ⟨_, rfl, FlD_t e3 e4 FlD_F⟩
theorem us_v : ∀ k, k < 4 → fX12_usual 115 (nI k) = some (nI (woA k)) := by decide +kernel
theorem m_us (hT : OkT T L) : ∀ n k Y, k ≤ 4 → 4 - k < n → (∀ z, z < k → Y 56 z = nI (woA z)) → ∃ Y', fX12_readCar_30 n (nI k) Y rv = fX12_readCar_55 fuel 1 Y' rv ∧ (∀ z, z < 4 → Y' 56 z = nI (woA z)) ∧ Fr [56] Y Y' := by
  intro n
  induction n with
  | zero => intro k Y h1 h2; omega
  | succ n ih =>
    intro k Y h1 h2 hV
    rw [fX12_readCar_30]
    by_cases h3 : k = 4
    · rw [h3] at hV
      rw [if_pos (show (4 : Int32) ≤ nI k by rw [h3]; decide)]
      exact ⟨Y, rfl, hV, Fr_r _ _⟩
    · rw [if_neg (show ¬ (4 : Int32) ≤ nI k by rw [q4, mz_le (by omega) (by omega)]; omega), us_v k (by omega), mz_b1, if_pos (mz_in (by omega) (by omega)), mz_lt, nI_clamp (by omega), nI_1]
      obtain ⟨Y', g1, g2, g3⟩ := ih (k + 1) (u2 Y 56 k (nI (woA k))) (by omega) (by omega) (fun z hz => by
        by_cases e : z = k
        · rw [e, u2e]
        · rw [u2n _ _ _ _ _ e]; exact hV z (by omega))
      exact ⟨Y', g1, g2, Fr_t Fr_u g3⟩
theorem M_car (hT : OkT T L) (h : TaM T L j) : (∀ r D', crS T L 300 false D0 0 = (r, some D') → ∃ Y' td, fX12_readCar j rv = some (mP Y' r, u2 rv 50 5 (some (100 + 51))) ∧ DrM td D' Y' ∧ Y' 50 11 = NN ∧ Fr [50, 56, 58, 60] j Y' ∧ F5 [8, 9, 10, 11, 29, 30, 32] j Y') ∧ (∀ r, crS T L 300 false D0 0 = (r, none) → ∃ Y', fX12_readCar j rv = some (Y', u2 rv 50 5 (some (100 + 51))) ∧ Y' 50 11 = nI r ∧ Fr [50, 56, 58, 60] j Y' ∧ F5 [8, 9, 10, 11, 29, 30, 32] j Y') := by
  have hL := hT.1
  have hX := TxM_st (rv := rv) (j := j) (B := 0) (L := L) (T := T) (w := 51) (Or.inl rfl) (by show 0 + L ≤ 240; omega) (fun k hk => by rw [Nat.zero_add]; exact h.2 k hk)
  obtain ⟨fu, hfu, hfu2⟩ := fuel_g
  unfold fX12_readCar
  rw [h.1, show (0 : Int32) = nI 0 from rfl, m_starts, mz_b2, mz_lt, mz_lt, mz_lt]
  obtain ⟨Y0, g1, g2, g3⟩ := m_us (rv := u2 rv 50 5 (some (100 + 51))) hT fu 0 (u2 (u2 (u2 (stM j 0 L) 50 29 (nI 0)) 50 30 (nI 0)) 50 32 (nI 0)) (by omega) (by omega) (fun z hz => by omega)
  rw [hfu] at g1 ⊢
  rw [g1]
  have hX0 : TxM T L 0 51 Y0 (u2 rv 50 5 (some (100 + 51))) := TxM_r (TxM_u (TxM_u (TxM_u hX (by omega)) (by omega)) (by omega)) g3 (by omega)
  have e50 : Y0 50 = u2 (u2 (u2 (stM j 0 L) 50 29 (nI 0)) 50 30 (nI 0)) 50 32 (nI 0) 50 := g3 50 (by decide)
  have h11 : Y0 50 11 = NN := by rw [e50]; rfl
  have h10 : Y0 50 10 = nI 0 := by rw [e50]; rfl
  have hD : DrM false D0 Y0 := ⟨by rw [e50]; rfl, by rw [e50]; rfl, by rw [e50]; rfl, g2, fun k hk => absurd hk (by show ¬ k < 6 * 0; omega), fun k hk => absurd hk (by show ¬ k < 4 * 0; omega)⟩
  have fr0 : Fr [50, 56, 58, 60] j Y0 := Fr_t (Fr_w (by decide) stM_fr.1) (Fr_t (Fr_w (by decide) (Fr_t Fr_u (Fr_t Fr_u Fr_u))) (Fr_w (by decide) g3))
  have f50 : F5 [8, 9, 10, 11, 29, 30, 32] j Y0 := F5_t (F5_w (by decide) stM_fr.2) (F5_t (F5_w (l := [29]) (by decide) F5_u) (F5_t (F5_w (l := [30]) (by decide) F5_u) (F5_t (F5_w (l := [32]) (by decide) F5_u) (fun k _ => by rw [g3 50 (by decide)]))))
  have k := m_cr_l (rv := u2 rv 50 5 (some (100 + 51))) hT 300 fu false D0 0 Y0 (by omega) (by omega) (by omega) hX0 h11 hD OkD_0
  rw [mP_i h10] at k
  refine ⟨fun r D' e => ?_, fun r e => ?_⟩
  · obtain ⟨Y', td, a1, a2, a3, a4, a5⟩ := k.1 r D' e
    exact ⟨Y', td, a1, a2, a3, Fr_t fr0 a4, F5_t f50 (F5_w (by decide) a5)⟩
  · obtain ⟨Y', a1, a2, a3, a4⟩ := k.2 r e
    exact ⟨Y', a1, a2, Fr_t fr0 a3, F5_t f50 (F5_w (by decide) a4)⟩
end CD
