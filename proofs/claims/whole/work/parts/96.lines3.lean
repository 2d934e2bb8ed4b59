/-! lines: the model reads a step; whole lines on both sides -/
section LN3
variable {X X' X'' i i' Y Y' j j' : Tb} {rv : Nat → Nat → Option Nat} {T : Nat → Nat} {L B w a p q r n d e m k c z f kd u : Nat} {v : Int32} {s : SP} {ss : List SP}
theorem m_digit (hT : OkT T L) (h : TxM T L B w Y rv) (h11 : Y 50 11 = NN) (hp : p ≤ L) (hu : u ≤ 9) : fX12_digit (nI u) (mP Y p) rv = if dgt T L (skp T L p) = true ∧ T (skp T L p) - 48 ≤ u then some (nI (T (skp T L p) - 48), mP Y (skp T L p + 1)) else some (0, mF Y (skp T L p)) := by
  have s2 := sk_le (T := T) hp
  have hL := hT.1
  unfold fX12_digit fX12_digit_20
  rw [m_look hT h hp, mz_b2, m_isDigit hT h s2, mz_b1]
  by_cases h1 : dgt T L (skp T L p) = true
  · have h1' := dgt_of h1
    have e : (nI (T (skp T L p) - 48) ≤ nI u) = (T (skp T L p) - 48 ≤ u) := mz_le (by omega) (by omega)
    rw [if_pos h1, if_neg (show ¬ (1 : Int32) = 0 by decide), ch_in h1'.1, q48, mz_sub (by omega)]
    by_cases h2 : T (skp T L p) - 48 ≤ u
    · rw [if_pos (e.mpr h2), if_pos ⟨h1, h2⟩, mz_lt, mP_at, q1, nI_add, mP_2]
    · rw [if_neg (fun x => h2 (e.mp x)), if_neg (fun x => h2 x.2), m_fails h11, mz_b2]
  · rw [if_neg h1, if_pos rfl, if_neg (fun x => h1 x.1), m_fails h11, mz_b2]
/-- a fault while lines are read: rows 50 and 61 alone -/
def FlL (Y : Tb) (r : Nat) (Y' : Tb) : Prop := Y' 50 11 = nI r ∧ Fr [50, 61, 62] Y Y' ∧ F5 [10, 11] Y Y' ∧ (∀ k, k < 192 → Y' 61 k = Y 61 k) ∧ (∀ k, k < 4 → Y' 62 k = Y 62 k)
theorem mF_u (h : q ≠ 50) : u2 (mF Y p) q k v = mF (u2 Y q k v) p := by
  unfold mF mP
  rw [u2_c _ (nI p) v (show 50 ≠ q ∨ 11 ≠ k by omega), u2_c Y (nI p) v (show 50 ≠ q ∨ 10 ≠ k by omega)]
theorem FlL_F (h : Fr [61] Y Y') (h2 : ∀ k, k < 192 → Y' 61 k = Y 61 k) : FlL Y r (mF Y' r) := by
  have e : ∀ q, q ≠ 50 → mF Y' r q = Y' q := fun q hq => by
    unfold mF mP
    rw [u2r _ _ _ _ _ hq, u2r _ _ _ _ _ hq]
  refine ⟨mF_11, fun q hq => ?_, fun k hk => ?_, fun k hk => by rw [e 61 (by omega)]; exact h2 k hk, fun k hk => by rw [e 62 (by omega), h 62 (by decide)]⟩
  · rw [e q (fun e => hq (by simp [e])), h q (fun e => hq (by simp at e; simp [e]))]
  · unfold mF mP
    rw [u2n _ _ _ _ _ (fun e => hk (by simp [e])), u2n _ _ _ _ _ (fun e => hk (by simp [e])), h 50 (by decide)]
theorem m_stp (hT : OkT T L) (hX : TxM T L B w Y rv) (h11 : Y 50 11 = NN) (hp : p ≤ L) (hf : f + 2 < 240) (hf2 : 192 ≤ f) :
    (∀ r s, stS T L p = (r, some s) → fX12_readStep (nI f) (mP Y p) rv = some (mP (wS Y 61 f s) r)) ∧ (∀ r, stS T L p = (r, none) → ∃ Y', fX12_readStep (nI f) (mP Y p) rv = some Y' ∧ FlL Y r Y') := by
  have hL := hT.1
  have s1 := sk_ge (T := T) hp
  have s2 := sk_le (T := T) hp
  have len3 : aLen.getD 3 0 = 6 := by decide +kernel
  unfold fX12_readStep stS
  rw [m_look hT hX hp, mz_b2, m_spotOf (by omega), len3, mz_b1, qN1]
  cases hz : fnC (fun z => aCh 3 (nI z)) (ch T L (skp T L p)) 6 0 with
  | none =>
    rw [if_pos (show oI none = NN from rfl), m_fails h11, mz_b2]
    refine ⟨fun r s e => by have := (Prod.mk.inj e).2; simp at this, fun r e => ?_⟩
    rw [← (Prod.mk.inj e).1]
    exact ⟨_, rfl, FlL_F (Fr_r _ _) (fun _ _ => rfl)⟩
  | some kd =>
    obtain ⟨hlt, hk6⟩ := kd_lt hz
    have s3 := sk_ge (T := T) (L := L) (p := skp T L p + 1) (by omega)
    have s4 := sk_le (T := T) (L := L) (p := skp T L p + 1) (by omega)
    have hX1 : TxM T L B w (u2 Y 61 f (nI kd)) rv := TxM_u hX (by omega)
    have g11 : ∀ v, u2 Y 61 f v 50 11 = NN := fun v => by rw [u2r _ _ _ _ _ (by omega)]; exact h11
    have e1 : nI f + 1 = nI (f + 1) := nI_1 f
    have e2 : nI f + 2 = nI (f + 2) := by rw [q2, nI_add]
    rw [if_neg (show ¬ oI (some kd) = NN by show ¬ nI kd = NN; rw [mz_nm (by omega)]; exact fun e => e), mz_lt, mP_at, show nI (skp T L p) + 1 = nI (skp T L p + 1) from nI_1 _, mP_2, if_pos (mz_in (by omega) (by omega)), mz_lt, nI_clamp (by omega), mP_c (by omega), show oI (some kd) = nI kd from rfl, show (9 : Int32) = nI 9 from rfl, m_digit hT hX1 (g11 _) (by omega) (by omega), e1, e2]
    dsimp only
    generalize hq1 : skp T L (skp T L p + 1) = q1 at *
    by_cases h1 : dgt T L q1 = true
    · have h1' := dgt_of h1
      have s5 := sk_ge (T := T) (L := L) (p := q1 + 1) (by omega)
      have s6 := sk_le (T := T) (L := L) (p := q1 + 1) (by omega)
      rw [if_pos (show dgt T L q1 = true ∧ T q1 - 48 ≤ 9 from ⟨h1, by omega⟩), if_pos h1, mz_b2, if_pos (mz_in (by omega) (by omega)), mz_lt, if_pos (mz_in (by omega) (by omega)), mz_lt, nI_clamp (by omega), nI_clamp (by omega), mP_c (by omega), mP_c (by omega), mP_n (by omega), u2r _ _ _ _ _ (show (50 : Nat) ≠ 61 by omega), u2r _ _ _ _ _ (show (50 : Nat) ≠ 61 by omega), g11, if_pos (show NN = NN from rfl)]
      have hX2 : TxM T L B w (u2 (u2 (u2 Y 61 f (nI kd)) 61 (f + 1) (nI (T q1 - 48))) 61 (f + 2) NN) rv := TxM_u (TxM_u hX1 (by omega)) (by omega)
      have g2 : u2 (u2 (u2 Y 61 f (nI kd)) 61 (f + 1) (nI (T q1 - 48))) 61 (f + 2) NN 50 11 = NN := by rw [u2r _ _ _ _ _ (by omega), u2r _ _ _ _ _ (by omega)]; exact g11 _
      have k80 : (∀ r s, (if dgt T L (skp T L (q1 + 1)) = true ∧ (kd = 1 → T (skp T L (q1 + 1)) - 48 ≤ 2) then (skp T L (q1 + 1) + 1, some ((kd, T q1 - 48, some (T (skp T L (q1 + 1)) - 48)) : SP)) else (skp T L (q1 + 1), none)) = (r, some s) → fX12_readStep_80 (nI f) (nI kd) (mP (u2 (u2 (u2 Y 61 f (nI kd)) 61 (f + 1) (nI (T q1 - 48))) 61 (f + 2) NN) (q1 + 1)) rv = some (mP (wS Y 61 f s) r)) ∧ (∀ r, (if dgt T L (skp T L (q1 + 1)) = true ∧ (kd = 1 → T (skp T L (q1 + 1)) - 48 ≤ 2) then (skp T L (q1 + 1) + 1, some ((kd, T q1 - 48, some (T (skp T L (q1 + 1)) - 48)) : SP)) else (skp T L (q1 + 1), none)) = (r, none) → ∃ Y', fX12_readStep_80 (nI f) (nI kd) (mP (u2 (u2 (u2 Y 61 f (nI kd)) 61 (f + 1) (nI (T q1 - 48))) 61 (f + 2) NN) (q1 + 1)) rv = some Y' ∧ FlL Y r Y') := by
        have e1k : (nI kd = 1) = (kd = 1) := by rw [qONE, mz_eq (by omega) (by omega)]
        have key : ∀ u, u ≤ 9 → (kd = 1 → u = 2) → (kd ≠ 1 → u = 9) → (∀ r s, (if dgt T L (skp T L (q1 + 1)) = true ∧ (kd = 1 → T (skp T L (q1 + 1)) - 48 ≤ 2) then (skp T L (q1 + 1) + 1, some ((kd, T q1 - 48, some (T (skp T L (q1 + 1)) - 48)) : SP)) else (skp T L (q1 + 1), none)) = (r, some s) → fX12_readStep_99 (nI (f + 2)) (nI u) (mP (u2 (u2 (u2 Y 61 f (nI kd)) 61 (f + 1) (nI (T q1 - 48))) 61 (f + 2) NN) (q1 + 1)) rv = some (mP (wS Y 61 f s) r)) ∧ (∀ r, (if dgt T L (skp T L (q1 + 1)) = true ∧ (kd = 1 → T (skp T L (q1 + 1)) - 48 ≤ 2) then (skp T L (q1 + 1) + 1, some ((kd, T q1 - 48, some (T (skp T L (q1 + 1)) - 48)) : SP)) else (skp T L (q1 + 1), none)) = (r, none) → ∃ Y', fX12_readStep_99 (nI (f + 2)) (nI u) (mP (u2 (u2 (u2 Y 61 f (nI kd)) 61 (f + 1) (nI (T q1 - 48))) 61 (f + 2) NN) (q1 + 1)) rv = some Y' ∧ FlL Y r Y') := by
          intro u hu hu1 hu2
          unfold fX12_readStep_99
          rw [m_digit hT hX2 g2 (by omega) hu]
          generalize hq2 : skp T L (q1 + 1) = q2 at *
          have hcond : (dgt T L q2 = true ∧ T q2 - 48 ≤ u) ↔ (dgt T L q2 = true ∧ (kd = 1 → T q2 - 48 ≤ 2)) := by
            constructor
            · intro e
              exact ⟨e.1, fun e1 => by have := hu1 e1; omega⟩
            · intro e
              refine ⟨e.1, ?_⟩
              have := dgt_of e.1
              by_cases e1 : kd = 1
              · have := e.2 e1
                have := hu1 e1
                omega
              · have := hu2 e1
                omega
          by_cases h2 : dgt T L q2 = true ∧ (kd = 1 → T q2 - 48 ≤ 2)
          · rw [if_pos (hcond.mpr h2), if_pos h2, mz_b2, if_pos (mz_in (by omega) (by omega)), mz_lt, nI_clamp (by omega), mP_c (by omega), u2_2]
            refine ⟨fun r s e => ?_, fun r e => by have := (Prod.mk.inj e).2; simp at this⟩
            rw [← (Prod.mk.inj e).1, ← Option.some.inj (Prod.mk.inj e).2]
            rfl
          · rw [if_neg (fun e => h2 (hcond.mp e)), if_neg h2, mz_b2, if_pos (mz_in (by omega) (by omega)), mz_lt, nI_clamp (by omega), mF_u (by omega), u2_2]
            refine ⟨fun r s e => by have := (Prod.mk.inj e).2; simp at this, fun r e => ?_⟩
            rw [← (Prod.mk.inj e).1]
            refine ⟨_, rfl, FlL_F (Fr_t Fr_u (Fr_t Fr_u Fr_u)) (fun k hk => ?_)⟩
            rw [u2n _ _ _ _ _ (by omega), u2n _ _ _ _ _ (by omega), u2n _ _ _ _ _ (by omega)]
        unfold fX12_readStep_80
        rw [e2]
        by_cases h4 : kd = 1
        · rw [if_pos (e1k.mpr h4)]
          exact key 2 (by omega) (fun _ => rfl) (fun e => absurd h4 e)
        · rw [if_neg (fun e => h4 (e1k.mp e))]
          exact key 9 (by omega) (fun e => absurd e h4) (fun _ => rfl)
      have d2 : (nI kd < 2) = (kd < 2) := by rw [qTWO, mz_ltp (by omega) (by omega)]
      have d4 : (nI kd = 4) = (kd = 4) := by rw [q4, mz_eq (by omega) (by omega)]
      by_cases h3 : kd = 0 ∨ kd = 1 ∨ kd = 4
      · have red : ∀ (A C : Option Tb), (if nI kd < 2 then A else if nI kd = 4 then A else C) = A := by
          intro A C
          by_cases e : kd < 2
          · rw [if_pos (d2.mpr e)]
          · rw [if_neg (fun h => e (d2.mp h)), if_pos (d4.mpr (by omega))]
        rw [red, if_pos h3]
        exact k80
      · rw [if_neg (show ¬ nI kd < 2 from fun h => by have := d2.mp h; omega), if_neg (show ¬ nI kd = 4 from fun h => by have := d4.mp h; omega), if_neg h3]
        refine ⟨fun r s e => ?_, fun r e => by have := (Prod.mk.inj e).2; simp at this⟩
        rw [← (Prod.mk.inj e).1, ← Option.some.inj (Prod.mk.inj e).2]
        rfl
    · rw [if_neg (show ¬ (dgt T L q1 = true ∧ T q1 - 48 ≤ 9) from fun e => h1 e.1), if_neg h1, mz_b2, if_pos (mz_in (by omega) (by omega)), mz_lt, if_pos (mz_in (by omega) (by omega)), mz_lt, nI_clamp (by omega), nI_clamp (by omega), mF_u (by omega), mF_u (by omega), mF_11, if_neg (show ¬ nI q1 = NN by rw [mz_nm (by omega)]; exact fun e => e)]
      refine ⟨fun r s e => by have := (Prod.mk.inj e).2; simp at this, fun r e => ?_⟩
      rw [← (Prod.mk.inj e).1]
      refine ⟨_, rfl, FlL_F (Fr_t Fr_u (Fr_t Fr_u Fr_u)) (fun k hk => ?_)⟩
      rw [u2n _ _ _ _ _ (by omega), u2n _ _ _ _ _ (by omega), u2n _ _ _ _ _ (by omega)]
theorem lnS_1 (h : stS T L p = (r, none)) : lnS T L (m + 1) p = (r, none) := by rw [lnS, h]
theorem lnS_2 (h : stS T L p = (r, some s)) (h2 : L ≤ skp T L r) : lnS T L (m + 1) p = (skp T L r, some [s]) := by rw [lnS, h]; dsimp only; rw [if_pos h2]
theorem lnS_3 (h : stS T L p = (r, some s)) (h2 : ¬ L ≤ skp T L r) (h3 : m = 0 ∨ ¬ ch T L (skp T L r) = 59) : lnS T L (m + 1) p = (skp T L r, none) := by rw [lnS, h]; dsimp only; rw [if_neg h2, if_pos h3]
theorem lnS_4 (h : stS T L p = (r, some s)) (h2 : ¬ L ≤ skp T L r) (h3 : ¬ (m = 0 ∨ ¬ ch T L (skp T L r) = 59)) (h4 : lnS T L m (skp T L r + 1) = (q, none)) : lnS T L (m + 1) p = (q, none) := by rw [lnS, h]; dsimp only; rw [if_neg h2, if_neg h3, h4]
theorem lnS_5 (h : stS T L p = (r, some s)) (h2 : ¬ L ≤ skp T L r) (h3 : ¬ (m = 0 ∨ ¬ ch T L (skp T L r) = 59)) (h4 : lnS T L m (skp T L r + 1) = (q, some ss)) : lnS T L (m + 1) p = (q, some (s :: ss)) := by rw [lnS, h]; dsimp only; rw [if_neg h2, if_neg h3, h4]
/-- the class reads lines -/
def FrN (a : Nat) (X X' : Tb) : Prop := ∀ q k, q ≠ a + 1 → ¬ (q = a ∧ k = 1) → X' q k = X q k
theorem FrN_t (h : FrN a X X') (h' : FrN a X' X'') : FrN a X X'' := fun q k h1 h2 => (h' q k h1 h2).trans (h q k h1 h2)
theorem FrN_r (h : Fr [a + 1] X X') : FrN a X X' := fun q k h1 _ => by rw [h q (by simp; exact h1)]
theorem FrN_u : FrN a X (u2 X a 1 v) := fun q k h1 h2 => u2o _ _ (by omega)
theorem TaC_n (ha : 2 < a) (h : TaC T L X) (hf : FrN a X X') : TaC T L X' := ⟨by rw [hf 1 1 (by omega) (by omega)]; exact h.1, fun k hk => by rw [hf 2 k (by omega) (by omega)]; exact h.2 k hk⟩
theorem wC_fr : ∀ ss X k, FrN a X (wC a X k ss) := by
  intro ss
  induction ss with
  | nil => intro X k; exact fun _ _ _ _ => rfl
  | cons s ss ih => intro X k; exact FrN_t (FrN_t (FrN_r wS_fr) FrN_u) (ih _ _)
theorem c_ln_l (hT : OkT T L) (ha : 2 < a) : ∀ m n X k p, m + k = 16 → m < n → p ≤ L → TaC T L X → X a 1 = nI k →
    (∀ r ss, lnS T L m p = (r, some ss) → fX5_read_9 a n (pP X p) = some (1, pP (wC a X k ss) r) ∧ r ≤ L) ∧ (∀ r, lnS T L m p = (r, none) → 0 < m → (∃ X', fX5_read_9 a n (pP X p) = some (0, pP X' r) ∧ FrN a X X') ∧ r ≤ L) := by
  have hL := hT.1
  intro m
  induction m with
  | zero =>
    intro n X k p h1 h2 hp hX hk
    exact ⟨fun r ss e => by rw [lnS] at e; have := (Prod.mk.inj e).2; simp at this, fun r e h => by omega⟩
  | succ m ih =>
    intro n X k p h1 h2 hp hX hk
    obtain ⟨n, rfl⟩ : ∃ n', n = n' + 1 := ⟨n - 1, by omega⟩
    have kk := c_stp (f := 3 * k) hT ha hX hp (by omega)
    have e16 : (16 : Int32) = nI 16 := rfl
    rw [fX5_read_9, pP_r (by omega), hk, e16, if_neg (nI_ge (by omega) (by omega)), q3, mz_mul, Nat.mul_comm k 3, qN1]
    rcases hs : stS T L p with ⟨r0, _ | s⟩
    · obtain ⟨⟨X', e1, e2⟩, e3⟩ := kk.2 _ hs
      rw [lnS_1 hs, e1, mz_b2, if_pos rfl]
      refine ⟨fun r ss e => by have := (Prod.mk.inj e).2; simp at this, fun r e _ => ?_⟩
      rw [← (Prod.mk.inj e).1]
      exact ⟨⟨X', rfl, FrN_r e2⟩, e3⟩
    · obtain ⟨e1, b1, b2, b3⟩ := kk.1 _ _ hs
      have t1 := sk_ge (T := T) b2
      have t2 := sk_le (T := T) b2
      have f1 : FrN a X (u2 (wS X (a + 1) (3 * k) s) a 1 (nI (k + 1))) := FrN_t (FrN_r wS_fr) FrN_u
      have hX1 := TaC_n ha hX f1
      have hk1 : u2 (wS X (a + 1) (3 * k) s) a 1 (nI (k + 1)) a 1 = nI (k + 1) := u2e _ _ _ _
      have ekw : wS X (a + 1) (3 * k) s a 1 = nI k := by rw [wS_fr a (by simp)]; exact hk
      rw [e1, mz_b2, if_neg (show ¬ (1 : Int32) = 0 by decide), mz_lt, pP_r (by omega), ekw, q1, nI_add, pP_c (by omega), c_ahead hT hX1 b2, mz_b2]
      by_cases h6 : L ≤ skp T L r0
      · rw [if_pos ((ch_N hT).mpr h6), lnS_2 hs h6]
        refine ⟨fun r ss e => ?_, fun r e => by have := (Prod.mk.inj e).2; simp at this⟩
        rw [← (Prod.mk.inj e).1, ← Option.some.inj (Prod.mk.inj e).2]
        exact ⟨rfl, t2⟩
      · rw [if_neg (fun e => h6 ((ch_N hT).mp e)), pP_r (by omega), hk1]
        by_cases h7 : m = 0
        · rw [if_pos (show nI (k + 1) = nI 16 by rw [show k + 1 = 16 by omega]), lnS_3 hs h6 (Or.inl h7)]
          refine ⟨fun r ss e => by have := (Prod.mk.inj e).2; simp at this, fun r e _ => ?_⟩
          rw [← (Prod.mk.inj e).1]
          exact ⟨⟨_, rfl, f1⟩, t2⟩
        · rw [if_neg (show ¬ nI (k + 1) = nI 16 by rw [nI_eq (by omega) (by omega)]; omega), show (59 : Int32) = nI 59 from rfl, c_takes hT hX1 t2 (by omega), sk_id b2]
          by_cases h8 : ch T L (skp T L r0) = nI 59
          · have hlt := ch_skl (c := 59) (by omega) h8
            have hn : ¬ (m = 0 ∨ ¬ ch T L (skp T L r0) = 59) := fun e => e.elim h7 (fun e => e h8)
            have ik := ih n _ (k + 1) (skp T L r0 + 1) (by omega) (by omega) (by omega) hX1 hk1
            rw [if_pos h8, mz_b2, if_neg (show ¬ (1 : Int32) = 0 by decide)]
            rcases h9 : lnS T L m (skp T L r0 + 1) with ⟨q, _ | ss⟩
            · rw [lnS_4 hs h6 hn h9]
              refine ⟨fun r y e => by have := (Prod.mk.inj e).2; simp at this, fun r e _ => ?_⟩
              rw [← (Prod.mk.inj e).1]
              obtain ⟨⟨X', g1, g2⟩, g3⟩ := ik.2 _ h9 (by omega)
              exact ⟨⟨X', g1, FrN_t f1 g2⟩, g3⟩
            · rw [lnS_5 hs h6 hn h9]
              refine ⟨fun r y e => ?_, fun r e => by have := (Prod.mk.inj e).2; simp at this⟩
              rw [← (Prod.mk.inj e).1, ← Option.some.inj (Prod.mk.inj e).2]
              exact ik.1 _ _ h9
          · rw [if_neg h8, mz_b2, if_pos rfl, lnS_3 hs h6 (Or.inr h8)]
            refine ⟨fun r ss e => by have := (Prod.mk.inj e).2; simp at this, fun r e _ => ?_⟩
            rw [← (Prod.mk.inj e).1]
            exact ⟨⟨_, rfl, f1⟩, t2⟩
theorem C_lines (hT : OkT T L) (ha : 2 < a) (h : TaC T L i) : (∀ r ss, lnS T L 16 0 = (r, some ss) → fX5_read a i = some (1, pP (wC a (u2 i a 1 0) 0 ss) r) ∧ r ≤ L) ∧ (∀ r, lnS T L 16 0 = (r, none) → (∃ X', fX5_read a i = some (0, pP X' r) ∧ FrN a i X') ∧ r ≤ L) := by
  obtain ⟨fu, hfu, hfu2⟩ := fuel_g
  have k := c_ln_l hT ha 16 fu (u2 i a 1 0) 0 0 (by omega) (by omega) (by omega) (TaC_u h ha) (u2e _ _ _ _)
  unfold fX5_read fX10_rewind
  rw [mz_lt, mz_lt, mz_b1, hfu]
  refine ⟨k.1, fun r e => ?_⟩
  obtain ⟨⟨X', e1, e2⟩, e3⟩ := k.2 r e (by omega)
  exact ⟨⟨X', e1, FrN_t FrN_u e2⟩, e3⟩
/-- what the lines say, cell by cell -/
def spV (s : SP) (c : Nat) : Int32 := if c = 0 then nI s.1 else if c = 1 then nI s.2.1 else oI s.2.2
theorem wS_c (hc : c < 3) : wS X w f s w (f + c) = spV s c := by
  obtain ⟨e1, e2, e3, _⟩ := wS_v (X := X) (w := w) (f := f) (s := s)
  unfold spV
  rcases (show c = 0 ∨ c = 1 ∨ c = 2 by omega) with rfl | rfl | rfl
  · rw [if_pos rfl]; exact e1
  · rw [if_neg (by omega), if_pos rfl]; exact e2
  · rw [if_neg (by omega), if_neg (by omega)]; exact e3
theorem wC_v : ∀ ss X k, X a 1 = nI k → wC a X k ss a 1 = nI (k + ss.length) ∧ (∀ z, z < 3 * k → wC a X k ss (a + 1) z = X (a + 1) z) ∧ (∀ n c, n < ss.length → c < 3 → wC a X k ss (a + 1) (3 * (k + n) + c) = spV (ss.getD n (0, 0, none)) c) := by
  intro ss
  induction ss with
  | nil => intro X k h; exact ⟨h, fun _ _ => rfl, fun n c hn => by simp at hn⟩
  | cons s ss ih =>
    intro X k h
    obtain ⟨g1, g2, g3⟩ := ih (u2 (wS X (a + 1) (3 * k) s) a 1 (nI (k + 1))) (k + 1) (u2e _ _ _ _)
    refine ⟨?_, fun z hz => ?_, fun n c hn hc => ?_⟩
    · show wC a (u2 (wS X (a + 1) (3 * k) s) a 1 (nI (k + 1))) (k + 1) ss a 1 = _
      rw [g1, List.length_cons]
      congr 1
      omega
    · show wC a (u2 (wS X (a + 1) (3 * k) s) a 1 (nI (k + 1))) (k + 1) ss (a + 1) z = _
      rw [g2 z (by omega), u2r _ _ _ _ _ (by omega), (wS_v (X := X)).2.2.2 z (by omega)]
    · show wC a (u2 (wS X (a + 1) (3 * k) s) a 1 (nI (k + 1))) (k + 1) ss (a + 1) (3 * (k + n) + c) = _
      cases n with
      | zero =>
        rw [g2 _ (by omega), u2r _ _ _ _ _ (by omega)]
        exact wS_c hc
      | succ n =>
        rw [List.length_cons] at hn
        rw [show k + (n + 1) = k + 1 + n by omega, g3 n c (by omega) hc]
        rfl
theorem wM_v : ∀ ss Y f, Fr [61] Y (wM Y f ss) ∧ (∀ z, z < f → wM Y f ss 61 z = Y 61 z) ∧ (∀ n c, n < ss.length → c < 3 → wM Y f ss 61 (f + 3 * n + c) = spV (ss.getD n (0, 0, none)) c) := by
  intro ss
  induction ss with
  | nil => intro Y f; exact ⟨Fr_r _ _, fun _ _ => rfl, fun n c hn => by simp at hn⟩
  | cons s ss ih =>
    intro Y f
    obtain ⟨g1, g2, g3⟩ := ih (wS Y 61 f s) (f + 3)
    refine ⟨Fr_t wS_fr g1, fun z hz => ?_, fun n c hn hc => ?_⟩
    · show wM (wS Y 61 f s) (f + 3) ss 61 z = _
      rw [g2 z (by omega), (wS_v (X := Y)).2.2.2 z (by omega)]
    · show wM (wS Y 61 f s) (f + 3) ss 61 (f + 3 * n + c) = _
      cases n with
      | zero =>
        rw [g2 _ (by omega)]
        exact wS_c hc
      | succ n =>
        rw [List.length_cons] at hn
        rw [show f + 3 * (n + 1) + c = f + 3 + 3 * n + c by omega, g3 n c (by omega) hc]
        rfl
/-- the model reads lines -/
theorem m_ln_l (hT : OkT T L) : ∀ m n Y k p, m + k = 16 → 0 < m → m + 1 < n → p ≤ L → TxM T L B w Y rv → Y 50 11 = NN →
    (∀ r ss, lnS T L m p = (r, some ss) → fX12_readLines_17 n (nI k) 1 (mP Y p) rv = some (mP (u2 (wM Y (192 + 3 * k) ss) 62 4 (nI (k + ss.length))) r, rv)) ∧ (∀ r, lnS T L m p = (r, none) → ∃ Y', fX12_readLines_17 n (nI k) 1 (mP Y p) rv = some (Y', rv) ∧ FlL Y r Y') := by
  have hL := hT.1
  intro m
  induction m with
  | zero => intro n Y k p h1 h0; omega
  | succ m ih =>
    intro n Y k p h1 _ h2 hp hX h11
    obtain ⟨n, rfl⟩ : ∃ n', n = n' + 1 := ⟨n - 1, by omega⟩
    have kk := m_stp (f := 192 + 3 * k) hT hX h11 hp (by omega) (by omega)
    have ef : (3 : Int32) * ((64 : Int32) + nI k) = nI (192 + 3 * k) := by
      rw [show (64 : Int32) = nI 64 from rfl, nI_add, q3, mz_mul]
      congr 1
      omega
    rw [fX12_readLines_17, if_neg (show ¬ (1 : Int32) = 0 by decide), ef]
    rcases hs : stS T L p with ⟨r0, _ | s⟩
    · obtain ⟨Y', e1, e2⟩ := kk.2 _ hs
      have hr0 := ((c_stp (a := 9) (f := 0) (X := u2 (fun _ k => nI (T k)) 1 1 (nI L)) hT (by omega) ⟨u2e _ _ _ _, fun k hk => by rw [u2r _ _ _ _ _ (by omega)]⟩ hp (by omega)).2 _ hs).2
      rw [lnS_1 hs, e1, mz_b1, if_neg (by rw [qN1, e2.1, mz_nm (by omega)]; exact fun e => e)]
      refine ⟨fun r ss e => by have := (Prod.mk.inj e).2; simp at this, fun r e => ?_⟩
      rw [← (Prod.mk.inj e).1]
      exact ⟨Y', rfl, e2⟩
    · have e1 := kk.1 _ _ hs
      have b2 : r0 ≤ L := ((c_stp (a := 9) (f := 0) (X := u2 (fun _ k => nI (T k)) 1 1 (nI L)) hT (by omega) ⟨u2e _ _ _ _, fun k hk => by rw [u2r _ _ _ _ _ (by omega)]⟩ hp (by omega)).1 _ _ hs).2.2.1
      have t1 := sk_ge (T := T) b2
      have t2 := sk_le (T := T) b2
      have hX1 : TxM T L B w (wS Y 61 (192 + 3 * k) s) rv := TxM_r hX wS_fr (by omega)
      have g11 : wS Y 61 (192 + 3 * k) s 50 11 = NN := by rw [wS_fr 50 (by decide)]; exact h11
      have flo : ∀ k', k' < 192 → wS Y 61 (192 + 3 * k) s 61 k' = Y 61 k' := fun k' hk' => (wS_v (X := Y)).2.2.2 k' (by omega)
      rw [e1, mz_b1, mP_n (by omega), g11, if_pos qN1.symm, m_look hT hX1 b2, mz_b2, nI_1]
      unfold fX12_readLines_57 fX12_readLines_74
      by_cases h8 : ch T L (skp T L r0) = 59
      · have hlt := ch_skl (c := 59) (by omega) h8
        rw [if_pos h8, if_neg (show ¬ (1 : Int32) = 0 by decide), if_neg (show ¬ (1 : Int32) = 0 by decide)]
        by_cases h7 : m = 0
        · rw [if_pos (show nI (k + 1) = 16 by rw [show k + 1 = 16 by omega]; rfl), m_fails g11, mz_b2, lnS_3 hs (by omega) (Or.inl h7)]
          refine ⟨fun r ss e => by have := (Prod.mk.inj e).2; simp at this, fun r e => ?_⟩
          rw [← (Prod.mk.inj e).1]
          exact ⟨_, rfl, FlL_F wS_fr flo⟩
        · have hn : ¬ (m = 0 ∨ ¬ ch T L (skp T L r0) = 59) := fun e => e.elim h7 (fun e => e h8)
          have ik := ih n _ (k + 1) (skp T L r0 + 1) (by omega) (by omega) (by omega) (by omega) hX1 g11
          rw [if_neg (show ¬ nI (k + 1) = 16 by rw [show (16 : Int32) = nI 16 from rfl, nI_eq (by omega) (by omega)]; omega), mz_lt, mP_at, show nI (skp T L r0) + 1 = nI (skp T L r0 + 1) from nI_1 _, mP_2]
          rcases h9 : lnS T L m (skp T L r0 + 1) with ⟨q, _ | ss⟩
          · rw [lnS_4 hs (by omega) hn h9]
            refine ⟨fun r y e => by have := (Prod.mk.inj e).2; simp at this, fun r e => ?_⟩
            rw [← (Prod.mk.inj e).1]
            obtain ⟨Y', g1, g2, g3, g4, g5, g6⟩ := ik.2 _ h9
            refine ⟨Y', g1, g2, Fr_t (Fr_w (by decide) wS_fr) g3, F5_t (fun k' _ => by rw [wS_fr 50 (by decide)]) g4, fun k' hk' => by rw [g5 k' hk', flo k' hk'], fun k' hk' => by rw [g6 k' hk', wS_fr 62 (by decide)]⟩
          · rw [lnS_5 hs (by omega) hn h9]
            refine ⟨fun r y e => ?_, fun r e => by have := (Prod.mk.inj e).2; simp at this⟩
            rw [← (Prod.mk.inj e).1, ← Option.some.inj (Prod.mk.inj e).2, ik.1 _ _ h9, List.length_cons, show k + 1 + ss.length = k + (ss.length + 1) by omega, show 192 + 3 * (k + 1) = 192 + 3 * k + 3 by omega]
            rfl
      · obtain ⟨n2, rfl⟩ : ∃ n2, n = n2 + 1 := ⟨n - 1, by omega⟩
        have hX2 : TxM T L B w (u2 (wS Y 61 (192 + 3 * k) s) 62 4 (nI (k + 1))) rv := TxM_u hX1 (by omega)
        have g12 : u2 (wS Y 61 (192 + 3 * k) s) 62 4 (nI (k + 1)) 50 11 = NN := by rw [u2r _ _ _ _ _ (by omega)]; exact g11
        rw [if_neg h8, if_pos rfl, if_pos rfl, fX12_readLines_17, if_pos rfl, if_pos (show aIn 4 5 = true by decide), mz_lt, show (4 : Int32).toNatClampNeg = 4 from by decide, mP_c (by omega), m_look hT hX2 t2, sk_id b2, mz_b2, qN1]
        by_cases h6 : L ≤ skp T L r0
        · rw [if_pos ((ch_N hT).mpr h6), lnS_2 hs h6]
          refine ⟨fun r ss e => ?_, fun r e => by have := (Prod.mk.inj e).2; simp at this⟩
          rw [← (Prod.mk.inj e).1, ← Option.some.inj (Prod.mk.inj e).2]
          rfl
        · rw [if_neg (fun e => h6 ((ch_N hT).mp e)), m_fails g12, mz_b2, lnS_3 hs h6 (Or.inr h8)]
          refine ⟨fun r ss e => by have := (Prod.mk.inj e).2; simp at this, fun r e => ?_⟩
          rw [← (Prod.mk.inj e).1]
          have eF : ∀ q, q ≠ 50 → mF (u2 (wS Y 61 (192 + 3 * k) s) 62 4 (nI (k + 1))) (skp T L r0) q = u2 (wS Y 61 (192 + 3 * k) s) 62 4 (nI (k + 1)) q := fun q hq => by
            unfold mF mP
            rw [u2r _ _ _ _ _ hq, u2r _ _ _ _ _ hq]
          refine ⟨_, rfl, mF_11, fun q hq => ?_, fun k' hk' => ?_, fun k' hk' => ?_, fun k' hk' => ?_⟩
          · rw [eF q (fun e => hq (by simp [e])), u2r _ _ _ _ _ (fun e => hq (by simp [e])), wS_fr q (fun e => hq (by simp at e; simp [e]))]
          · unfold mF mP
            rw [u2n _ _ _ _ _ (fun e => hk' (by simp [e])), u2n _ _ _ _ _ (fun e => hk' (by simp [e])), u2r _ _ _ _ _ (by omega), wS_fr 50 (by decide)]
          · rw [eF 61 (by omega), u2r _ _ _ _ _ (by omega), flo k' hk']
          · rw [eF 62 (by omega), u2n _ _ _ _ _ (by omega), wS_fr 62 (by decide)]
theorem M_lines (hT : OkT T L) (h : TaM T L j) : (∀ r ss, lnS T L 16 0 = (r, some ss) → fX12_readLines j rv = some (mP (u2 (wM (stM j 0 L) 192 ss) 62 4 (nI ss.length)) r, u2 rv 50 5 (some (100 + 51)))) ∧ (∀ r, lnS T L 16 0 = (r, none) → ∃ Y', fX12_readLines j rv = some (Y', u2 rv 50 5 (some (100 + 51))) ∧ FlL (stM j 0 L) r Y') := by
  have hL := hT.1
  obtain ⟨fu, hfu, hfu2⟩ := fuel_g
  have hX := TxM_st (rv := rv) (j := j) (B := 0) (L := L) (T := T) (w := 51) (Or.inl rfl) (by show 0 + L ≤ 240; omega) (fun k hk => by rw [Nat.zero_add]; exact h.2 k hk)
  have k := m_ln_l (rv := u2 rv 50 5 (some (100 + 51))) hT 16 fu (stM j 0 L) 0 0 (by omega) (by omega) (by omega) (by omega) hX rfl
  have e0 : mP (stM j 0 L) 0 = stM j 0 L := mP_i rfl
  rw [e0] at k
  unfold fX12_readLines
  rw [h.1, show (0 : Int32) = nI 0 from rfl, m_starts, mz_b2, hfu]
  refine ⟨fun r ss e => ?_, k.2⟩
  have := k.1 r ss e
  rw [Nat.zero_add] at this
  exact this
end LN3
