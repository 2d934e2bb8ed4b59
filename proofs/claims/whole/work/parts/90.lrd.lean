/-! laws: the class reads a law -/
section LR
variable {X X' X'' i : Tb} {T : Nat → Nat} {L a p q r n d e m k c z n0 : Nat} {g : Nat → PR} {x y : VL} {cs cs' : List Int} {v : Int32} {cl : CL} {cls : List CL}
theorem c_clause (hT : OkT T L) (ha : 2 < a) (hX : TaC T L X) (h0 : X a 2 = nI n0) (hp : p ≤ L) (h5 : n0 ≤ p) : CK a n0 X (clS T L p) (fX4_readClause a (pP X p)) := by
  have hL := hT.1
  have s1 := sk_ge (T := T) hp
  have s2 := sk_le (T := T) hp
  unfold fX4_readClause clS
  rw [show (121 : Int32) = nI 121 from rfl, show (58 : Int32) = nI 58 from rfl, c_takes hT hX hp (by omega)]
  by_cases h : ch T L (skp T L p) = nI 121
  · have hlt := ch_skl (c := 121) (by omega) h
    have s3 := sk_ge (T := T) (L := L) (p := skp T L p + 1) (by omega)
    have s4 := sk_le (T := T) (L := L) (p := skp T L p + 1) (by omega)
    rw [if_pos h, if_pos h, mz_b2, if_neg (show ¬ (1 : Int32) = 0 by decide), c_takes hT hX (by omega) (by omega)]
    by_cases h2 : ch T L (skp T L (skp T L p + 1)) = nI 58
    · have hlt2 := ch_skl (c := 58) (by omega) h2
      have s5 := sk_ge (T := T) (L := L) (p := skp T L (skp T L p + 1) + 1) (by omega)
      have s6 := sk_le (T := T) (L := L) (p := skp T L (skp T L p + 1) + 1) (by omega)
      rw [if_pos h2, if_pos h2, mz_b2, if_neg (show ¬ (1 : Int32) = 0 by decide), c_ahead hT hX (by omega), mz_b2, c_ahead hT hX s6, mz_b2, sk_id (by omega)]
      generalize hq : skp T L (skp T L (skp T L p + 1) + 1) = Q at *
      have k77 : ∀ (res : PR), (∀ r y, res = (r, some y) → r ≤ L ∧ n0 + y.1.length + 1 ≤ r) → ∀ x2 I, CR a X res (fX4_readCondition (fX4_readUnit 12) a 0 x2 I) → ∀ R, (∀ r, res = (r, none) → R = (r, none)) → (∀ r y, res = (r, some y) → R = guS T L y r) → CK a n0 X R (fX4_readClause_77 a x2 I) := by
        intro res hres x2 I hC R hR1 hR2
        unfold fX4_readClause_77
        rcases res with ⟨r, _ | y⟩
        · obtain ⟨X', e1, e2⟩ := hC.2 _ rfl
          rw [hR1 _ rfl, e1, mz_b2, if_pos rfl]
          exact CK_n ⟨X', rfl, e2⟩
        · have e1 := hC.1 _ _ rfl
          obtain ⟨b1, b2⟩ := hres _ _ rfl
          rw [hR2 _ _ rfl, e1, mz_b2, if_neg (show ¬ (1 : Int32) = 0 by decide)]
          exact c_guard hT ha hX h0 b1 b2
      by_cases h3 : ch T L Q = 33 ∨ ch T L Q = 40
      · have hU := c_unit hT ha 6 0 12 (by omega) (by omega)
        have hC := c_cond hT ha (c_truth hT ha hU (unS_ok 6)) (trS_ok 6) X n0 Q hX h0 (by omega) s6
        have k := k77 (coS T L (unS T L 6) Q) (fun r y e => by have := (coS_ok (T := T) (L := L) 6 Q s6).2 _ _ e; omega) 0 (pP X Q) hC _ (fun r e => c3S_1 h3 e) (fun r y e => c3S_2 h3 e)
        unfold fX4_readClause_42 fX4_readClause_43
        rw [if_pos rfl]
        rcases h3 with h3 | h3
        · rw [if_pos h3]
          exact k
        · rw [if_neg (show ¬ ch T L Q = 33 by rw [h3]; decide), if_pos h3]
          exact k
      · rw [if_neg (fun e => h3 (Or.inl e)), if_neg (fun e => h3 (Or.inr e))]
        unfold fX4_readClause_43
        have k := c_sum hT ha 6 0 12 (by omega) (by omega) X n0 Q hX h0 (by omega) s6
        rw [if_neg (show ¬ (1 : Int32) = 0 by decide)]
        rcases h4 : suS T L 6 Q with ⟨r, _ | x⟩
        · obtain ⟨X', e1, e2⟩ := k.2 _ h4
          have e1' : fX4_readSum 12 a 0 (pP X Q) = some (0, pP X' r) := e1
          rw [c3S_3 h3 h4, e1', mz_b2, if_pos rfl]
          exact CK_n ⟨X', rfl, e2⟩
        · have e1 := k.1 _ _ h4
          obtain ⟨b1, b2, b3⟩ := (suS_ok (T := T) (L := L) 6 Q s6).2 _ _ h4
          have t1 := sk_ge (T := T) b2
          have t2 := sk_le (T := T) b2
          have hX1 := TaC_x ha hX (eP_fr (a := a) x.1 X)
          have hz1 := eP_sz (a := a) x.1 X n0 h0
          have e1' : fX4_readSum 12 a 0 (pP X Q) = some (1, pP (eP X a x.1) r) := e1
          rw [e1', mz_b2, if_neg (show ¬ (1 : Int32) = 0 by decide), c_ahead hT hX1 b2, mz_b2, c_isC hT, mz_b1]
          by_cases h6 : skp T L r < L ∧ o3 (T (skp T L r)) = true
          · rw [if_pos h6, if_neg (show ¬ (1 : Int32) = 0 by decide)]
            have hC := c_condb (x := x) hT ha hX h0 t2 (by omega) (by omega)
            have k2 := k77 (cbS T L x (skp T L r)) (fun r2 y e => by have := (cbS_ok (T := T) (x := x) (p0 := Q) t2 (by omega) (by omega)).2 _ _ e; omega) 1 _ hC _ (fun r e => c3S_5 h3 h4 h6 e) (fun r y e => c3S_6 h3 h4 h6 e)
            exact k2
          · rw [if_neg h6, if_pos rfl, c3S_4 h3 h4 h6, show (-7 : Int32) = zI (-7) from by decide +kernel, c_emit ha hz1 (by omega), mz_b1]
            refine CK_s ?_
            show _ = some (1, pP (eP X a (x.1 ++ [-7])) (skp T L r))
            rw [eP_app]
            rfl
    · rw [if_neg h2, if_neg h2, mz_b2, if_pos rfl]
      exact CK_n ⟨X, rfl, FlX_0 h0 (by omega)⟩
  · rw [if_neg h, if_neg h, mz_b2, if_pos rfl]
    exact CK_n ⟨X, rfl, FlX_0 h0 (by omega)⟩
theorem lwS_1 (h : clS T L p = (r, none)) : lwS T L (m + 1) p = (r, none) := by rw [lwS, h]
theorem lwS_2 (h : clS T L p = (r, some cl)) (h2 : L ≤ skp T L r) : lwS T L (m + 1) p = (skp T L r, some [cl]) := by rw [lwS, h]; dsimp only; rw [if_pos h2]
theorem lwS_3 (h : clS T L p = (r, some cl)) (h2 : ¬ L ≤ skp T L r) (h3 : ¬ ch T L (skp T L r) = 59) : lwS T L (m + 1) p = (skp T L r, none) := by rw [lwS, h]; dsimp only; rw [if_neg h2, if_neg h3]
theorem lwS_4 (h : clS T L p = (r, some cl)) (h2 : ¬ L ≤ skp T L r) (h3 : ch T L (skp T L r) = 59) (h4 : lwS T L m (skp T L r + 1) = (q, none)) : lwS T L (m + 1) p = (q, none) := by rw [lwS, h]; dsimp only; rw [if_neg h2, if_pos h3, h4]
theorem lwS_5 (h : clS T L p = (r, some cl)) (h2 : ¬ L ≤ skp T L r) (h3 : ch T L (skp T L r) = 59) (h4 : lwS T L m (skp T L r + 1) = (q, some cls)) : lwS T L (m + 1) p = (q, some (cl :: cls)) := by rw [lwS, h]; dsimp only; rw [if_neg h2, if_pos h3, h4]
/-- the class reads clauses to the end -/
theorem c_lw_l (hT : OkT T L) (ha : 2 < a) : ∀ m n X n0 p x2, p ≤ L → L - p < n → L - p < m → x2 ≤ p → n0 ≤ p → TaC T L X → X a 2 = nI n0 →
    (∀ r cs, lwS T L m p = (r, some cs) → fX4_read_11 a n (nI x2) (pP X p) = some (1, pP (eP X a (lwC n0 cs)) r) ∧ r ≤ L ∧ n0 + (lwC n0 cs).length ≤ r) ∧ (∀ r, lwS T L m p = (r, none) → (∃ X', fX4_read_11 a n (nI x2) (pP X p) = some (0, pP X' r) ∧ FlX a X X') ∧ r ≤ L) := by
  have hL := hT.1
  intro m
  induction m with
  | zero => intro n X n0 p x2 h1 h2 h3; omega
  | succ m ih =>
    intro n X n0 p x2 h1 h2 h3 h4 h5 hX h0
    obtain ⟨n, rfl⟩ : ∃ n', n = n' + 1 := ⟨n - 1, by omega⟩
    have k := c_clause (p := p) hT ha hX h0 h1 h5
    have ko := clS_ok (T := T) h1
    rw [fX4_read_11, if_neg (show ¬ (240 : Int32) < nI x2 by rw [q240, mz_ltp (by omega) (by omega)]; omega), qN1]
    rcases hc : clS T L p with ⟨r0, _ | cl⟩
    · obtain ⟨X', e1, e2⟩ := k.2 _ hc
      rw [lwS_1 hc, e1, mz_b2, if_pos rfl]
      refine ⟨fun r y e => by have := (Prod.mk.inj e).2; simp at this, fun r e => ?_⟩
      rw [← (Prod.mk.inj e).1]
      exact ⟨⟨X', rfl, e2⟩, ko.1 _ hc⟩
    · have e1 := k.1 _ _ hc
      obtain ⟨b1, b2, b3⟩ := ko.2 _ _ hc
      have b3' := b3 n0
      have t1 := sk_ge (T := T) b2
      have t2 := sk_le (T := T) b2
      have hX1 := TaC_x ha hX (eP_fr (a := a) (kdC n0 cl) X)
      have hz1 := eP_sz (a := a) (kdC n0 cl) X n0 h0
      rw [e1, mz_b2, if_neg (show ¬ (1 : Int32) = 0 by decide), c_ahead hT hX1 b2, mz_b2]
      by_cases h6 : L ≤ skp T L r0
      · rw [if_pos ((ch_N hT).mpr h6), lwS_2 hc h6]
        refine ⟨fun r y e => ?_, fun r e => by have := (Prod.mk.inj e).2; simp at this⟩
        rw [← (Prod.mk.inj e).1, ← Option.some.inj (Prod.mk.inj e).2]
        have e9 : lwC n0 [cl] = kdC n0 cl := by
          show kdC n0 cl ++ [] = _
          rw [List.append_nil]
        rw [e9]
        exact ⟨rfl, t2, by omega⟩
      · rw [if_neg (fun e => h6 ((ch_N hT).mp e)), show (59 : Int32) = nI 59 from rfl, c_takes hT hX1 t2 (by omega), sk_id b2]
        by_cases h7 : ch T L (skp T L r0) = nI 59
        · have hlt := ch_skl (c := 59) (by omega) h7
          have kk := ih n (eP X a (kdC n0 cl)) (n0 + (kdC n0 cl).length) (skp T L r0 + 1) (x2 + 1) (by omega) (by omega) (by omega) (by omega) (by omega) hX1 hz1
          rw [if_pos h7, mz_b2, if_neg (show ¬ (1 : Int32) = 0 by decide), nI_1]
          rcases h8 : lwS T L m (skp T L r0 + 1) with ⟨q, _ | cls⟩
          · rw [lwS_4 hc h6 h7 h8]
            refine ⟨fun r y e => by have := (Prod.mk.inj e).2; simp at this, fun r e => ?_⟩
            rw [← (Prod.mk.inj e).1]
            obtain ⟨⟨X', f1, f2⟩, f3⟩ := kk.2 _ h8
            exact ⟨⟨X', f1, FlX_t (eP_fr _ _) f2⟩, f3⟩
          · rw [lwS_5 hc h6 h7 h8]
            refine ⟨fun r y e => ?_, fun r e => by have := (Prod.mk.inj e).2; simp at this⟩
            rw [← (Prod.mk.inj e).1, ← Option.some.inj (Prod.mk.inj e).2]
            obtain ⟨f1, f2, f3⟩ := kk.1 _ _ h8
            rw [show lwC n0 (cl :: cls) = kdC n0 cl ++ lwC (n0 + (kdC n0 cl).length) cls from rfl, eP_app, List.length_append]
            exact ⟨f1, f2, by omega⟩
        · rw [if_neg h7, mz_b2, if_pos rfl, lwS_3 hc h6 h7]
          refine ⟨fun r y e => by have := (Prod.mk.inj e).2; simp at this, fun r e => ?_⟩
          rw [← (Prod.mk.inj e).1]
          exact ⟨⟨_, rfl, eP_fr _ _, n0 + (kdC n0 cl).length, by omega, hz1⟩, t2⟩
/-- the class reads a law -/
theorem C_law (hT : OkT T L) (ha : 2 < a) (h : TaC T L i) : (∀ r cs, lwS T L 300 0 = (r, some cs) → fX4_read a i = some (1, pP (eP (u2 i a 2 0) a (lwC 0 cs)) r) ∧ r ≤ L ∧ (lwC 0 cs).length ≤ r) ∧ (∀ r, lwS T L 300 0 = (r, none) → (∃ X', fX4_read a i = some (0, pP X' r) ∧ FlX a (u2 i a 2 0) X') ∧ r ≤ L) := by
  have hL := hT.1
  obtain ⟨fu, hfu, hfu2⟩ := fuel_g
  have k := c_lw_l hT ha 300 fu (u2 i a 2 0) 0 0 0 (by omega) (by omega) (by omega) (by omega) (by omega) (TaC_u h ha) (u2e _ _ _ _)
  unfold fX4_read fX10_rewind
  rw [mz_lt, mz_lt, mz_b1, hfu]
  refine ⟨fun r cs e => ?_, k.2⟩
  have := k.1 r cs e
  rw [Nat.zero_add] at this
  exact this
theorem e1_get {c : Int} (h : X a 2 = nI n) (hn : n < 2 ^ 31) : e1 X a c (a + 1) n = zI c ∧ ∀ k, k ≠ n → e1 X a c (a + 1) k = X (a + 1) k := by
  unfold e1
  rw [h, nI_clamp hn]
  refine ⟨?_, fun k hk => ?_⟩
  · rw [u2r _ _ _ _ _ (by omega), u2e]
  · rw [u2r _ _ _ _ _ (by omega), u2n _ _ _ _ _ hk]
theorem eP_get : ∀ cs X n, X a 2 = nI n → n + cs.length < 2 ^ 31 → (∀ k, k < n → eP X a cs (a + 1) k = X (a + 1) k) ∧ (∀ k, k < cs.length → eP X a cs (a + 1) (n + k) = zI (cs.getD k 0)) := by
  intro cs
  induction cs with
  | nil => intro X n _ _; exact ⟨fun _ _ => rfl, fun k hk => by simp at hk⟩
  | cons c cs ih =>
    intro X n h hn
    rw [List.length_cons] at hn
    obtain ⟨e1', e2'⟩ := e1_get (c := c) h (by omega)
    obtain ⟨f1, f2⟩ := ih (e1 X a c) (n + 1) (e1_sz h) (by omega)
    refine ⟨fun k hk => ?_, fun k hk => ?_⟩
    · rw [eP, f1 k (by omega), e2' k (by omega)]
    · cases k with
      | zero =>
        show eP (e1 X a c) a cs (a + 1) n = zI c
        rw [f1 n (by omega), e1']
      | succ k =>
        rw [List.length_cons] at hk
        rw [eP, show n + (k + 1) = n + 1 + k by omega, f2 k (by omega)]
        rfl
theorem C_lawAt (ha : 2 < a) (hn : cs.length ≤ 240) : LawAt a cs (pP (eP (u2 i a 2 0) a cs) r) := by
  have h0 : u2 i a 2 0 a 2 = nI 0 := u2e _ _ _ _
  refine ⟨?_, hn, fun k hk => ?_⟩
  · rw [pP_r (by omega), eP_sz _ _ _ h0, Nat.zero_add]
  · rw [pP_r (by omega)]
    have := (eP_get cs _ 0 h0 (by omega)).2 k hk
    rw [Nat.zero_add] at this
    exact this
end LR
