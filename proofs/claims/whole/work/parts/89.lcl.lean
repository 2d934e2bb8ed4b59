/-! laws: clauses, and the class reads a law -/
abbrev CL : Type := Option VL × VL
def guS (T : Nat → Nat) (L : Nat) (y : VL) (r : Nat) : Nat × Option CL := if ch T L (skp T L r) = 63 then (match suS T L 6 (skp T L r + 1) with
    | (r, none) => (r, none)
    | (r, some x) => (r, some (some y, x)))
  else (skp T L r, none)
def c3S (T : Nat → Nat) (L q : Nat) : Nat × Option CL := if ch T L q = 33 ∨ ch T L q = 40 then (match coS T L (unS T L 6) q with
    | (r, none) => (r, none)
    | (r, some y) => guS T L y r)
  else (match suS T L 6 q with
    | (r, none) => (r, none)
    | (r, some x) => if skp T L r < L ∧ o3 (T (skp T L r)) = true then (match cbS T L x (skp T L r) with
        | (r, none) => (r, none)
        | (r, some y) => guS T L y r)
      else (skp T L r, some (none, x)))
def clS (T : Nat → Nat) (L p : Nat) : Nat × Option CL := if ch T L (skp T L p) = 121 then (if ch T L (skp T L (skp T L p + 1)) = 58 then c3S T L (skp T L (skp T L (skp T L p + 1) + 1)) else (skp T L (skp T L p + 1), none)) else (skp T L p, none)
def kdC (n : Nat) (c : CL) : List Int := match c with
  | (none, x) => x.1 ++ [-7]
  | (some y, x) => y.1 ++ ((-1000 - ((n + y.1.length + x.1.length + 2 : Nat) : Int)) :: (x.1 ++ [-7]))
def lwS (T : Nat → Nat) (L : Nat) : Nat → Nat → Nat × Option (List CL)
  | 0, p => (p, none)
  | m + 1, p => match clS T L p with
    | (r, none) => (r, none)
    | (r, some c) => if L ≤ skp T L r then (skp T L r, some [c]) else if ch T L (skp T L r) = 59 then (match lwS T L m (skp T L r + 1) with
        | (r2, none) => (r2, none)
        | (r2, some cs) => (r2, some (c :: cs)))
      else (skp T L r, none)
def lwC (n : Nat) : List CL → List Int
  | [] => []
  | c :: cs => kdC n c ++ lwC (n + (kdC n c).length) cs
section LK
variable {X X' X'' : Tb} {T : Nat → Nat} {L a p q r n d e m k c z n0 : Nat} {g : Nat → PR} {x y : VL} {cs cs' : List Int} {v : Int32} {cl : CL} {cls : List CL}
theorem guS_e (h : ¬ ch T L (skp T L r) = 63) : guS T L y r = (skp T L r, none) := by unfold guS; rw [if_neg h]
theorem guS_n (h : ch T L (skp T L r) = 63) (h2 : suS T L 6 (skp T L r + 1) = (q, none)) : guS T L y r = (q, none) := by unfold guS; rw [if_pos h, h2]
theorem guS_s (h : ch T L (skp T L r) = 63) (h2 : suS T L 6 (skp T L r + 1) = (q, some x)) : guS T L y r = (q, some (some y, x)) := by unfold guS; rw [if_pos h, h2]
theorem c3S_1 (h : ch T L q = 33 ∨ ch T L q = 40) (h2 : coS T L (unS T L 6) q = (r, none)) : c3S T L q = (r, none) := by unfold c3S; rw [if_pos h, h2]
theorem c3S_2 (h : ch T L q = 33 ∨ ch T L q = 40) (h2 : coS T L (unS T L 6) q = (r, some y)) : c3S T L q = guS T L y r := by unfold c3S; rw [if_pos h, h2]
theorem c3S_3 (h : ¬ (ch T L q = 33 ∨ ch T L q = 40)) (h2 : suS T L 6 q = (r, none)) : c3S T L q = (r, none) := by unfold c3S; rw [if_neg h, h2]
theorem c3S_4 (h : ¬ (ch T L q = 33 ∨ ch T L q = 40)) (h2 : suS T L 6 q = (r, some x)) (h3 : ¬ (skp T L r < L ∧ o3 (T (skp T L r)) = true)) : c3S T L q = (skp T L r, some (none, x)) := by unfold c3S; rw [if_neg h, h2]; dsimp only; rw [if_neg h3]
theorem c3S_5 (h : ¬ (ch T L q = 33 ∨ ch T L q = 40)) (h2 : suS T L 6 q = (r, some x)) (h3 : skp T L r < L ∧ o3 (T (skp T L r)) = true) (h4 : cbS T L x (skp T L r) = (p, none)) : c3S T L q = (p, none) := by unfold c3S; rw [if_neg h, h2]; dsimp only; rw [if_pos h3, h4]
theorem c3S_6 (h : ¬ (ch T L q = 33 ∨ ch T L q = 40)) (h2 : suS T L 6 q = (r, some x)) (h3 : skp T L r < L ∧ o3 (T (skp T L r)) = true) (h4 : cbS T L x (skp T L r) = (p, some y)) : c3S T L q = guS T L y p := by unfold c3S; rw [if_neg h, h2]; dsimp only; rw [if_pos h3, h4]
/-- what is true of a clause's end -/
def ClO (L p0 : Nat) (res : Nat × Option CL) : Prop := (∀ r, res = (r, none) → r ≤ L) ∧ (∀ r c, res = (r, some c) → p0 < r ∧ r ≤ L ∧ ∀ n, p0 + (kdC n c).length ≤ r)
theorem ClO_n (h : r ≤ L) : ClO L p (r, none) := ⟨fun r' e => by have := (Prod.mk.inj e).1; omega, fun r' c e => by have := (Prod.mk.inj e).2; simp at this⟩
theorem ClO_s (h1 : p < r) (h2 : r ≤ L) (h3 : ∀ n, p + (kdC n cl).length ≤ r) : ClO L p (r, some cl) := by
  refine ⟨fun r' e => by have := (Prod.mk.inj e).2; simp at this, fun r' c e => ?_⟩
  rw [← (Prod.mk.inj e).1, ← Option.some.inj (Prod.mk.inj e).2]
  exact ⟨h1, h2, h3⟩
theorem kd_0 : (kdC n (none, x)).length = x.1.length + 1 := by
  show (x.1 ++ [-7]).length = _
  rw [List.length_append]
  rfl
theorem kd_1 : (kdC n (some y, x)).length = y.1.length + x.1.length + 2 := by
  show (y.1 ++ ((-1000 - ((n + y.1.length + x.1.length + 2 : Nat) : Int)) :: (x.1 ++ [-7]))).length = _
  rw [List.length_append, List.length_cons, List.length_append]
  show y.1.length + (x.1.length + 1 + 1) = _
  omega
theorem guS_ok (hr : r ≤ L) (h1 : p + 1 + y.1.length ≤ r) : ClO L p (guS T L y r) := by
  have s1 := sk_ge (T := T) hr
  have s2 := sk_le (T := T) hr
  by_cases h : ch T L (skp T L r) = 63
  · have hlt := ch_skl (c := 63) (by omega) h
    have k := suS_ok (T := T) (L := L) 6 (skp T L r + 1) (by omega)
    rcases h2 : suS T L 6 (skp T L r + 1) with ⟨q, _ | x⟩
    · rw [guS_n h h2]
      exact ClO_n (k.1 _ h2)
    · obtain ⟨a1, a2, a3⟩ := k.2 _ _ h2
      rw [guS_s h h2]
      exact ClO_s (by omega) a2 (fun n => by rw [kd_1]; omega)
  · rw [guS_e h]
    exact ClO_n s2
theorem c3S_ok (hq : q ≤ L) (h1 : p + 1 ≤ q) : ClO L p (c3S T L q) := by
  by_cases h : ch T L q = 33 ∨ ch T L q = 40
  · have k := coS_ok (T := T) (L := L) 6 q hq
    rcases h2 : coS T L (unS T L 6) q with ⟨r, _ | y⟩
    · rw [c3S_1 h h2]
      exact ClO_n (k.1 _ h2)
    · obtain ⟨a1, a2, a3⟩ := k.2 _ _ h2
      rw [c3S_2 h h2]
      exact guS_ok a2 (by omega)
  · have k := suS_ok (T := T) (L := L) 6 q hq
    rcases h2 : suS T L 6 q with ⟨r, _ | x⟩
    · rw [c3S_3 h h2]
      exact ClO_n (k.1 _ h2)
    · obtain ⟨a1, a2, a3⟩ := k.2 _ _ h2
      have s1 := sk_ge (T := T) a2
      have s2 := sk_le (T := T) a2
      by_cases h3 : skp T L r < L ∧ o3 (T (skp T L r)) = true
      · have k2 := cbS_ok (T := T) (x := x) (p0 := q) s2 (by omega) (by omega)
        rcases h4 : cbS T L x (skp T L r) with ⟨r2, _ | y⟩
        · rw [c3S_5 h h2 h3 h4]
          exact ClO_n (k2.1 _ h4)
        · obtain ⟨b1, b2, b3⟩ := k2.2 _ _ h4
          rw [c3S_6 h h2 h3 h4]
          exact guS_ok b2 (by omega)
      · rw [c3S_4 h h2 h3]
        exact ClO_s (by omega) s2 (fun n => by rw [kd_0]; omega)
theorem clS_ok (hp : p ≤ L) : ClO L p (clS T L p) := by
  have s1 := sk_ge (T := T) hp
  have s2 := sk_le (T := T) hp
  unfold clS
  by_cases h : ch T L (skp T L p) = 121
  · have hlt := ch_skl (c := 121) (by omega) h
    have s3 := sk_ge (T := T) (L := L) (p := skp T L p + 1) (by omega)
    have s4 := sk_le (T := T) (L := L) (p := skp T L p + 1) (by omega)
    rw [if_pos h]
    by_cases h2 : ch T L (skp T L (skp T L p + 1)) = 58
    · have hlt2 := ch_skl (c := 58) (by omega) h2
      have s5 := sk_ge (T := T) (L := L) (p := skp T L (skp T L p + 1) + 1) (by omega)
      have s6 := sk_le (T := T) (L := L) (p := skp T L (skp T L p + 1) + 1) (by omega)
      rw [if_pos h2]
      exact c3S_ok s6 (by omega)
    · rw [if_neg h2]
      exact ClO_n s4
  · rw [if_neg h]
    exact ClO_n s2
/-! the class -/
def CK (a n : Nat) (X : Tb) (res : Nat × Option CL) (out : Option (Int32 × Tb)) : Prop := (∀ r c, res = (r, some c) → out = some (1, pP (eP X a (kdC n c)) r)) ∧ (∀ r, res = (r, none) → ∃ X', out = some (0, pP X' r) ∧ FlX a X X')
theorem CK_n {out : Option (Int32 × Tb)} (h : ∃ X', out = some (0, pP X' r) ∧ FlX a X X') : CK a n X (r, none) out := ⟨fun r x e => by have := (Prod.mk.inj e).2; simp at this, fun r' e => by rw [← (Prod.mk.inj e).1]; exact h⟩
theorem CK_s {out : Option (Int32 × Tb)} (h : out = some (1, pP (eP X a (kdC n cl)) r)) : CK a n X (r, some cl) out := ⟨fun r' x' e => by rw [← (Prod.mk.inj e).1, ← Option.some.inj (Prod.mk.inj e).2]; exact h, fun r' e => by have := (Prod.mk.inj e).2; simp at this⟩
theorem e1_patch {v : Int32} {c : Int} (h : X a 2 = nI n) (hn : n < 2 ^ 31) (hk : k ≠ n) : u2 (e1 X a c) (a + 1) k v = e1 (u2 X (a + 1) k v) a c := by
  unfold e1
  rw [u2r _ _ _ _ _ (show a ≠ a + 1 by omega), h, nI_clamp hn, u2_c _ _ _ (show a ≠ a + 1 ∨ 2 ≠ k by omega), u2_c _ _ _ (show a + 1 ≠ a + 1 ∨ n ≠ k by omega)]
theorem eP_patch {v : Int32} : ∀ cs X n, X a 2 = nI n → n + cs.length < 2 ^ 31 → k < n → u2 (eP X a cs) (a + 1) k v = eP (u2 X (a + 1) k v) a cs := by
  intro cs
  induction cs with
  | nil => intro X n _ _ _; rfl
  | cons c cs ih =>
    intro X n h hn hk
    rw [List.length_cons] at hn
    rw [eP, eP, ih _ _ (e1_sz h) (by omega) (by omega), e1_patch h (by omega) (by omega)]
theorem e1_same {c c' : Int} (h : X a 2 = nI n) (hn : n < 2 ^ 31) : u2 (e1 X a c) (a + 1) n (zI c') = e1 X a c' := by
  unfold e1
  rw [h, nI_clamp hn, u2_c _ _ _ (show a ≠ a + 1 ∨ 2 ≠ n by omega), u2_2]
theorem c_guard (hT : OkT T L) (ha : 2 < a) (hX : TaC T L X) (h0 : X a 2 = nI n0) (hr : r ≤ L) (h5 : n0 + y.1.length + 1 ≤ r) : CK a n0 X (guS T L y r) (bn2 (fX10_takes 63 (pP (eP X a y.1) r)) fun v26 i27 => if v26 = 0 then (some (0, i27)) else (bn2 (fX4_readGuarded a i27) fun v29 i30 => if v29 = 0 then (some (0, i30)) else (some (1, i30)))) := by
  have hL := hT.1
  have s1 := sk_ge (T := T) hr
  have s2 := sk_le (T := T) hr
  have hX1 := TaC_x ha hX (eP_fr (a := a) y.1 X)
  have hz1 := eP_sz (a := a) y.1 X n0 h0
  rw [show (63 : Int32) = nI 63 from rfl, c_takes hT hX1 hr (by omega)]
  by_cases h : ch T L (skp T L r) = nI 63
  · have hlt := ch_skl (c := 63) (by omega) h
    rw [if_pos h, mz_b2, if_neg (show ¬ (1 : Int32) = 0 by decide)]
    unfold fX4_readGuarded
    have hz2 := e1_sz (c := -1000) hz1
    have hX2 := TaC_x ha hX1 (e1_fr (a := a) (X := eP X a y.1) (c := -1000))
    have k := c_sum hT ha 6 0 12 (by omega) (by omega) (e1 (eP X a y.1) a (-1000)) _ (skp T L r + 1) hX2 hz2 (by omega) (by omega)
    rw [show (-1000 : Int32) = zI (-1000) from by decide +kernel, c_emit ha hz1 (by omega), mz_b1]
    rcases h2 : suS T L 6 (skp T L r + 1) with ⟨q, _ | x⟩
    · obtain ⟨X', e1', e2⟩ := k.2 _ h2
      have e1'' : fX4_readSum 12 a 0 (pP (e1 (eP X a y.1) a (-1000)) (skp T L r + 1)) = some (0, pP X' q) := e1'
      rw [guS_n h h2, e1'', mz_b2, if_pos rfl, mz_b2, if_pos rfl]
      exact CK_n ⟨X', rfl, FlX_t (FrX_t (eP_fr _ _) e1_fr) e2⟩
    · have e1' := k.1 _ _ h2
      obtain ⟨b1, b2, b3⟩ := (suS_ok (T := T) (L := L) 6 (skp T L r + 1) (by omega)).2 _ _ h2
      have hz3 := eP_sz (a := a) x.1 _ _ hz2
      have hz4 := e1_sz (c := -7) hz3
      have e1'' : fX4_readSum 12 a 0 (pP (e1 (eP X a y.1) a (-1000)) (skp T L r + 1)) = some (1, pP (eP (e1 (eP X a y.1) a (-1000)) a x.1) q) := e1'
      rw [guS_s h h2, e1'', mz_b2, if_neg (show ¬ (1 : Int32) = 0 by decide), show (-7 : Int32) = zI (-7) from by decide +kernel, c_emit ha hz3 (by omega), mz_b1, pP_r (by omega), hz1, if_neg (nI_ge (by omega) (by omega)), if_pos (mz_in (by omega) (by omega)), mz_lt, mz_b2, if_neg (show ¬ (1 : Int32) = 0 by decide), nI_clamp (by omega), pP_r (by omega), hz4, zI_n, zI_sub, pP_c (by omega)]
      refine CK_s ?_
      congr 3
      have e3 : e1 (eP (e1 (eP X a y.1) a (-1000)) a x.1) a (-7) = eP (e1 (eP X a y.1) a (-1000)) a (x.1 ++ [-7]) := by rw [eP_app]; rfl
      have e4 : eP X a (kdC n0 (some y, x)) = eP (e1 (eP X a y.1) a (-1000 - ((n0 + y.1.length + x.1.length + 2 : Nat) : Int))) a (x.1 ++ [-7]) := by
        show eP X a (y.1 ++ ((-1000 - ((n0 + y.1.length + x.1.length + 2 : Nat) : Int)) :: (x.1 ++ [-7]))) = _
        rw [eP_app]
        rfl
      rw [e3, e4, eP_patch _ _ _ hz2 (by rw [List.length_append]; show _ + (x.1.length + 1) < _; omega) (by omega), show n0 + y.1.length + 1 + x.1.length + 1 = n0 + y.1.length + x.1.length + 2 by omega, e1_same hz1 (by omega)]
  · rw [if_neg h, mz_b2, if_pos rfl, guS_e h]
    exact CK_n ⟨_, rfl, eP_fr _ _, n0 + y.1.length, by omega, hz1⟩
/-- a condition whose first sum has been read -/
theorem c_condb (hT : OkT T L) (ha : 2 < a) (hX : TaC T L X) (h0 : X a 2 = nI n0) (hp : p ≤ L) (hpp : 0 < p) (h5 : n0 + x.1.length ≤ p) : CR a X (cbS T L x p) (fX4_readCondition (fX4_readUnit 12) a 0 1 (pP (eP X a x.1) p)) := by
  have hL := hT.1
  have s1 := sk_ge (T := T) hp
  have s2 := sk_le (T := T) hp
  have hX1 := TaC_x ha hX (eP_fr (a := a) x.1 X)
  have hU := c_unit hT ha 6 0 12 (by omega) (by omega)
  obtain ⟨fu, hfu, hfu2⟩ := fuel_g
  have hk := c_cmp (gu := fX4_readUnit 11) (d := 0) (e := 6) (x := x) hT ha (by omega) hX h0 s2 (by omega)
  have e0 : fX4_readUnit 12 a 0 1 (pP (eP X a x.1) p) = fX4_readUnit_105 (fX4_readUnit 11) a 0 (pP (eP X a x.1) (skp T L p)) := by
    rw [show (12 : Nat) = 11 + 1 from rfl, fX4_readUnit]
    unfold fX4_readUnitb fX4_readUnit_90
    rw [c_ahead hT hX1 hp, mz_b2, if_neg (show ¬ (1 : Int32) = 0 by decide), if_neg (show ¬ (1 : Int32) = 0 by decide)]
  have ecp : cpS T L 6 x (skp T L p) = cpS T L 6 x p := by unfold cpS; rw [sk_id hp]
  rw [ecp] at hk
  unfold fX4_readCondition fX4_readTruth
  rw [e0, hfu]
  rcases h1 : cpS T L 6 x p with ⟨r0, _ | x0⟩
  · obtain ⟨X', e1', e2⟩ := hk.2 _ h1
    have e1'' : fX4_readUnit_105 (fX4_readUnit 11) a 0 (pP (eP X a x.1) (skp T L p)) = some (0, pP X' r0) := e1'
    rw [cbS_1 h1, e1'', mz_b2, if_pos rfl, mz_b2, if_pos rfl]
    exact CR_n ⟨X', rfl, e2⟩
  · have e1' := hk.1 _ _ h1
    have e1'' : fX4_readUnit_105 (fX4_readUnit 11) a 0 (pP (eP X a x.1) (skp T L p)) = some (1, pP (eP X a x0.1) r0) := e1'
    rw [e1'', mz_b2, if_neg (show ¬ (1 : Int32) = 0 by decide)]
    have hb : r0 ≤ L ∧ n0 + x0.1.length ≤ r0 := by
      by_cases h0 : skp T L p < L ∧ o3 (T (skp T L p)) = true
      · rcases hr : suS T L 6 (skp T L p + 1) with ⟨r9, _ | x9⟩
        · rw [cpS_n h0 hr] at h1
          have := (Prod.mk.inj h1).2
          simp at this
        · rw [cpS_s h0 hr] at h1
          obtain ⟨b1, b2, b3⟩ := (suS_ok (T := T) (L := L) 6 (skp T L p + 1) (by omega)).2 _ _ hr
          obtain ⟨f1, f2⟩ := Prod.mk.inj h1
          rw [← Option.some.inj f2, jV_len]
          omega
      · rw [cpS_e h0] at h1
        have := (Prod.mk.inj h1).2
        simp at this
    have kt := c_truth_l (g := unS T L 6) (gu := fX4_readUnit 12) (d := 0) hT ha hU (unS_ok 6) hX h0 fu 300 x0 r0 0 hb.1 (by omega) (by omega) (by omega) hb.2
    rcases h2 : lpS T L o4 (unS T L 6) 300 x0 r0 with ⟨r2, _ | x2⟩
    · obtain ⟨X', f1, f2⟩ := kt.2 _ h2
      have f1' : fX4_readTruth_15 (fX4_readUnit 12) a fu 0 0 (pP (eP X a x0.1) r0) = some (0, pP X' r2) := f1
      rw [cbS_2 h1 h2, f1', mz_b2, if_pos rfl]
      exact CR_n ⟨X', rfl, f2⟩
    · have f1 := kt.1 _ _ h2
      have f1' : fX4_readTruth_15 (fX4_readUnit 12) a fu 0 0 (pP (eP X a x0.1) r0) = some (1, pP (eP X a x2.1) r2) := f1
      rw [cbS_3 h1 h2, f1', mz_b2, if_neg (show ¬ (1 : Int32) = 0 by decide)]
      have hb2 : r2 ≤ L ∧ n0 + x2.1.length ≤ r2 := by
        by_cases hn : n0 + x0.1.length < r0
        · have k1 := lpS_ok (T := T) (o := o4) (p0 := n0) (unS_ok (T := T) (L := L) 6) 300 x0 r0 hb.1 (by omega) hb.2
          obtain ⟨b1, b2, b3⟩ := k1.2 _ _ h2
          exact ⟨b2, b3⟩
        · have hr0 : 0 < r0 := by
            have := (cpS_ok (T := T) (L := L) (e := 6) (x := ([], fun _ => 0)) (p0 := 0) hp hpp (by show 0 + 0 ≤ p; omega)).2
            by_cases h0 : skp T L p < L ∧ o3 (T (skp T L p)) = true
            · rcases hr : suS T L 6 (skp T L p + 1) with ⟨r9, _ | x9⟩
              · rw [cpS_n h0 hr] at h1
                have := (Prod.mk.inj h1).2
                simp at this
              · have e9 := this _ _ (cpS_s h0 hr)
                rw [cpS_s h0 hr] at h1
                have := (Prod.mk.inj h1).1
                omega
            · rw [cpS_e h0] at h1
              have := (Prod.mk.inj h1).2
              simp at this
          by_cases hn0 : n0 < r0
          · have k1 := lpS_ok (T := T) (o := o4) (p0 := n0) (unS_ok (T := T) (L := L) 6) 300 x0 r0 hb.1 hn0 hb.2
            obtain ⟨b1, b2, b3⟩ := k1.2 _ _ h2
            exact ⟨b2, b3⟩
          · have k1 := lpS_ok (T := T) (o := o4) (p0 := n0 - 1) (unS_ok (T := T) (L := L) 6) 300 x0 r0 hb.1 (by omega) (by omega)
            obtain ⟨b1, b2, b3⟩ := k1.2 _ _ h2
            have hnp : n0 = r0 := by omega
            have hx0 : x0.1.length = 0 := by omega
            exfalso
            by_cases h0 : skp T L p < L ∧ o3 (T (skp T L p)) = true
            · rcases hr : suS T L 6 (skp T L p + 1) with ⟨r9, _ | x9⟩
              · rw [cpS_n h0 hr] at h1
                have := (Prod.mk.inj h1).2
                simp at this
              · rw [cpS_s h0 hr] at h1
                have := Option.some.inj (Prod.mk.inj h1).2
                rw [← this, jV_len] at hx0
                omega
            · rw [cpS_e h0] at h1
              have := (Prod.mk.inj h1).2
              simp at this
      exact c_cond_l (g := trS T L (unS T L 6)) (gu := fX4_readUnit 12) (d := 0) hT ha (c_truth hT ha hU (unS_ok 6)) (trS_ok 6) hX h0 fu 300 x2 r2 0 hb2.1 (by omega) (by omega) (by omega) hb2.2
end LK
