/-! laws: both sides; lines as they are read -/
abbrev SP : Type := Nat × Nat × Option Nat
def stS (T : Nat → Nat) (L p : Nat) : Nat × Option SP := match fnC (fun z => aCh 3 (nI z)) (ch T L (skp T L p)) 6 0 with
  | none => (skp T L p, none)
  | some kd => if dgt T L (skp T L (skp T L p + 1)) = true then
      (if kd = 0 ∨ kd = 1 ∨ kd = 4 then
        (if dgt T L (skp T L (skp T L (skp T L p + 1) + 1)) = true ∧ (kd = 1 → T (skp T L (skp T L (skp T L p + 1) + 1)) - 48 ≤ 2) then (skp T L (skp T L (skp T L p + 1) + 1) + 1, some (kd, T (skp T L (skp T L p + 1)) - 48, some (T (skp T L (skp T L (skp T L p + 1) + 1)) - 48))) else (skp T L (skp T L (skp T L p + 1) + 1), none))
      else (skp T L (skp T L p + 1) + 1, some (kd, T (skp T L (skp T L p + 1)) - 48, none)))
    else (skp T L (skp T L p + 1), none)
def wS (X : Tb) (w f : Nat) (s : SP) : Tb := u2 (u2 (u2 X w f (nI s.1)) w (f + 1) (nI s.2.1)) w (f + 2) (oI s.2.2)
def lnS (T : Nat → Nat) (L : Nat) : Nat → Nat → Nat × Option (List SP)
  | 0, p => (p, none)
  | m + 1, p => match stS T L p with
    | (r, none) => (r, none)
    | (r, some s) => if L ≤ skp T L r then (skp T L r, some [s]) else if m = 0 ∨ ¬ ch T L (skp T L r) = 59 then (skp T L r, none) else (match lnS T L m (skp T L r + 1) with
      | (r2, none) => (r2, none)
      | (r2, some ss) => (r2, some (s :: ss)))
def wC (a : Nat) : Tb → Nat → List SP → Tb
  | X, _, [] => X
  | X, k, s :: ss => wC a (u2 (wS X (a + 1) (3 * k) s) a 1 (nI (k + 1))) (k + 1) ss
def wM : Tb → Nat → List SP → Tb
  | Y, _, [] => Y
  | Y, f, s :: ss => wM (wS Y 61 f s) (f + 3) ss
theorem qONE : (1 : Int32) = nI 1 := rfl
theorem qTWO : (2 : Int32) = nI 2 := rfl
section LL
variable {X X' X'' i i' Y Y' j j' : Tb} {rv : Nat → Nat → Option Nat} {T : Nat → Nat} {L B w a p q r n d e m k c z f kd : Nat} {x y : VL} {v : Int32} {l : Nat → Int} {cl : CL} {cls : List CL} {s : SP} {ss : List SP}
theorem guS_ev (hr : r ≤ L) (hy : EvO 19 y ∧ BoO y) (h : guS T L y r = (q, some cl)) : ClE cl := by
  by_cases h1 : ch T L (skp T L r) = 63
  · have hlt := ch_skl (c := 63) (by omega) h1
    rcases h2 : suS T L 6 (skp T L r + 1) with ⟨q2, _ | x⟩
    · rw [guS_n h1 h2] at h
      have := (Prod.mk.inj h).2
      simp at this
    · rw [guS_s h1 h2] at h
      have := Option.some.inj (Prod.mk.inj h).2
      subst this
      exact ⟨suS_ev 6 _ _ _ (by omega) h2, hy.1, hy.2⟩
  · rw [guS_e h1] at h
    have := (Prod.mk.inj h).2
    simp at this
theorem c3S_ev (hq : q ≤ L) (h : c3S T L q = (r, some cl)) : ClE cl := by
  by_cases h1 : ch T L q = 33 ∨ ch T L q = 40
  · rcases h2 : coS T L (unS T L 6) q with ⟨r2, _ | y⟩
    · rw [c3S_1 h1 h2] at h
      have := (Prod.mk.inj h).2
      simp at this
    · rw [c3S_2 h1 h2] at h
      exact guS_ev ((coS_ok (T := T) (L := L) 6 q hq).2 _ _ h2).2.1 (coS_ev hq h2) h
  · rcases h2 : suS T L 6 q with ⟨r2, _ | x⟩
    · rw [c3S_3 h1 h2] at h
      have := (Prod.mk.inj h).2
      simp at this
    · obtain ⟨b1, b2, b3⟩ := (suS_ok (T := T) (L := L) 6 q hq).2 _ _ h2
      have ev := suS_ev (T := T) (L := L) 6 _ _ _ hq h2
      have t1 := sk_ge (T := T) b2
      have t2 := sk_le (T := T) b2
      by_cases h3 : skp T L r2 < L ∧ o3 (T (skp T L r2)) = true
      · rcases h4 : cbS T L x (skp T L r2) with ⟨r3, _ | y⟩
        · rw [c3S_5 h1 h2 h3 h4] at h
          have := (Prod.mk.inj h).2
          simp at this
        · rw [c3S_6 h1 h2 h3 h4] at h
          exact guS_ev ((cbS_ok (T := T) (x := x) (p0 := q) t2 (by omega) (by omega)).2 _ _ h4).2.1 (cbS_ev ev h4) h
      · rw [c3S_4 h1 h2 h3] at h
        have := Option.some.inj (Prod.mk.inj h).2
        subst this
        exact ev
theorem clS_ev (hp : p ≤ L) (h : clS T L p = (r, some cl)) : ClE cl := by
  unfold clS at h
  by_cases h1 : ch T L (skp T L p) = 121
  · have hlt := ch_skl (c := 121) (by omega) h1
    rw [if_pos h1] at h
    by_cases h2 : ch T L (skp T L (skp T L p + 1)) = 58
    · have hlt2 := ch_skl (c := 58) (by omega) h2
      rw [if_pos h2] at h
      exact c3S_ev (sk_le (by omega)) h
    · rw [if_neg h2] at h
      have := (Prod.mk.inj h).2
      simp at this
  · rw [if_neg h1] at h
    have := (Prod.mk.inj h).2
    simp at this
theorem lwS_ev : ∀ m p r cls, p ≤ L → lwS T L m p = (r, some cls) → ∀ c, c ∈ cls → ClE c := by
  intro m
  induction m with
  | zero => intro p r cls _ h; rw [lwS] at h; have := (Prod.mk.inj h).2; simp at this
  | succ m ih =>
    intro p r cls hp h c hc
    rcases h1 : clS T L p with ⟨r0, _ | cl⟩
    · rw [lwS_1 h1] at h
      have := (Prod.mk.inj h).2
      simp at this
    · obtain ⟨b1, b2, b3⟩ := (clS_ok (T := T) hp).2 _ _ h1
      have hcl := clS_ev hp h1
      by_cases h6 : L ≤ skp T L r0
      · rw [lwS_2 h1 h6] at h
        rw [← Option.some.inj (Prod.mk.inj h).2] at hc
        rw [List.mem_singleton.mp hc]
        exact hcl
      · by_cases h7 : ch T L (skp T L r0) = 59
        · have hlt := ch_skl (c := 59) (by omega) h7
          rcases h8 : lwS T L m (skp T L r0 + 1) with ⟨q, _ | cls2⟩
          · rw [lwS_4 h1 h6 h7 h8] at h
            have := (Prod.mk.inj h).2
            simp at this
          · rw [lwS_5 h1 h6 h7 h8] at h
            rw [← Option.some.inj (Prod.mk.inj h).2] at hc
            rcases List.mem_cons.mp hc with e | e
            · rw [e]; exact hcl
            · exact ih _ _ _ (by omega) h8 c e
        · rw [lwS_3 h1 h6 h7] at h
          have := (Prod.mk.inj h).2
          simp at this
theorem cZ_v : cZ 0 = 110 ∧ cZ 1 = 119 ∧ cZ 2 = 116 ∧ cZ 3 = 99 ∧ cZ 4 = 111 ∧ cZ 5 = 115 := by decide +kernel
/-- a text that is a law is worth the same to both -/
theorem T_law (hT : OkT T L) (h : lwS T L 300 0 = (r, some cls)) : TextOK T L (fun l => lwV (l6 l) cls) ∧ WorthOK (lwC 0 cls) (fun l => lwV (l6 l) cls) := by
  have hL := hT.1
  have hC := lwS_ev 300 0 r cls (by omega) h
  refine ⟨?_, C_worth hC⟩
  intro j rv x l hx hj hl hb
  have hm := mil_6 hb
  refine ⟨lwV_b hm cls hC, ?_⟩
  have hi : i32 (l6 l) := fun z => by have := hm z; omega
  obtain ⟨c0, c1, c2, c3, c4, c5⟩ := cZ_v
  obtain ⟨l0, l1, l2, l3, l4, l5⟩ := hl
  have hlt : LtM (l6 l) j := by
    intro z hz
    unfold l6
    rw [if_pos hz, ← zI_n]
    rcases (show z = 0 ∨ z = 1 ∨ z = 2 ∨ z = 3 ∨ z = 4 ∨ z = 5 by omega) with rfl | rfl | rfl | rfl | rfl | rfl
    · rw [c0]; exact l0
    · rw [c1]; exact l1
    · rw [c2]; exact l2
    · rw [c3]; exact l3
    · rw [c4]; exact l4
    · rw [c5]; exact l5
  obtain ⟨j', e1, e2, e3, e4, e5⟩ := (M_law (j := j) (rv := rv) (B := 240 * x) (w := 52) hT hi (Or.inr rfl) (by show 240 * x + L ≤ 960; omega) hj hlt).1 _ _ h
  exact ⟨j', e1, e3, e4, e5⟩
/-! lines -/
theorem wS_fr : Fr [w] X (wS X w f s) := Fr_t Fr_u (Fr_t Fr_u Fr_u)
theorem wS_p (h : w ≠ 1) : wS (pP X p) w f s = pP (wS X w f s) p := by
  unfold wS
  rw [pP_c (by omega), pP_c (by omega), pP_c (by omega)]
theorem wS_m (h : w ≠ 50) : wS (mP X p) w f s = mP (wS X w f s) p := by
  unfold wS
  rw [mP_c (by omega), mP_c (by omega), mP_c (by omega)]
theorem wS_v : wS X w f s w f = nI s.1 ∧ wS X w f s w (f + 1) = nI s.2.1 ∧ wS X w f s w (f + 2) = oI s.2.2 ∧ ∀ k, (k < f ∨ f + 3 ≤ k) → wS X w f s w k = X w k := by
  unfold wS
  refine ⟨?_, ?_, u2e _ _ _ _, fun k hk => ?_⟩
  · rw [u2n _ _ _ _ _ (by omega), u2n _ _ _ _ _ (by omega), u2e]
  · rw [u2n _ _ _ _ _ (by omega), u2e]
  · rw [u2n _ _ _ _ _ (by omega), u2n _ _ _ _ _ (by omega), u2n _ _ _ _ _ (by omega)]
theorem TaC_r (h : TaC T L X) (hf : Fr [w] X X') (hw : 2 < w) : TaC T L X' := ⟨by rw [hf 1 (by simp; omega)]; exact h.1, by rw [hf 2 (by simp; omega)]; exact h.2⟩
theorem TxM_r (h : TxM T L B q Y rv) (hf : Fr [w] Y Y') (hw : 52 < w) : TxM T L B q Y' rv := by
  obtain ⟨h1, h2, h3, h4, h5, h6⟩ := h
  exact ⟨by rw [hf 50 (by simp; omega)]; exact h1, by rw [hf 50 (by simp; omega)]; exact h2, h3, h4, h5, by rw [hf q (by simp; omega)]; exact h6⟩
theorem kd_lt (h : fnC (fun z => aCh 3 (nI z)) (ch T L (skp T L p)) 6 0 = some z) : skp T L p < L ∧ z < 6 := by
  obtain ⟨_, e2, e3⟩ := fnC_lt 6 0 h
  refine ⟨?_, by omega⟩
  by_cases h1 : skp T L p < L
  · exact h1
  · rw [ch_out (by omega)] at e3
    exact absurd e3 ((by decide +kernel : ∀ z, z < 6 → ¬ aCh 3 (nI z) = NN) z (by omega))
/-- the class reads a step -/
theorem c_stp (hT : OkT T L) (ha : 2 < a) (hX : TaC T L X) (hp : p ≤ L) (hf : f + 2 < 48) :
    (∀ r s, stS T L p = (r, some s) → fX5_readStep a (nI f) (pP X p) = some (1, pP (wS X (a + 1) f s) r) ∧ p < r ∧ r ≤ L ∧ s.1 < 6) ∧ (∀ r, stS T L p = (r, none) → (∃ X', fX5_readStep a (nI f) (pP X p) = some (0, pP X' r) ∧ Fr [a + 1] X X') ∧ r ≤ L) := by
  have hL := hT.1
  have s1 := sk_ge (T := T) hp
  have s2 := sk_le (T := T) hp
  unfold fX5_readStep stS
  rw [c_ahead hT hX hp, mz_b2, c_kindOf, mz_b1, qN1]
  cases hz : fnC (fun z => aCh 3 (nI z)) (ch T L (skp T L p)) 6 0 with
  | none =>
    rw [if_pos (show oI none = NN from rfl)]
    refine ⟨fun r s e => by have := (Prod.mk.inj e).2; simp at this, fun r e => ?_⟩
    rw [← (Prod.mk.inj e).1]
    exact ⟨⟨X, rfl, Fr_r _ _⟩, s2⟩
  | some kd =>
    obtain ⟨hlt, hk6⟩ := kd_lt hz
    have s3 := sk_ge (T := T) (L := L) (p := skp T L p + 1) (by omega)
    have s4 := sk_le (T := T) (L := L) (p := skp T L p + 1) (by omega)
    have hX1 : TaC T L (u2 X (a + 1) f (nI kd)) := TaC_u hX (by omega)
    rw [if_neg (show ¬ oI (some kd) = NN by show ¬ nI kd = NN; rw [mz_nm (by omega)]; exact fun e => e), c_pass hL hX hlt, mz_b1, if_pos (mz_in (by omega) (by omega)), mz_lt, nI_clamp (by omega), pP_c (by omega), show oI (some kd) = nI kd from rfl, c_digit hT hX1 (by omega)]
    dsimp only
    have e1 : nI f + 1 = nI (f + 1) := nI_1 f
    have e2 : nI f + 2 = nI (f + 2) := by rw [q2, nI_add]
    rw [e1, e2]
    generalize hq1 : skp T L (skp T L p + 1) = q1 at *
    by_cases h1 : dgt T L q1 = true
    · have h1' := dgt_of h1
      have s5 := sk_ge (T := T) (L := L) (p := q1 + 1) (by omega)
      have s6 := sk_le (T := T) (L := L) (p := q1 + 1) (by omega)
      rw [if_pos h1, if_pos h1, mz_b2, if_pos (mz_in (by omega) (by omega)), mz_lt, if_pos (mz_in (by omega) (by omega)), mz_lt, if_pos (mz_in (by omega) (by omega)), nI_clamp (by omega), nI_clamp (by omega), pP_c (by omega), pP_c (by omega), pP_r (by omega), u2n _ _ _ _ _ (by omega), u2e, if_neg (show ¬ nI (T q1 - 48) = NN by rw [mz_nm (by omega)]; exact fun e => e)]
      have hX2 : TaC T L (u2 (u2 (u2 X (a + 1) f (nI kd)) (a + 1) (f + 1) (nI (T q1 - 48))) (a + 1) (f + 2) NN) := TaC_u (TaC_u hX1 (by omega)) (by omega)
      have k77 : kd = 0 ∨ kd = 1 ∨ kd = 4 → (∀ r s, (if dgt T L (skp T L (q1 + 1)) = true ∧ (kd = 1 → T (skp T L (q1 + 1)) - 48 ≤ 2) then (skp T L (q1 + 1) + 1, some ((kd, T q1 - 48, some (T (skp T L (q1 + 1)) - 48)) : SP)) else (skp T L (q1 + 1), none)) = (r, some s) → fX5_readStep_77 a (nI f) (nI kd) (pP (u2 (u2 (u2 X (a + 1) f (nI kd)) (a + 1) (f + 1) (nI (T q1 - 48))) (a + 1) (f + 2) NN) (q1 + 1)) = some (1, pP (wS X (a + 1) f s) r) ∧ p < r ∧ r ≤ L ∧ s.1 < 6) ∧ (∀ r, (if dgt T L (skp T L (q1 + 1)) = true ∧ (kd = 1 → T (skp T L (q1 + 1)) - 48 ≤ 2) then (skp T L (q1 + 1) + 1, some ((kd, T q1 - 48, some (T (skp T L (q1 + 1)) - 48)) : SP)) else (skp T L (q1 + 1), none)) = (r, none) → (∃ X', fX5_readStep_77 a (nI f) (nI kd) (pP (u2 (u2 (u2 X (a + 1) f (nI kd)) (a + 1) (f + 1) (nI (T q1 - 48))) (a + 1) (f + 2) NN) (q1 + 1)) = some (0, pP X' r) ∧ Fr [a + 1] X X') ∧ r ≤ L) := by
        intro hk
        have frX : ∀ v, Fr [a + 1] X (u2 (u2 (u2 X (a + 1) f (nI kd)) (a + 1) (f + 1) (nI (T q1 - 48))) (a + 1) (f + 2) v) := fun v => Fr_t Fr_u (Fr_t Fr_u Fr_u)
        unfold fX5_readStep_77 fX5_readStep_100
        rw [c_digit hT hX2 (by omega), e2]
        generalize hq2 : skp T L (q1 + 1) = q2 at *
        have e1k : (nI kd = 1) = (kd = 1) := by rw [qONE, mz_eq (by omega) (by omega)]
        by_cases h2 : dgt T L q2 = true
        · have h2' := dgt_of h2
          have e3 : (nI (T q2 - 48) ≤ 2) = (T q2 - 48 ≤ 2) := by rw [qTWO, mz_le (by omega) (by omega)]
          have hne : ¬ nI (T q2 - 48) = -1 := by rw [qN1, mz_nm (by omega)]; exact fun e => e
          have done : (if aIn (nI (f + 2)) 48 = true then (lt (u2 (pP (u2 (u2 (u2 X (a + 1) f (nI kd)) (a + 1) (f + 1) (nI (T q1 - 48))) (a + 1) (f + 2) NN) (q2 + 1)) (a + 1) (nI (f + 2)).toNatClampNeg (nI (T q2 - 48))) fun i19 => if nI (T q2 - 48) = -1 then some ((0 : Int32), i19) else some (1, i19)) else none) = some (1, pP (wS X (a + 1) f (kd, T q1 - 48, some (T q2 - 48))) (q2 + 1)) := by
            rw [if_pos (mz_in (by omega) (by omega)), mz_lt, nI_clamp (by omega), if_neg hne, pP_c (by omega), u2_2]
            rfl
          rw [if_pos h2, mz_b2]
          by_cases h3 : kd = 1 → T q2 - 48 ≤ 2
          · rw [if_pos ⟨h2, h3⟩]
            refine ⟨fun r s e => ?_, fun r e => by have := (Prod.mk.inj e).2; simp at this⟩
            rw [← (Prod.mk.inj e).1, ← Option.some.inj (Prod.mk.inj e).2]
            refine ⟨?_, by omega, by omega, hk6⟩
            by_cases h4 : kd = 1
            · rw [if_pos (e1k.mpr h4), if_pos (e3.mpr (h3 h4))]
              exact done
            · rw [if_neg (fun e => h4 (e1k.mp e))]
              exact done
          · have h4 : kd = 1 := Classical.byContradiction (fun h4 => h3 (fun e => absurd e h4))
            have h5 : ¬ T q2 - 48 ≤ 2 := fun h5 => h3 (fun _ => h5)
            rw [if_neg (fun e => h3 e.2), if_pos (e1k.mpr h4), if_neg (fun e => h5 (e3.mp e)), c_stay hL h2'.1, mz_b1]
            refine ⟨fun r s e => by have := (Prod.mk.inj e).2; simp at this, fun r e => ?_⟩
            rw [← (Prod.mk.inj e).1]
            exact ⟨⟨_, rfl, frX _⟩, by omega⟩
        · have hfail : (if aIn (nI (f + 2)) 48 = true then (lt (u2 (pP (u2 (u2 (u2 X (a + 1) f (nI kd)) (a + 1) (f + 1) (nI (T q1 - 48))) (a + 1) (f + 2) NN) q2) (a + 1) (nI (f + 2)).toNatClampNeg NN) fun i19 => if NN = -1 then some ((0 : Int32), i19) else some (1, i19)) else none) = some (0, pP (u2 (u2 (u2 X (a + 1) f (nI kd)) (a + 1) (f + 1) (nI (T q1 - 48))) (a + 1) (f + 2) NN) q2) := by
            rw [if_pos (mz_in (by omega) (by omega)), mz_lt, nI_clamp (by omega), if_pos qN1.symm, pP_c (by omega), u2_2]
          rw [if_neg h2, mz_b2, if_neg (fun e => h2 e.1), hfail, if_pos (show NN ≤ 2 by decide)]
          refine ⟨fun r s e => by have := (Prod.mk.inj e).2; simp at this, fun r e => ?_⟩
          rw [← (Prod.mk.inj e).1]
          refine ⟨⟨_, ?_, frX NN⟩, s6⟩
          split <;> rfl
      have d0 : (nI kd = 0) = (kd = 0) := by rw [q0, mz_eq (by omega) (by omega)]
      have d1 : (nI kd = 1) = (kd = 1) := by rw [qONE, mz_eq (by omega) (by omega)]
      have d4 : (nI kd = 4) = (kd = 4) := by rw [q4, mz_eq (by omega) (by omega)]
      by_cases h3 : kd = 0 ∨ kd = 1 ∨ kd = 4
      · have red : ∀ (A C : Option (Int32 × Tb)), (if nI kd = 0 then A else if nI kd = 1 then A else if nI kd = 4 then A else C) = A := by
          intro A C
          rcases h3 with e | e | e
          · rw [if_pos (d0.mpr e)]
          · rw [if_neg (fun h => by have := d0.mp h; omega), if_pos (d1.mpr e)]
          · rw [if_neg (fun h => by have := d0.mp h; omega), if_neg (fun h => by have := d1.mp h; omega), if_pos (d4.mpr e)]
        rw [red, if_pos h3]
        exact k77 h3
      · rw [if_neg (fun h => h3 (Or.inl (d0.mp h))), if_neg (fun h => h3 (Or.inr (Or.inl (d1.mp h)))), if_neg (fun h => h3 (Or.inr (Or.inr (d4.mp h)))), if_neg h3]
        refine ⟨fun r s e => ?_, fun r e => by have := (Prod.mk.inj e).2; simp at this⟩
        rw [← (Prod.mk.inj e).1, ← Option.some.inj (Prod.mk.inj e).2]
        exact ⟨rfl, by omega, by omega, hk6⟩
    · rw [if_neg h1, if_neg h1, mz_b2, if_pos (mz_in (by omega) (by omega)), mz_lt, if_pos (mz_in (by omega) (by omega)), mz_lt, if_pos (mz_in (by omega) (by omega)), nI_clamp (by omega), nI_clamp (by omega), pP_c (by omega), pP_c (by omega), pP_r (by omega), u2n _ _ _ _ _ (by omega), u2e, if_pos rfl]
      refine ⟨fun r s e => by have := (Prod.mk.inj e).2; simp at this, fun r e => ?_⟩
      rw [← (Prod.mk.inj e).1]
      exact ⟨⟨_, rfl, Fr_t Fr_u (Fr_t Fr_u Fr_u)⟩, s4⟩
end LL
