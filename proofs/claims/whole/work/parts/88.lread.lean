/-! laws: the class reads -/
def e1 (X : Tb) (a : Nat) (c : Int) : Tb := u2 (u2 X (a + 1) (X a 2).toNatClampNeg (zI c)) a 2 (X a 2 + 1)
def eP (X : Tb) (a : Nat) : List Int → Tb
  | [] => X
  | c :: cs => eP (e1 X a c) a cs
def FrX (a : Nat) (X X' : Tb) : Prop := ∀ q k, ¬ (q = a ∧ k = 2) → q ≠ a + 1 → X' q k = X q k
def FlX (a : Nat) (X X' : Tb) : Prop := FrX a X X' ∧ ∃ n, n ≤ 240 ∧ X' a 2 = nI n
def CR (a : Nat) (X : Tb) (res : PR) (out : Option (Int32 × Tb)) : Prop := (∀ r x, res = (r, some x) → out = some (1, pP (eP X a x.1) r)) ∧ (∀ r, res = (r, none) → ∃ X', out = some (0, pP X' r) ∧ FlX a X X')
def CG (T : Nat → Nat) (L a : Nat) (g : Nat → PR) (G : Tb → Option (Int32 × Tb)) : Prop := ∀ X n p, TaC T L X → X a 2 = nI n → n ≤ p → p ≤ L → CR a X (g p) (G (pP X p))
section LC
variable {X X' X'' : Tb} {T : Nat → Nat} {L a p q r n d e m k c z n0 : Nat} {g : Nat → PR} {o : Nat → Bool} {x y : VL} {cs cs' : List Int} {v : Int32} {gs : Nat → Int32 → (Nat → Nat → Int32) → Option ((Int32) × (Nat → Nat → Int32))} {gu : Nat → Int32 → Int32 → (Nat → Nat → Int32) → Option ((Int32) × (Nat → Nat → Int32))}
theorem eP_app : ∀ cs X, eP X a (cs ++ cs') = eP (eP X a cs) a cs' := by
  intro cs
  induction cs with
  | nil => intro X; rfl
  | cons c cs ih => intro X; exact ih (e1 X a c)
theorem e1_sz {c : Int} (h : X a 2 = nI n) : e1 X a c a 2 = nI (n + 1) := by
  unfold e1
  rw [u2e, h, nI_1]
theorem eP_sz : ∀ cs X n, X a 2 = nI n → eP X a cs a 2 = nI (n + cs.length) := by
  intro cs
  induction cs with
  | nil => intro X n h; exact h
  | cons c cs ih =>
    intro X n h
    rw [eP, ih _ _ (e1_sz h), List.length_cons]
    congr 1
    omega
theorem FrX_r : FrX a X X := fun _ _ _ _ => rfl
theorem FrX_t (h : FrX a X X') (h' : FrX a X' X'') : FrX a X X'' := fun q k h1 h2 => (h' q k h1 h2).trans (h q k h1 h2)
theorem e1_fr {c : Int} : FrX a X (e1 X a c) := by
  intro q k h1 h2
  unfold e1
  rw [u2o _ _ (by omega), u2o _ _ (by omega)]
theorem eP_fr : ∀ cs X, FrX a X (eP X a cs) := by
  intro cs
  induction cs with
  | nil => intro X; exact FrX_r
  | cons c cs ih => intro X; exact FrX_t e1_fr (ih _)
theorem FlX_t (h : FrX a X X') (h' : FlX a X' X'') : FlX a X X'' := ⟨FrX_t h h'.1, h'.2⟩
theorem TaC_x (ha : 2 < a) (h : TaC T L X) (hf : FrX a X X') : TaC T L X' := ⟨by rw [hf 1 1 (by omega) (by omega)]; exact h.1, fun k hk => by rw [hf 2 k (by omega) (by omega)]; exact h.2 k hk⟩
theorem c_emit (ha : 2 < a) (h : X a 2 = nI n) (hn : n < 240) {c : Int} : fX4_emit a (zI c) (pP X p) = some (pP (e1 X a c) p) := by
  unfold fX4_emit e1
  rw [pP_r (by omega), h, if_neg (nI_ge hn (by omega)), if_pos (mz_in (by omega) (by omega)), mz_lt, mz_lt, u2r _ _ _ _ _ (by omega), pP_r (by omega), h, pP_c (by omega), pP_c (by omega)]
theorem c_emit_any (ha : 2 < a) (h : X a 2 = nI n) (hn : n ≤ 240) : ∃ X', fX4_emit a v (pP X p) = some (pP X' p) ∧ FlX a X X' := by
  by_cases h1 : n = 240
  · refine ⟨X, ?_, FrX_r, n, hn, h⟩
    unfold fX4_emit
    rw [pP_r (by omega), h, if_pos (nI_le (by omega) (by omega))]
  · refine ⟨e1 X a v.toInt, ?_, e1_fr, n + 1, by omega, e1_sz h⟩
    have := c_emit (p := p) ha h (by omega) (c := v.toInt)
    rw [← zI_of] at this
    exact this
theorem zI_nat (t : Nat) : -nI t = zI (-(t : Int)) := by rw [zI_n, zI_neg]
theorem zI_let (z : Nat) : (-1 : Int32) - nI z = zI (-1 - (z : Int)) := by
  rw [zI_n, show (-1 : Int32) = zI (-1) from by decide +kernel, zI_sub]
theorem CR_n {out : Option (Int32 × Tb)} (h : ∃ X', out = some (0, pP X' r) ∧ FlX a X X') : CR a X (r, none) out := ⟨fun r x e => by have := (Prod.mk.inj e).2; simp at this, fun r' e => by rw [← (Prod.mk.inj e).1]; exact h⟩
theorem CR_s {out : Option (Int32 × Tb)} (h : out = some (1, pP (eP X a x.1) r)) : CR a X (r, some x) out := ⟨fun r' x' e => by rw [← (Prod.mk.inj e).1, ← Option.some.inj (Prod.mk.inj e).2]; exact h, fun r' e => by have := (Prod.mk.inj e).2; simp at this⟩
theorem FlX_0 (h : X a 2 = nI n) (hn : n ≤ 240) : FlX a X X := ⟨FrX_r, n, hn, h⟩
/-- an atom -/
theorem c_atom {go : Option (Nat → PR)} (hT : OkT T L) (ha : 2 < a) (hgo : (go = none ∧ d = 6) ∨ (∃ g, go = some g ∧ d < 6 ∧ CG T L a g (gs a (nI (d + 1))) ∧ SpO L g)) : CG T L a (atS T L go) (fX4_readAtom gs a (nI d)) := by
  intro X n p hX h2 hn hp
  have hL := hT.1
  have s1 := sk_ge (T := T) hp
  have s2 := sk_le (T := T) hp
  have hd6 : d ≤ 6 := by rcases hgo with h | ⟨_, _, h, _⟩ <;> omega
  unfold fX4_readAtom
  rw [c_ahead hT hX hp, mz_b2]
  by_cases h : ch T L (skp T L p) = 91
  · have hlt := ch_skl (c := 91) (by omega) h
    rw [if_pos h]
    rcases hgo with ⟨rfl, rfl⟩ | ⟨g, rfl, hd, hG, hS⟩
    · rw [atS_0 h, if_neg (show ¬ nI 6 < 6 by decide)]
      exact CR_n ⟨X, rfl, FlX_0 h2 (by omega)⟩
    · rw [if_pos (show nI d < 6 by rw [q6, mz_ltp (by omega) (by omega)]; exact hd), c_pass hL hX hlt, mz_b1, q1, nI_add]
      have k := hG X n (skp T L p + 1) hX h2 (by omega) (by omega)
      rcases hr : g (skp T L p + 1) with ⟨r0, _ | x0⟩
      · obtain ⟨X', e1, e2⟩ := k.2 _ hr
        rw [atS_1 h hr, e1, mz_b2, if_pos rfl]
        exact CR_n ⟨X', rfl, e2⟩
      · have e1 := k.1 _ _ hr
        obtain ⟨b1, b2, b3⟩ := (hS (skp T L p + 1) (by omega)).2 _ _ hr
        have hX1 := TaC_x ha hX (eP_fr (a := a) x0.1 X)
        rw [atS_2 h hr, e1, mz_b2, if_neg (show ¬ (1 : Int32) = 0 by decide), show (93 : Int32) = nI 93 from rfl, c_takes hT hX1 b2 (by omega)]
        by_cases h3 : ch T L (skp T L r0) = nI 93
        · rw [if_pos h3, if_pos h3, mz_b2, if_neg (show ¬ (1 : Int32) = 0 by decide)]
          exact CR_s rfl
        · rw [if_neg h3, if_neg h3, mz_b2, if_pos rfl]
          exact CR_n ⟨_, rfl, eP_fr _ _, n + x0.1.length, by omega, eP_sz _ _ _ h2⟩
  · rw [if_neg h, c_letterOf, mz_b1, qN1]
    cases hz : fnC (fun z => aCh 2 (nI z)) (ch T L (skp T L p)) 6 0 with
    | some z =>
      have hlt := lt_let hz
      rw [atS_3 h hz, if_neg (show ¬ oI (some z) = NN by show ¬ nI z = NN; rw [mz_nm (by omega)]; exact fun e => e), c_pass hL hX hlt.1, mz_b1, show NN - oI (some z) = zI (-1 - (z : Int)) from zI_let z, c_emit ha h2 (by omega), mz_b1]
      exact CR_s rfl
    | none =>
      have hnm := c_number (m := 4) hT hX s2 (by omega) (by omega)
      rw [sk_id hp] at hnm
      rw [if_pos (show oI none = NN from rfl), show (4 : Int32) = nI 4 from rfl, hnm, mz_b2]
      have hok := nmT_ok (T := T) (m := 4) s2
      rcases hr : nmT T L 4 (skp T L p) with ⟨r0, _ | v⟩
      · rw [atS_4 h hz hr, if_pos (show oI none = NN from rfl)]
        exact CR_n ⟨X, rfl, FlX_0 h2 (by omega)⟩
      · have hl := nmT_lt (T := T) (m := 4) (v := v) s2 (by omega) (by rw [hr])
        rw [hr] at hok hl
        have hv := hok.2.2 v rfl
        have hl1 : skp T L p < r0 := hl
        have hl2 : r0 ≤ L := hok.2.1
        rw [atS_5 h hz hr, if_neg (show ¬ oI (some v) = NN by show ¬ nI v = NN; rw [mz_nm (by omega)]; exact fun e => e), show oI (some v) = zI (v : Int) from zI_n v, c_emit ha h2 (by omega), mz_b1]
        exact CR_s rfl
theorem eP_j (c : Nat) : eP X a (jV c x y).1 = e1 (eP (eP X a x.1) a y.1) a (-(c : Int)) := by
  show eP X a (x.1 ++ y.1 ++ [-(c : Int)]) = _
  rw [eP_app, eP_app]
  rfl
/-- a loop of readTerm -/
theorem c_term_l (hT : OkT T L) (ha : 2 < a) (hG : CG T L a g (fX4_readAtom gs a (nI d))) (hS : SpO L g) (hX : TaC T L X) (h0 : X a 2 = nI n0) : ∀ n m x p x4, p ≤ L → L - p + 1 < n → L - p < m → x4 ≤ p → n0 + x.1.length ≤ p →
    (∀ r y, lpS T L o1 g m x p = (r, some y) → fX4_readTerm_10 gs a n (nI d) 1 (nI x4) (pP (eP X a x.1) p) = some (1, pP (eP X a y.1) r)) ∧ (∀ r, lpS T L o1 g m x p = (r, none) → ∃ X', fX4_readTerm_10 gs a n (nI d) 1 (nI x4) (pP (eP X a x.1) p) = some (0, pP X' r) ∧ FlX a X X') := by
  have hL := hT.1
  have n0' : narrow .boolean (.int 0) = .int 0 := by decide +kernel
  intro n
  induction n with
  | zero => intro m x p x4 h1 h2; omega
  | succ n ih =>
    intro m x p x4 h1 h2 h3 h4 h5
    obtain ⟨m, rfl⟩ : ∃ m', m = m' + 1 := ⟨m - 1, by omega⟩
    have s1 := sk_ge (T := T) h1
    have s2 := sk_le (T := T) h1
    have hX1 := TaC_x ha hX (eP_fr (a := a) x.1 X)
    have hz1 := eP_sz (a := a) x.1 X n0 h0
    rw [fX4_readTerm_10, if_neg (show ¬ (240 : Int32) < nI x4 by rw [q240, mz_ltp (by omega) (by omega)]; omega), if_neg (show ¬ (1 : Int32) = 0 by decide), c_ahead hT hX1 h1, mz_b2]
    unfold fX4_readTerm_44
    by_cases h : skp T L p < L ∧ o1 (T (skp T L p)) = true
    · have hc := of_decide_eq_true h.2
      have ht := hT.2 _ h.1
      have hcn : ch T L (skp T L p) = nI (T (skp T L p)) := ch_in h.1
      have k := hG (eP X a x.1) (n0 + x.1.length) (skp T L p + 1) hX1 hz1 (by omega) (by omega)
      have red : ∀ (A B C : Option (Int32 × Tb)), (if ch T L (skp T L p) = 42 then A else if ch T L (skp T L p) = 47 then A else C) = A := by
        intro A B C
        rw [hcn]
        rcases hc with e | e
        · rw [if_pos (by rw [e]; rfl)]
        · rw [if_neg (by rw [e]; decide), if_pos (by rw [e]; rfl)]
      rw [red _ (some (1, pP X p)), c_pass hL hX1 h.1, mz_b1]
      rcases hr : g (skp T L p + 1) with ⟨r0, _ | y0⟩
      · obtain ⟨X', e1, e2, ⟨n', e3, e4⟩⟩ := k.2 _ hr
        obtain ⟨X2, e5, e6⟩ := c_emit_any (v := -ch T L (skp T L p)) (p := r0) ha e4 e3
        rw [lpS_n h hr, e1, mz_b2, e5, mz_b1]
        refine ⟨fun r y e => by have := (Prod.mk.inj e).2; simp at this, fun r e => ⟨X2, ?_, FlX_t (FrX_t (eP_fr _ _) e2) e6⟩⟩
        obtain ⟨n2, rfl⟩ : ∃ n2, n = n2 + 1 := ⟨n - 1, by omega⟩
        rw [← (Prod.mk.inj e).1, fX4_readTerm_10, if_pos n0', if_pos (show (0 : Int32) = 0 from rfl)]
        split <;> rfl
      · have e1 := k.1 _ _ hr
        obtain ⟨b1, b2, b3⟩ := (hS (skp T L p + 1) (by omega)).2 _ _ hr
        have hz2 := eP_sz (a := a) y0.1 (eP X a x.1) _ hz1
        rw [lpS_s h hr, e1, mz_b2, hcn, zI_nat, c_emit ha hz2 (by omega), mz_b1, nI_1, ← eP_j]
        exact ih m _ r0 (x4 + 1) b2 (by omega) (by omega) (by omega) (by rw [jV_len]; omega)
    · have red : ∀ (A C : Option (Int32 × Tb)), (if ch T L (skp T L p) = 42 then A else if ch T L (skp T L p) = 47 then A else C) = C := by
        intro A C
        rw [if_neg, if_neg]
        · intro e
          have e2 := ch_skl (c := 47) (by omega) e
          rw [ch_in e2] at e
          have := (nI_eq (by have := (hT.2 _ e2).2; omega) (by omega)).mp (show nI (T (skp T L p)) = nI 47 from e)
          exact h ⟨e2, decide_eq_true (by omega)⟩
        · intro e
          have e2 := ch_skl (c := 42) (by omega) e
          rw [ch_in e2] at e
          have := (nI_eq (by have := (hT.2 _ e2).2; omega) (by omega)).mp (show nI (T (skp T L p)) = nI 42 from e)
          exact h ⟨e2, decide_eq_true (by omega)⟩
      rw [lpS_e h, red]
      refine ⟨fun r y e => ?_, fun r e => by have := (Prod.mk.inj e).2; simp at this⟩
      rw [← (Prod.mk.inj e).1, ← Option.some.inj (Prod.mk.inj e).2]
theorem c_term (hT : OkT T L) (ha : 2 < a) (hG : CG T L a g (fX4_readAtom gs a (nI d))) (hS : SpO L g) : CG T L a (seS T L o1 g) (fX4_readTerm gs a (nI d)) := by
  intro X n p hX h2 hn hp
  have hL := hT.1
  have n0' : narrow .boolean (.int 0) = .int 0 := by decide +kernel
  obtain ⟨fu, hfu, hfu2⟩ := fuel_g
  unfold fX4_readTerm
  rw [hfu]
  have k := hG X n p hX h2 hn hp
  rcases hr : g p with ⟨r0, _ | x0⟩
  · obtain ⟨X', e1, e2⟩ := k.2 _ hr
    rw [seS_n hr, e1, mz_b2]
    refine CR_n ⟨X', ?_, e2⟩
    obtain ⟨n2, rfl⟩ : ∃ n2, fu = n2 + 1 := ⟨fu - 1, by omega⟩
    rw [fX4_readTerm_10, if_pos n0', if_pos (show (0 : Int32) = 0 from rfl)]
    split <;> rfl
  · have e1 := k.1 _ _ hr
    obtain ⟨b1, b2, b3⟩ := (hS p hp).2 _ _ hr
    rw [seS_s hr, e1, mz_b2]
    exact c_term_l hT ha hG hS hX h2 fu 300 x0 r0 0 b2 (by omega) (by omega) (by omega) (by omega)
/-- a loop of readSum -/
theorem c_sumb_l (hT : OkT T L) (ha : 2 < a) (hG : CG T L a g (fX4_readTerm gs a (nI d))) (hS : SpO L g) (hX : TaC T L X) (h0 : X a 2 = nI n0) : ∀ n m x p x4, p ≤ L → L - p + 1 < n → L - p < m → x4 ≤ p → n0 + x.1.length ≤ p →
    (∀ r y, lpS T L o2 g m x p = (r, some y) → fX4_readSum_10 gs a n (nI d) 1 (nI x4) (pP (eP X a x.1) p) = some (1, pP (eP X a y.1) r)) ∧ (∀ r, lpS T L o2 g m x p = (r, none) → ∃ X', fX4_readSum_10 gs a n (nI d) 1 (nI x4) (pP (eP X a x.1) p) = some (0, pP X' r) ∧ FlX a X X') := by
  have hL := hT.1
  have n0' : narrow .boolean (.int 0) = .int 0 := by decide +kernel
  intro n
  induction n with
  | zero => intro m x p x4 h1 h2; omega
  | succ n ih =>
    intro m x p x4 h1 h2 h3 h4 h5
    obtain ⟨m, rfl⟩ : ∃ m', m = m' + 1 := ⟨m - 1, by omega⟩
    have s1 := sk_ge (T := T) h1
    have s2 := sk_le (T := T) h1
    have hX1 := TaC_x ha hX (eP_fr (a := a) x.1 X)
    have hz1 := eP_sz (a := a) x.1 X n0 h0
    rw [fX4_readSum_10, if_neg (show ¬ (240 : Int32) < nI x4 by rw [q240, mz_ltp (by omega) (by omega)]; omega), if_neg (show ¬ (1 : Int32) = 0 by decide), c_ahead hT hX1 h1, mz_b2]
    unfold fX4_readSum_44
    by_cases h : skp T L p < L ∧ o2 (T (skp T L p)) = true
    · have hc := of_decide_eq_true h.2
      have ht := hT.2 _ h.1
      have hcn : ch T L (skp T L p) = nI (T (skp T L p)) := ch_in h.1
      have k := hG (eP X a x.1) (n0 + x.1.length) (skp T L p + 1) hX1 hz1 (by omega) (by omega)
      have red : ∀ (A B C : Option (Int32 × Tb)), (if ch T L (skp T L p) = 43 then A else if ch T L (skp T L p) = 45 then A else C) = A := by
        intro A B C
        rw [hcn]
        rcases hc with e | e
        · rw [if_pos (by rw [e]; rfl)]
        · rw [if_neg (by rw [e]; decide), if_pos (by rw [e]; rfl)]
      rw [red _ (some (1, pP X p)), c_pass hL hX1 h.1, mz_b1]
      rcases hr : g (skp T L p + 1) with ⟨r0, _ | y0⟩
      · obtain ⟨X', e1, e2, ⟨n', e3, e4⟩⟩ := k.2 _ hr
        obtain ⟨X2, e5, e6⟩ := c_emit_any (v := -ch T L (skp T L p)) (p := r0) ha e4 e3
        rw [lpS_n h hr, e1, mz_b2, e5, mz_b1]
        refine ⟨fun r y e => by have := (Prod.mk.inj e).2; simp at this, fun r e => ⟨X2, ?_, FlX_t (FrX_t (eP_fr _ _) e2) e6⟩⟩
        obtain ⟨n2, rfl⟩ : ∃ n2, n = n2 + 1 := ⟨n - 1, by omega⟩
        rw [← (Prod.mk.inj e).1, fX4_readSum_10, if_pos n0', if_pos (show (0 : Int32) = 0 from rfl)]
        split <;> rfl
      · have e1 := k.1 _ _ hr
        obtain ⟨b1, b2, b3⟩ := (hS (skp T L p + 1) (by omega)).2 _ _ hr
        have hz2 := eP_sz (a := a) y0.1 (eP X a x.1) _ hz1
        rw [lpS_s h hr, e1, mz_b2, hcn, zI_nat, c_emit ha hz2 (by omega), mz_b1, nI_1, ← eP_j]
        exact ih m _ r0 (x4 + 1) b2 (by omega) (by omega) (by omega) (by rw [jV_len]; omega)
    · have red : ∀ (A C : Option (Int32 × Tb)), (if ch T L (skp T L p) = 43 then A else if ch T L (skp T L p) = 45 then A else C) = C := by
        intro A C
        rw [if_neg, if_neg]
        · intro e
          have e2 := ch_skl (c := 45) (by omega) e
          rw [ch_in e2] at e
          have := (nI_eq (by have := (hT.2 _ e2).2; omega) (by omega)).mp (show nI (T (skp T L p)) = nI 45 from e)
          exact h ⟨e2, decide_eq_true (by omega)⟩
        · intro e
          have e2 := ch_skl (c := 43) (by omega) e
          rw [ch_in e2] at e
          have := (nI_eq (by have := (hT.2 _ e2).2; omega) (by omega)).mp (show nI (T (skp T L p)) = nI 43 from e)
          exact h ⟨e2, decide_eq_true (by omega)⟩
      rw [lpS_e h, red]
      refine ⟨fun r y e => ?_, fun r e => by have := (Prod.mk.inj e).2; simp at this⟩
      rw [← (Prod.mk.inj e).1, ← Option.some.inj (Prod.mk.inj e).2]
theorem c_sumb (hT : OkT T L) (ha : 2 < a) (hG : CG T L a g (fX4_readTerm gs a (nI d))) (hS : SpO L g) : CG T L a (seS T L o2 g) (fX4_readSumb gs a (nI d)) := by
  intro X n p hX h2 hn hp
  have hL := hT.1
  have n0' : narrow .boolean (.int 0) = .int 0 := by decide +kernel
  obtain ⟨fu, hfu, hfu2⟩ := fuel_g
  unfold fX4_readSumb
  rw [hfu]
  have k := hG X n p hX h2 hn hp
  rcases hr : g p with ⟨r0, _ | x0⟩
  · obtain ⟨X', e1, e2⟩ := k.2 _ hr
    rw [seS_n hr, e1, mz_b2]
    refine CR_n ⟨X', ?_, e2⟩
    obtain ⟨n2, rfl⟩ : ∃ n2, fu = n2 + 1 := ⟨fu - 1, by omega⟩
    rw [fX4_readSum_10, if_pos n0', if_pos (show (0 : Int32) = 0 from rfl)]
    split <;> rfl
  · have e1 := k.1 _ _ hr
    obtain ⟨b1, b2, b3⟩ := (hS p hp).2 _ _ hr
    rw [seS_s hr, e1, mz_b2]
    exact c_sumb_l hT ha hG hS hX h2 fu 300 x0 r0 0 b2 (by omega) (by omega) (by omega) (by omega)
theorem c_sum (hT : OkT T L) (ha : 2 < a) : ∀ e d n, d + e = 6 → e < n → CG T L a (suS T L e) (fX4_readSum n a (nI d)) := by
  intro e
  induction e with
  | zero =>
    intro d n h1 h2
    obtain ⟨n, rfl⟩ : ∃ n', n = n' + 1 := ⟨n - 1, by omega⟩
    intro X n1 p
    rw [fX4_readSum]
    exact c_sumb hT ha (c_term hT ha (c_atom hT ha (Or.inl ⟨rfl, by omega⟩)) (atS_ok (fun g' h => by simp at h))) (seS_ok (atS_ok (fun g' h => by simp at h))) X n1 p
  | succ e ih =>
    intro d n h1 h2
    obtain ⟨n, rfl⟩ : ∃ n', n = n' + 1 := ⟨n - 1, by omega⟩
    intro X n1 p
    rw [fX4_readSum]
    have hA : SpO L (atS T L (some (suS T L e))) := atS_ok (fun g' h => by have := Option.some.inj h; rw [← this]; exact suS_ok e)
    exact c_sumb hT ha (c_term hT ha (c_atom hT ha (Or.inr ⟨suS T L e, rfl, by omega, ih (d + 1) n (by omega) (by omega), suS_ok e⟩)) hA) (seS_ok hA) X n1 p
theorem c_isCmp : ∀ t, t < 256 → fX4_isComparison (nI t) = some (if o3 t = true then 1 else 0) := by decide +kernel
theorem c_isCmpN : fX4_isComparison NN = some 0 := by decide +kernel
theorem c_isC (hT : OkT T L) : fX4_isComparison (ch T L p) = some (if p < L ∧ o3 (T p) = true then 1 else 0) := by
  by_cases h : p < L
  · rw [ch_in h, c_isCmp _ (hT.2 p h).2]
    by_cases h2 : o3 (T p) = true
    · rw [if_pos h2, if_pos ⟨h, h2⟩]
    · rw [if_neg h2, if_neg (fun e => h2 e.2)]
  · rw [ch_out (by omega), c_isCmpN, if_neg (fun e => h e.1)]
/-- a comparison whose first sum has been read -/
theorem c_cmp (hT : OkT T L) (ha : 2 < a) (hde : d + e = 6) (hX : TaC T L X) (h0 : X a 2 = nI n0) (hp : p ≤ L) (h5 : n0 + x.1.length ≤ p) : (∀ r y, cpS T L e x p = (r, some y) → fX4_readUnit_105 gu a (nI d) (pP (eP X a x.1) p) = some (1, pP (eP X a y.1) r)) ∧ (∀ r, cpS T L e x p = (r, none) → ∃ X', fX4_readUnit_105 gu a (nI d) (pP (eP X a x.1) p) = some (0, pP X' r) ∧ FlX a X X') := by
  have hL := hT.1
  have n0' : narrow .boolean (.int 0) = .int 0 := by decide +kernel
  have n1' : narrow .boolean (.int 1) = .int 1 := by decide +kernel
  have s1 := sk_ge (T := T) hp
  have s2 := sk_le (T := T) hp
  have hX1 := TaC_x ha hX (eP_fr (a := a) x.1 X)
  have hz1 := eP_sz (a := a) x.1 X n0 h0
  unfold fX4_readUnit_105
  rw [c_ahead hT hX1 hp, mz_b2, c_isC hT, mz_b1]
  by_cases h : skp T L p < L ∧ o3 (T (skp T L p)) = true
  · have hcn : ch T L (skp T L p) = nI (T (skp T L p)) := ch_in h.1
    have k := c_sum hT ha e d 12 hde (by omega) (eP X a x.1) (n0 + x.1.length) (skp T L p + 1) hX1 hz1 (by omega) (by omega)
    rw [if_pos h, if_neg (show ¬ (1 : Int32) = 0 by decide), c_pass hL hX1 h.1, mz_b1]
    rcases hr : suS T L e (skp T L p + 1) with ⟨r0, _ | y0⟩
    · obtain ⟨X', e1, e2, ⟨n', e3, e4⟩⟩ := k.2 _ hr
      obtain ⟨X2, e5, e6⟩ := c_emit_any (v := -ch T L (skp T L p)) (p := r0) ha e4 e3
      rw [cpS_n h hr, e1, mz_b2, e5, mz_b1, if_pos n0']
      exact CR_n ⟨X2, rfl, FlX_t (FrX_t (eP_fr _ _) e2) e6⟩
    · have e1 := k.1 _ _ hr
      obtain ⟨b1, b2, b3⟩ := (suS_ok (T := T) (L := L) e (skp T L p + 1) (by omega)).2 _ _ hr
      have hz2 := eP_sz (a := a) y0.1 (eP X a x.1) _ hz1
      rw [cpS_s h hr, e1, mz_b2, hcn, zI_nat, c_emit ha hz2 (by omega), mz_b1, if_pos n1', ← eP_j]
      exact CR_s rfl
  · rw [if_neg h, cpS_e h, if_pos rfl]
    exact CR_n ⟨_, rfl, eP_fr _ _, n0 + x.1.length, by omega, hz1⟩
theorem c_truth_l (hT : OkT T L) (ha : 2 < a) (hG : CG T L a g (gu a (nI d) 0)) (hS : SpO L g) (hX : TaC T L X) (h0 : X a 2 = nI n0) : ∀ n m x p x4, p ≤ L → L - p < n → L - p < m → x4 ≤ p → n0 + x.1.length ≤ p →
    (∀ r y, lpS T L o4 g m x p = (r, some y) → fX4_readTruth_15 gu a n (nI d) (nI x4) (pP (eP X a x.1) p) = some (1, pP (eP X a y.1) r)) ∧ (∀ r, lpS T L o4 g m x p = (r, none) → ∃ X', fX4_readTruth_15 gu a n (nI d) (nI x4) (pP (eP X a x.1) p) = some (0, pP X' r) ∧ FlX a X X') := by
  have hL := hT.1
  intro n
  induction n with
  | zero => intro m x p x4 h1 h2; omega
  | succ n ih =>
    intro m x p x4 h1 h2 h3 h4 h5
    obtain ⟨m, rfl⟩ : ∃ m', m = m' + 1 := ⟨m - 1, by omega⟩
    have s1 := sk_ge (T := T) h1
    have s2 := sk_le (T := T) h1
    have hX1 := TaC_x ha hX (eP_fr (a := a) x.1 X)
    have hz1 := eP_sz (a := a) x.1 X n0 h0
    rw [fX4_readTruth_15, if_neg (show ¬ (240 : Int32) < nI x4 by rw [q240, mz_ltp (by omega) (by omega)]; omega), show (38 : Int32) = nI 38 from rfl, c_takes hT hX1 h1 (by omega)]
    by_cases h : skp T L p < L ∧ o4 (T (skp T L p)) = true
    · have hc : T (skp T L p) = 38 := of_decide_eq_true h.2
      have hcn : ch T L (skp T L p) = nI 38 := by rw [ch_in h.1, hc]
      have k := hG (eP X a x.1) (n0 + x.1.length) (skp T L p + 1) hX1 hz1 (by omega) (by omega)
      rw [if_pos hcn, mz_b2, if_neg (show ¬ (1 : Int32) = 0 by decide)]
      rcases hr : g (skp T L p + 1) with ⟨r0, _ | y0⟩
      · obtain ⟨X', e1, e2⟩ := k.2 _ hr
        rw [lpS_n h hr]
        have e1' : gu a (nI d) 0 (pP (eP X a x.1) (skp T L p + 1)) = some (0, pP X' r0) := e1
        rw [e1', mz_b2, if_pos rfl]
        exact CR_n ⟨X', rfl, FlX_t (eP_fr _ _) e2⟩
      · have e1 := k.1 _ _ hr
        obtain ⟨b1, b2, b3⟩ := (hS (skp T L p + 1) (by omega)).2 _ _ hr
        have hz2 := eP_sz (a := a) y0.1 (eP X a x.1) _ hz1
        rw [lpS_s h hr]
        have e1' : gu a (nI d) 0 (pP (eP X a x.1) (skp T L p + 1)) = some (1, pP (eP (eP X a x.1) a y0.1) r0) := e1
        rw [e1', mz_b2, if_neg (show ¬ (1 : Int32) = 0 by decide), zI_nat, c_emit ha hz2 (by omega), mz_b1, nI_1, ← hc, ← eP_j]
        exact ih m _ r0 (x4 + 1) b2 (by omega) (by omega) (by omega) (by rw [jV_len]; omega)
    · rw [lpS_e h, if_neg (fun e => h ⟨ch_skl (c := 38) (by omega) e, decide_eq_true (by
        have e2 := ch_skl (c := 38) (by omega) e
        rw [ch_in e2] at e
        exact (nI_eq (by have := (hT.2 _ e2).2; omega) (by omega)).mp e)⟩), mz_b2, if_pos rfl]
      exact CR_s rfl
theorem c_truth (hT : OkT T L) (ha : 2 < a) (hG : CG T L a g (gu a (nI d) 0)) (hS : SpO L g) : CG T L a (seS T L o4 g) (fX4_readTruth gu a (nI d) 0) := by
  intro X n p hX h2 hn hp
  have hL := hT.1
  obtain ⟨fu, hfu, hfu2⟩ := fuel_g
  unfold fX4_readTruth
  rw [hfu]
  have k := hG X n p hX h2 hn hp
  rcases hr : g p with ⟨r0, _ | x0⟩
  · obtain ⟨X', e1, e2⟩ := k.2 _ hr
    have e1' : gu a (nI d) 0 (pP X p) = some (0, pP X' r0) := e1
    rw [seS_n hr, e1', mz_b2, if_pos rfl]
    exact CR_n ⟨X', rfl, e2⟩
  · have e1 := k.1 _ _ hr
    obtain ⟨b1, b2, b3⟩ := (hS p hp).2 _ _ hr
    have e1' : gu a (nI d) 0 (pP X p) = some (1, pP (eP X a x0.1) r0) := e1
    rw [seS_s hr, e1', mz_b2, if_neg (show ¬ (1 : Int32) = 0 by decide)]
    exact c_truth_l hT ha hG hS hX h2 fu 300 x0 r0 0 b2 (by omega) (by omega) (by omega) (by omega)
theorem c_cond_l (hT : OkT T L) (ha : 2 < a) (hG : CG T L a g (fX4_readTruth gu a (nI d) 0)) (hS : SpO L g) (hX : TaC T L X) (h0 : X a 2 = nI n0) : ∀ n m x p x4, p ≤ L → L - p < n → L - p < m → x4 ≤ p → n0 + x.1.length ≤ p →
    (∀ r y, lpS T L o5 g m x p = (r, some y) → fX4_readCondition_15 gu a n (nI d) (nI x4) (pP (eP X a x.1) p) = some (1, pP (eP X a y.1) r)) ∧ (∀ r, lpS T L o5 g m x p = (r, none) → ∃ X', fX4_readCondition_15 gu a n (nI d) (nI x4) (pP (eP X a x.1) p) = some (0, pP X' r) ∧ FlX a X X') := by
  have hL := hT.1
  intro n
  induction n with
  | zero => intro m x p x4 h1 h2; omega
  | succ n ih =>
    intro m x p x4 h1 h2 h3 h4 h5
    obtain ⟨m, rfl⟩ : ∃ m', m = m' + 1 := ⟨m - 1, by omega⟩
    have s1 := sk_ge (T := T) h1
    have s2 := sk_le (T := T) h1
    have hX1 := TaC_x ha hX (eP_fr (a := a) x.1 X)
    have hz1 := eP_sz (a := a) x.1 X n0 h0
    rw [fX4_readCondition_15, if_neg (show ¬ (240 : Int32) < nI x4 by rw [q240, mz_ltp (by omega) (by omega)]; omega), show (124 : Int32) = nI 124 from rfl, c_takes hT hX1 h1 (by omega)]
    by_cases h : skp T L p < L ∧ o5 (T (skp T L p)) = true
    · have hc : T (skp T L p) = 124 := of_decide_eq_true h.2
      have hcn : ch T L (skp T L p) = nI 124 := by rw [ch_in h.1, hc]
      have k := hG (eP X a x.1) (n0 + x.1.length) (skp T L p + 1) hX1 hz1 (by omega) (by omega)
      rw [if_pos hcn, mz_b2, if_neg (show ¬ (1 : Int32) = 0 by decide)]
      rcases hr : g (skp T L p + 1) with ⟨r0, _ | y0⟩
      · obtain ⟨X', e1, e2⟩ := k.2 _ hr
        rw [lpS_n h hr]
        have e1' : fX4_readTruth gu a (nI d) 0 (pP (eP X a x.1) (skp T L p + 1)) = some (0, pP X' r0) := e1
        rw [e1', mz_b2, if_pos rfl]
        exact CR_n ⟨X', rfl, FlX_t (eP_fr _ _) e2⟩
      · have e1 := k.1 _ _ hr
        obtain ⟨b1, b2, b3⟩ := (hS (skp T L p + 1) (by omega)).2 _ _ hr
        have hz2 := eP_sz (a := a) y0.1 (eP X a x.1) _ hz1
        rw [lpS_s h hr]
        have e1' : fX4_readTruth gu a (nI d) 0 (pP (eP X a x.1) (skp T L p + 1)) = some (1, pP (eP (eP X a x.1) a y0.1) r0) := e1
        rw [e1', mz_b2, if_neg (show ¬ (1 : Int32) = 0 by decide), zI_nat, c_emit ha hz2 (by omega), mz_b1, nI_1, ← hc, ← eP_j]
        exact ih m _ r0 (x4 + 1) b2 (by omega) (by omega) (by omega) (by rw [jV_len]; omega)
    · rw [lpS_e h, if_neg (fun e => h ⟨ch_skl (c := 124) (by omega) e, decide_eq_true (by
        have e2 := ch_skl (c := 124) (by omega) e
        rw [ch_in e2] at e
        exact (nI_eq (by have := (hT.2 _ e2).2; omega) (by omega)).mp e)⟩), mz_b2, if_pos rfl]
      exact CR_s rfl
theorem c_cond (hT : OkT T L) (ha : 2 < a) (hG : CG T L a g (fX4_readTruth gu a (nI d) 0)) (hS : SpO L g) : CG T L a (seS T L o5 g) (fX4_readCondition gu a (nI d) 0) := by
  intro X n p hX h2 hn hp
  have hL := hT.1
  obtain ⟨fu, hfu, hfu2⟩ := fuel_g
  unfold fX4_readCondition
  rw [hfu]
  have k := hG X n p hX h2 hn hp
  rcases hr : g p with ⟨r0, _ | x0⟩
  · obtain ⟨X', e1, e2⟩ := k.2 _ hr
    have e1' : fX4_readTruth gu a (nI d) 0 (pP X p) = some (0, pP X' r0) := e1
    rw [seS_n hr, e1', mz_b2, if_pos rfl]
    exact CR_n ⟨X', rfl, e2⟩
  · have e1 := k.1 _ _ hr
    obtain ⟨b1, b2, b3⟩ := (hS p hp).2 _ _ hr
    have e1' : fX4_readTruth gu a (nI d) 0 (pP X p) = some (1, pP (eP X a x0.1) r0) := e1
    rw [seS_s hr, e1', mz_b2, if_neg (show ¬ (1 : Int32) = 0 by decide)]
    exact c_cond_l hT ha hG hS hX h2 fu 300 x0 r0 0 b2 (by omega) (by omega) (by omega) (by omega)
/-- a unit -/
theorem c_unit (hT : OkT T L) (ha : 2 < a) : ∀ e d n, d + e = 6 → e < n → CG T L a (unS T L e) (fX4_readUnit n a (nI d) 0) := by
  have hL := hT.1
  have n0' : narrow .boolean (.int 0) = .int 0 := by decide +kernel
  have n1' : narrow .boolean (.int 1) = .int 1 := by decide +kernel
  have key : ∀ e d (gu : Nat → Int32 → Int32 → (Nat → Nat → Int32) → Option ((Int32) × (Nat → Nat → Int32))), d + e = 6 → ∀ X n p, TaC T L X → X a 2 = nI n → n ≤ p → p ≤ L → CR a X (cmS T L e p) (fX4_readUnit_90 gu a (nI d) 0 (pP X p)) := by
    intro e d gu hde X n p hX h2 hn hp
    unfold fX4_readUnit_90
    have k := c_sum hT ha e d 12 hde (by omega) X n p hX h2 hn hp
    rw [if_pos rfl]
    rcases hr : suS T L e p with ⟨r0, _ | x0⟩
    · obtain ⟨X', e1, e2⟩ := k.2 _ hr
      rw [cmS_n hr, e1, mz_b2, if_pos rfl]
      exact CR_n ⟨X', rfl, e2⟩
    · have e1 := k.1 _ _ hr
      obtain ⟨b1, b2, b3⟩ := (suS_ok (T := T) (L := L) e p hp).2 _ _ hr
      rw [cmS_s hr, e1, mz_b2, if_neg (show ¬ (1 : Int32) = 0 by decide)]
      exact c_cmp hT ha hde hX h2 b2 (by omega)
  intro e
  induction e with
  | zero =>
    intro d n h1 h2 X n1 p hX hz hn hp
    have s1 := sk_ge (T := T) hp
    have s2 := sk_le (T := T) hp
    obtain ⟨n, rfl⟩ : ∃ n', n = n' + 1 := ⟨n - 1, by omega⟩
    rw [fX4_readUnit]
    unfold fX4_readUnitb fX4_readUnit_24
    rw [c_ahead hT hX hp, mz_b2, if_pos rfl, if_neg (show ¬ nI d < 6 by rw [q6, mz_ltp (by omega) (by omega)]; omega)]
    by_cases h3 : ch T L (skp T L p) = 33
    · rw [if_pos h3, unS_0 (Or.inl h3)]
      exact CR_n ⟨X, rfl, FlX_0 hz (by omega)⟩
    · by_cases h4 : ch T L (skp T L p) = 40
      · rw [if_neg h3, if_pos h4, unS_0 (Or.inr h4)]
        exact CR_n ⟨X, rfl, FlX_0 hz (by omega)⟩
      · rw [if_neg h3, if_neg h4, unS_1 h3 h4]
        exact key 0 d _ h1 X n1 _ hX hz (by omega) s2
  | succ e ih =>
    intro d n h1 h2 X n1 p hX hz hn hp
    have s1 := sk_ge (T := T) hp
    have s2 := sk_le (T := T) hp
    obtain ⟨n, rfl⟩ : ∃ n', n = n' + 1 := ⟨n - 1, by omega⟩
    rw [fX4_readUnit]
    unfold fX4_readUnitb fX4_readUnit_24
    have hU := ih (d + 1) n (by omega) (by omega)
    rw [c_ahead hT hX hp, mz_b2, if_pos rfl, if_pos (show nI d < 6 by rw [q6, mz_ltp (by omega) (by omega)]; omega), q1, nI_add]
    by_cases h3 : ch T L (skp T L p) = 33
    · have hlt := ch_skl (c := 33) (by omega) h3
      have k := hU X n1 (skp T L p + 1) hX hz (by omega) (by omega)
      rw [if_pos h3, c_pass hL hX hlt, mz_b1, if_neg (show ¬ ch T L (skp T L p) = 40 by rw [h3]; decide)]
      rcases hr : unS T L e (skp T L p + 1) with ⟨r0, _ | x0⟩
      · obtain ⟨X', e1, e2, ⟨n', e3, e4⟩⟩ := k.2 _ hr
        obtain ⟨X2, e5, e6⟩ := c_emit_any (v := -33) (p := r0) ha e4 e3
        rw [unS_2 h3 hr, e1, mz_b2, e5, mz_b1, if_pos n0']
        exact CR_n ⟨X2, rfl, FlX_t e2 e6⟩
      · have e1 := k.1 _ _ hr
        obtain ⟨b1, b2, b3⟩ := (unS_ok (T := T) (L := L) e (skp T L p + 1) (by omega)).2 _ _ hr
        have hz2 := eP_sz (a := a) x0.1 X _ hz
        rw [unS_3 h3 hr, e1, mz_b2, show (-33 : Int32) = zI (-33) from by decide +kernel, c_emit ha hz2 (by omega), mz_b1, if_pos n1']
        refine CR_s ?_
        show _ = some (1, pP (eP X a (x0.1 ++ [-33])) r0)
        rw [eP_app]
        rfl
    · by_cases h4 : ch T L (skp T L p) = 40
      · have hlt := ch_skl (c := 40) (by omega) h4
        have k := c_cond hT ha (c_truth hT ha hU (unS_ok e)) (trS_ok e) X n1 (skp T L p + 1) hX hz (by omega) (by omega)
        rw [if_neg h3, if_pos h4, c_pass hL hX hlt, mz_b1, if_pos h4]
        rcases hr : coS T L (unS T L e) (skp T L p + 1) with ⟨r0, _ | x0⟩
        · obtain ⟨X', e1, e2⟩ := k.2 _ hr
          rw [unS_4 h4 hr, e1, mz_b2, if_pos rfl]
          exact CR_n ⟨X', rfl, e2⟩
        · have e1 := k.1 _ _ hr
          obtain ⟨b1, b2, b3⟩ := (coS_ok (T := T) (L := L) e (skp T L p + 1) (by omega)).2 _ _ hr
          have hX1 := TaC_x ha hX (eP_fr (a := a) x0.1 X)
          rw [unS_5 h4 hr, e1, mz_b2, if_neg (show ¬ (1 : Int32) = 0 by decide), show (41 : Int32) = nI 41 from rfl, c_takes hT hX1 b2 (by omega)]
          by_cases h5 : ch T L (skp T L r0) = nI 41
          · rw [if_pos h5, if_pos h5, mz_b2, if_neg (show ¬ (1 : Int32) = 0 by decide)]
            exact CR_s rfl
          · rw [if_neg h5, if_neg h5, mz_b2, if_pos rfl]
            exact CR_n ⟨_, rfl, eP_fr _ _, n1 + x0.1.length, by omega, eP_sz _ _ _ hz⟩
      · rw [if_neg h3, if_neg h4, unS_1 h3 h4]
        exact key (e + 1) d _ h1 X n1 _ hX hz (by omega) s2
end LC
