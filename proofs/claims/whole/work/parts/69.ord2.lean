/-! order: the model tries every order -/
def sq (q : Nat → Nat) (z : Nat) : Nat := orTo (fun y => 2 ^ q y) z
def mxO (K : Nat → Nat → Nat) (o : Nat) (σ q : Nat → Nat) : Nat → Nat
  | 0 => 0
  | z + 1 => max (mxO K o σ q z) (enO K o σ (sq q z) (q z))
/-- the best so far: none, or a number -/
def bsI (B : Nat) : Int32 := if B = 2 ^ 31 then NN else nI B
theorem bsI_lt {B x : Nat} (hx : x < 2 ^ 31) (hB : B ≤ 2 ^ 31) : (bsI B = NN ∨ nI x < bsI B) ↔ x < B := by
  unfold bsI
  by_cases h : B = 2 ^ 31
  · rw [if_pos h]
    exact ⟨fun _ => by omega, fun _ => Or.inl rfl⟩
  · rw [if_neg h, mz_nm (by omega), mz_ltp hx (by omega)]
    exact ⟨fun e => by rcases e with e | e; exact e.elim; exact e, fun e => Or.inr e⟩
theorem bsI_of {B : Nat} (hB : B < 2 ^ 31) : bsI B = nI B := if_neg (by omega)
theorem sq_congr {q q' : Nat → Nat} : ∀ r, (∀ z, z < r → q' z = q z) → sq q' r = sq q r := by
  intro r
  induction r with
  | zero => intro _; rfl
  | succ r ih =>
    intro h
    show sq q' r ||| 2 ^ q' r = sq q r ||| 2 ^ q r
    rw [ih (fun z hz => h z (by omega)), h r (by omega)]
theorem mxO_congr {K : Nat → Nat → Nat} {o : Nat} {σ q q' : Nat → Nat} : ∀ r, (∀ z, z < r → q' z = q z) → mxO K o σ q' r = mxO K o σ q r := by
  intro r
  induction r with
  | zero => intro _; rfl
  | succ r ih =>
    intro h
    rw [mxO, mxO, ih (fun z hz => h z (by omega)), h r (by omega), sq_congr r (fun z hz => h z (by omega))]
section OE
variable {i i' i1 i2 i3 j j' j1 j2 : Tb} {rv rv' rv1 rv2 : Nat → Nat → Option Nat} {W : Option ((Nat → Nat) → Int)} {K g : Nat → Nat → Nat} {σ τ σ' ρ T : Nat → Nat} {p o k b b' t w v n r z c s x a m y : Nat} {a1 a2 x1 x2 : Int32}
theorem sq_lt {q : Nat → Nat} (h : ∀ z, z < r → q z < m) : sq q r < 2 ^ m := by
  apply orTo_lt
  intro z hz
  exact Nat.pow_lt_pow_right (by omega) (h z hz)
theorem m_tens_l {q : Nat → Nat} (h' : CarM K j) (hK : OkK K) (hb : OkS K b σ) (hw : ScM K σ (j 63)) (ho : o < K 0 4) (hq : ∀ z, z < K 0 5 → q z < K 0 5 ∧ (sq q z).testBit (q z) = false ∧ j 66 z = nI (pp K (q z))) : ∀ n z x, z ≤ K 0 5 → K 0 5 - z < n → x ≤ mxO K o σ q z → mxO K o σ q z ≤ max x (sS (tnO K o σ) (sq q z)) → x < 1000 →
    fX12_tensOf_17 n (nI o) (nI (K 0 5)) (nI (sS (tnO K o σ) (sq q z))) (nI x) (nI (σ 54 - cuO K σ (sq q z))) (nI z) j = some (nI (max (mxO K o σ q (K 0 5)) (sS (tnO K o σ) (sq q (K 0 5))))) := by
  have hm := hK.1
  have hp := hK.2.2.1
  have hc9 := hb.2.2.2.2.2.2.2.2.1
  have htn : ∀ z, z < K 0 5 → tnO K o σ z ≤ 27 := fun z hz => turnS_le hK (pp_ok (n := K 0 3) hm (by rw [nb_N hb]; exact hz)).1 ho
  intro n
  induction n with
  | zero => intro z x h1 h2; omega
  | succ n ih =>
    intro z x h1 h2 h3 h4 h5
    have hsl : ∀ r, r ≤ K 0 5 → sq q r < 2 ^ K 0 5 := fun r hr => sq_lt (fun y hy => (hq y (by omega)).1)
    have hS : ∀ r, r ≤ K 0 5 → sS (tnO K o σ) (sq q r) ≤ 9 * 27 := fun r hr => sS_le (fun y hy => htn y (bit_lt (hsl r hr) hy))
    have hS1 := hS z h1
    rw [fX12_tensOf_17]
    by_cases h6 : z = K 0 5
    · subst h6
      rw [if_pos (nI_le (by omega) (by omega)), mz_max (by omega) (by omega)]
      congr 2
      omega
    · obtain ⟨e1, e2, e3⟩ := hq z (by omega)
      obtain ⟨f1, f2, f3⟩ := pp_ok (K := K) (k := q z) (n := K 0 3) hm (by rw [nb_N hb]; exact e1)
      have hS2 := hS (z + 1) (by omega)
      have g1 : sS (tnO K o σ) (sq q (z + 1)) = sS (tnO K o σ) (sq q z) + turnS K σ (pp K (q z)) o := sS_add (by omega) e2
      have g2 : cuO K σ (sq q (z + 1)) = cuO K σ (sq q z) + (if σ (18 + pp K (q z)) = 2 then 1 else 0) := sS_add (by omega) e2
      have g3 : mxO K o σ q (z + 1) = max (mxO K o σ q z) (sS (tnO K o σ) (sq q z) + turnS K σ (pp K (q z)) o + waitS K (pp K (q z)) o (σ (18 + pp K (q z))) (σ 54 - cuO K σ (sq q z))) := rfl
      have g4 := waitS_le (o := o) (s := σ (18 + pp K (q z))) (c := σ 54 - cuO K σ (sq q z)) hK f1
      have g5 := turnS_le (σ := σ) hK f1 ho
      have g6 : j 57 (6 * pp K (q z) + 1) = nI (sv K (pp K (q z)) 1) := h'.2.2.2.2.1 _ (by omega)
      have g7 := hK.2.2.2.2.2.2.2.2.2.1 _ 1 f1 (by omega)
      obtain ⟨s1, s2⟩ := hb.2.2.2.2.2.1 _ f1
      have ih' := ih (z + 1)
      rw [g1, g2, g3] at ih'
      rw [if_neg (nI_ge (by omega) (by omega)), if_pos (mz_in (by omega) (by omega)), mz_lt, nI_clamp (by omega), e3, m_turnOf h' hK hb hw f1 ho, mz_b1, show 6 * nI (pp K (q z)) + 1 = nI (6 * pp K (q z) + 1) from by rw [q6, mz_mul, q1, nI_add], if_pos (mz_in (by omega) (by omega)), nI_clamp (by omega), g6]
      unfold fX12_tensOf_85
      unfold fX12_tensOf_121
      unfold fX12_tensOf_122
      unfold fX12_tensOf_125
      rw [nI_add, nI_1]
      generalize hSS : sS (tnO K o σ) (sq q z) = SS at *
      generalize hMM : mxO K o σ q z = MM at *
      generalize hCC : cuO K σ (sq q z) = CC at *
      generalize hTT : turnS K σ (pp K (q z)) o = TT at *
      by_cases h7 : sv K (pp K (q z)) 1 = 0
      · have h8 : σ (18 + pp K (q z)) = 0 := by
          rcases Nat.eq_zero_or_pos (σ (18 + pp K (q z))) with e | e
          · exact e
          · have := (s2 (by omega)).2
            omega
        have h9 : waitS K (pp K (q z)) o (σ (18 + pp K (q z))) (σ 54 - CC) = 0 := by
          unfold waitS
          rw [h8, h7]
          rfl
        rw [h9] at ih'
        rw [if_neg (show ¬ σ (18 + pp K (q z)) = 2 by omega)] at ih'
        rw [if_pos (show nI (sv K (pp K (q z)) 1) = 0 by rw [h7]; rfl)]
        exact ih' x (by omega) (by omega) (by omega) (by omega) h5
      · have k1 := m_waitOf (c := σ 54 - CC) h' hK hw f1 ho s1
        have e6 : (6 : Int32) * nI (pp K (q z)) + 2 = nI (6 * pp K (q z) + 2) := by rw [q6, mz_mul, q2, nI_add]
        have e7 : (nI (σ (18 + pp K (q z))) = 2) = (σ (18 + pp K (q z)) = 2) := by rw [q2, mz_eq (by omega) (by omega)]
        generalize hWW : waitS K (pp K (q z)) o (σ (18 + pp K (q z))) (σ 54 - CC) = WW at *
        have hx : ∀ fl, fX12_waitOf 63 296 (nI (pp K (q z))) (nI o) fl j = some (nI WW) → bn1 (fX12_waitOf 63 296 (nI (pp K (q z))) (nI o) fl j) (fun v5 => lt (if nI x < nI (SS + TT) + v5 then nI (SS + TT) + v5 else nI x) fun t7 => if aIn (6 * nI (pp K (q z)) + 2) 296 = true then (if j 63 (6 * nI (pp K (q z)) + 2).toNatClampNeg = 2 then (if nI (σ 54 - CC) ≤ 0 then fX12_tensOf_17 n (nI o) (nI (K 0 5)) (nI (SS + TT)) t7 (nI (σ 54 - CC) - 0) (nI (z + 1)) j else fX12_tensOf_17 n (nI o) (nI (K 0 5)) (nI (SS + TT)) t7 (nI (σ 54 - CC) - 1) (nI (z + 1)) j) else fX12_tensOf_17 n (nI o) (nI (K 0 5)) (nI (SS + TT)) t7 (nI (σ 54 - CC) - 0) (nI (z + 1)) j) else none) = some (nI (max (mxO K o σ q (K 0 5)) (sS (tnO K o σ) (sq q (K 0 5))))) := by
          intro fl hfl
          have ih2 := ih' (max x (SS + TT + WW)) (by omega) (by omega) (by omega) (by omega) (by omega)
          rw [hfl, mz_b1, mz_lt, nI_add, mz_max (by omega) (by omega), e6, if_pos (mz_in (by omega) (by omega)), nI_clamp (by omega), (hw.1 _ f1).2.1]
          by_cases h8 : σ (18 + pp K (q z)) = 2
          · rw [if_pos h8] at ih2
            rw [if_pos (e7 ▸ h8)]
            by_cases h9 : σ 54 - CC = 0
            · rw [if_pos (show nI (σ 54 - CC) ≤ 0 by rw [h9]; decide), show nI (σ 54 - CC) - 0 = nI (σ 54 - CC) from Int32.sub_zero _]
              rw [show σ 54 - (CC + 1) = σ 54 - CC by omega] at ih2
              exact ih2
            · rw [if_neg (show ¬ nI (σ 54 - CC) ≤ 0 by rw [q0, mz_le (by omega) (by omega)]; omega), q1, mz_sub (by omega)]
              exact ih2
          · rw [if_neg h8] at ih2
            rw [if_neg (fun e => h8 (e7 ▸ e)), show nI (σ 54 - CC) - 0 = nI (σ 54 - CC) from Int32.sub_zero _]
            exact ih2
        rw [if_neg (show ¬ nI (sv K (pp K (q z)) 1) = 0 by rw [q0, nI_eq (by omega) (by omega)]; exact h7)]
        by_cases hc : 0 < σ 54 - CC
        · rw [if_pos hc] at k1
          rw [if_neg (show ¬ nI (σ 54 - CC) ≤ 0 by rw [q0, mz_le (by omega) (by omega)]; omega)]
          exact hx 1 k1
        · rw [if_neg hc] at k1
          rw [if_pos (show nI (σ 54 - CC) ≤ 0 by rw [q0, mz_le (by omega) (by omega)]; omega)]
          exact hx 0 k1
theorem m_tens {q : Nat → Nat} (h' : CarM K j) (hK : OkK K) (hb : OkS K b σ) (hw : ScM K σ (j 63)) (ho : o < K 0 4) (hq : ∀ z, z < K 0 5 → q z < K 0 5 ∧ (sq q z).testBit (q z) = false ∧ j 66 z = nI (pp K (q z))) : fX12_tensOf (nI o) (nI (K 0 5)) j = some (nI (max (mxO K o σ q (K 0 5)) (sS (tnO K o σ) (sq q (K 0 5))))) := by
  have hm := hK.1
  have hp := hK.2.2.1
  unfold fX12_tensOf
  obtain ⟨fu, hfu, hfu2⟩ := fuel_g
  have k := m_tens_l h' hK hb hw ho hq fu 0 0 (by omega) (by omega) (by omega) (Nat.zero_le _) (by omega)
  rw [show sq q 0 = 0 from rfl, sS_0, show cuO K σ 0 = 0 from sS_0, Nat.sub_zero] at k
  rw [hfu, q54, if_pos (mz_in (by omega) (by omega)), mz_lt, nI_clamp (by omega), hw.2.2.2]
  exact k
/-- the model's search below a set -/
theorem M_goO (hK : OkK K) (hb : OkS K b σ) (ho : o < K 0 4) (hT : TbO K o σ T) (h7 : K 0 5 ≤ 7) : ∀ d n s r (q : Nat → Nat) dg B X j, r + d = K 0 5 → d < n → CarM K j → ScM K σ (j 63) → s = sq q r → sS (fun _ => 1) s = r →
    (∀ z, z < r → q z < K 0 5 ∧ (sq q z).testBit (q z) = false ∧ j 66 z = nI (pp K (q z))) → X < 2 ^ 9 → (∀ k, k < K 0 5 → X.testBit (pp K k) = s.testBit k) → B ≤ 2 ^ 31 → j 50 44 = bsI B →
    ∃ j', fX12_goOrder n (nI o) (nI X) (nI r) (nI dg) j = some j' ∧ Fr [50, 66] j j' ∧ F5 [44, 45] j j' ∧ (∀ z, z < r → j' 66 z = j 66 z) ∧ j' 50 44 = bsI (min B (max (mxO K o σ q r) (T s))) ∧ j' 50 45 = (if max (mxO K o σ q r) (T s) < B then nI (dgO K o σ T (max (mxO K o σ q r) (T s)) d s dg) else j 50 45) := by
  have hm := hK.1
  have hp := hK.2.2.1
  have hN := nb_N hb
  have hmx : ∀ (q : Nat → Nat) r, r ≤ K 0 5 → (∀ z, z < r → q z < K 0 5) → mxO K o σ q r < 1000 := by
    intro q r
    induction r with
    | zero => intro _ _; exact (by decide : (0 : Nat) < 1000)
    | succ r ih =>
      intro h1 h2
      have h3 := ih (by omega) (fun z hz => h2 z (by omega))
      have h4 := enO_lt (o := o) (s := sq q r) (k := q r) hK hb ho (sq_lt (fun z hz => h2 z (by omega))) (h2 r (by omega))
      rw [mxO]
      omega
  intro d
  induction d with
  | zero =>
    intro n s r q dg B X j hr hn h' hw hs hcnt hq hX hbit hB h44
    obtain ⟨n, rfl⟩ : ∃ n', n = n' + 1 := ⟨n - 1, by omega⟩
    have er : r = K 0 5 := by omega
    subst er
    have hsl : s < 2 ^ K 0 5 := by rw [hs]; exact sq_lt (fun z hz => (hq z hz).1)
    have hfull : s = 2 ^ K 0 5 - 1 := by
      apply full_of hsl
      intro k hk
      cases e : s.testBit k
      · have := cnt_lt (by omega) hsl hk e
        omega
      · rfl
    have hx1 := hmx q (K 0 5) (Nat.le_refl _) (fun z hz => (hq z hz).1)
    have hx2 := TbO_lt hK hb ho hT _ s hsl (Nat.le_refl _)
    have e1 : sS (tnO K o σ) (sq q (K 0 5)) = T s := by rw [← hs, hfull, hT.1]
    show ∃ j', fX12_goOrderb _ _ _ _ _ j = some j' ∧ _
    unfold fX12_goOrderb fX12_goOrder_34
    rw [h'.2.2.1, if_pos rfl, m_tens h' hK hb hw ho hq, mz_b1, e1]
    generalize hXX : max (mxO K o σ q (K 0 5)) (T s) = XX at *
    have hXl : XX < 1000 := by omega
    have key : XX < B → lt (u2 j 50 44 (nI XX)) (fun i10 => lt (u2 i10 50 45 (nI dg)) fun i11 => some i11) = some (u2 (u2 j 50 44 (nI XX)) 50 45 (nI dg)) ∧ Fr [50, 66] j (u2 (u2 j 50 44 (nI XX)) 50 45 (nI dg)) ∧ F5 [44, 45] j (u2 (u2 j 50 44 (nI XX)) 50 45 (nI dg)) ∧ (∀ z, z < K 0 5 → u2 (u2 j 50 44 (nI XX)) 50 45 (nI dg) 66 z = j 66 z) ∧ u2 (u2 j 50 44 (nI XX)) 50 45 (nI dg) 50 44 = bsI (min B XX) ∧ u2 (u2 j 50 44 (nI XX)) 50 45 (nI dg) 50 45 = (if XX < B then nI (dgO K o σ T XX 0 s dg) else j 50 45) := by
      intro hlt
      refine ⟨rfl, Fr_t (Fr_w (by decide) Fr_u) (Fr_w (by decide) Fr_u), F5_t (F5_w (by decide) F5_u) (F5_w (by decide) F5_u), ?_, ?_, ?_⟩
      · intro z _
        rw [u2r _ _ _ _ _ (by omega), u2r _ _ _ _ _ (by omega)]
      · rw [u2n _ _ _ _ _ (by omega), u2e, show min B XX = XX by omega, bsI_of (by omega)]
      · rw [u2e, if_pos hlt]
        rfl
    by_cases hlt : XX < B
    · obtain ⟨k1, k2⟩ := key hlt
      refine ⟨_, ?_, k2⟩
      rcases (bsI_lt (by omega) hB).mpr hlt with e | e
      · rw [h44, qN1, if_pos e]
        exact k1
      · rw [h44, qN1]
        by_cases e2 : bsI B = NN
        · rw [if_pos e2]
          exact k1
        · rw [if_neg e2, if_pos e]
          exact k1
    · have e := mt (bsI_lt (x := XX) (by omega) hB).mp hlt
      rw [h44, qN1, if_neg (fun e1 => e (Or.inl e1)), if_neg (fun e1 => e (Or.inr e1))]
      refine ⟨_, rfl, Fr_r _ _, F5_r _ _, fun _ _ => rfl, ?_, ?_⟩
      · rw [h44, show min B XX = B by omega]
      · rw [if_neg hlt]
  | succ d ihd =>
    intro n s r q dg B X j hr hn h' hw hs hcnt hq hX hbit hB h44
    obtain ⟨n, rfl⟩ : ∃ n', n = n' + 1 := ⟨n - 1, by omega⟩
    have hsl : s < 2 ^ K 0 5 := by rw [hs]; exact sq_lt (fun z hz => (hq z hz).1)
    have hx1 := hmx q r (by omega) (fun z hz => (hq z hz).1)
    have hx2 := TbO_lt hK hb ho hT _ s hsl (Nat.le_refl _)
    have hsf : s < 2 ^ K 0 5 - 1 := by
      rcases Nat.lt_or_ge s (2 ^ K 0 5 - 1) with e | e
      · exact e
      · exfalso
        obtain ⟨k, hk, hk2⟩ := cnt_ex (by omega) hsl (by omega)
        rw [show s = 2 ^ K 0 5 - 1 by omega, full_bit hk] at hk2
        exact absurd hk2 (by decide)
    have hTs := hT.2 s hsf
    show ∃ j', fX12_goOrderb _ _ _ _ _ j = some j' ∧ _
    unfold fX12_goOrderb
    rw [h'.2.2.1, if_neg (fun e => by have := nI_inj e (by omega) (by omega); omega)]
    obtain ⟨fu, hfu, hfu2⟩ := fuel_g
    rw [hfu]
    generalize hMM : mxO K o σ q r = M at *
    have hol : ∀ k, k < K 0 5 → s.testBit k = false → owO K o σ T s k < 1000 := by
      intro k hk hk2
      have h1 := enO_lt (o := o) (s := s) hK hb ho hsl hk
      have h2 := TbO_lt hK hb ho hT _ (s ||| 2 ^ k) (or_lt hsl hk) (Nat.le_refl _)
      unfold owO
      omega
    have fin : ∀ j1, Fr [50, 66] j j1 → F5 [44, 45] j j1 → (∀ z, z < r → j1 66 z = j 66 z) → (((∀ k, k < K 0 5 → s.testBit k = false → B ≤ max M (owO K o σ T s k)) ∧ j1 50 44 = bsI B ∧ j1 50 45 = j 50 45) ∨ ∃ c, c < K 0 5 ∧ s.testBit c = false ∧ max M (owO K o σ T s c) < B ∧ j1 50 44 = bsI (max M (owO K o σ T s c)) ∧ j1 50 45 = nI (dgO K o σ T (max M (owO K o σ T s c)) d (s ||| 2 ^ c) (10 * dg + pp K c)) ∧ (∀ k, k < c → s.testBit k = false → max M (owO K o σ T s c) < max M (owO K o σ T s k)) ∧ (∀ k, k < K 0 5 → s.testBit k = false → max M (owO K o σ T s c) ≤ max M (owO K o σ T s k))) →
        ∃ j', some j1 = some j' ∧ Fr [50, 66] j j' ∧ F5 [44, 45] j j' ∧ (∀ z, z < r → j' 66 z = j 66 z) ∧ j' 50 44 = bsI (min B (max M (T s))) ∧ j' 50 45 = (if max M (T s) < B then nI (dgO K o σ T (max M (T s)) (d + 1) s dg) else j 50 45) := by
      intro j1 g1 g2 g3 g4
      have hex : ∃ k, k < K 0 5 ∧ s.testBit k = false ∧ T s = owO K o σ T s k := by
        rcases mn_ex (P := fun k => !(s.testBit k)) (f := owO K o σ T s) (K 0 5) with e | ⟨k, e1, e2, e3⟩
        · omega
        · exact ⟨k, e1, by simpa using e2, by omega⟩
      obtain ⟨k0, e1, e2, e3⟩ := hex
      rcases g4 with ⟨f1, f2, f3⟩ | ⟨c, f1, f2, f3, f4, f5, f6, f7⟩
      · have := f1 k0 e1 e2
        refine ⟨_, rfl, g1, g2, g3, ?_, ?_⟩
        · rw [f2]
          congr 1
          omega
        · rw [f3, if_neg (by omega)]
      · have h1 := f7 k0 e1 e2
        have h2 := mn_le (P := fun k => !(s.testBit k)) (f := owO K o σ T s) (k := c) (K 0 5) f1 (by simp [f2])
        have h3 : max M (T s) = max M (owO K o σ T s c) := by omega
        refine ⟨_, rfl, g1, g2, g3, ?_, ?_⟩
        · rw [f4]
          congr 1
          omega
        · rw [f5, if_pos (by omega), h3, dgO]
          have h4 : fs (fun k => !(s.testBit k) && decide (owO K o σ T s k ≤ max M (owO K o σ T s c))) (K 0 5 - 1) 0 = c := by
            apply fs_eq _ _ _ (by omega) (by omega)
            · intro z _ hz
              by_cases hzb : s.testBit z = false
              · have := f6 z hz hzb
                rw [decide_eq_false (by omega), Bool.and_false]
              · simp [hzb]
            · intro _
              rw [f2, decide_eq_true (by omega)]
              rfl
          rw [h4]
    have loop : ∀ n2 p j1, p ≤ K 0 3 → K 0 3 - p < n2 → Fr [50, 66] j j1 → F5 [44, 45] j j1 → (∀ z, z < r → j1 66 z = j 66 z) → (((∀ k, k < nb K p → s.testBit k = false → B ≤ max M (owO K o σ T s k)) ∧ j1 50 44 = bsI B ∧ j1 50 45 = j 50 45) ∨ ∃ c, c < nb K p ∧ s.testBit c = false ∧ max M (owO K o σ T s c) < B ∧ j1 50 44 = bsI (max M (owO K o σ T s c)) ∧ j1 50 45 = nI (dgO K o σ T (max M (owO K o σ T s c)) d (s ||| 2 ^ c) (10 * dg + pp K c)) ∧ (∀ k, k < c → s.testBit k = false → max M (owO K o σ T s c) < max M (owO K o σ T s k)) ∧ (∀ k, k < nb K p → s.testBit k = false → max M (owO K o σ T s c) ≤ max M (owO K o σ T s k))) →
        ∃ j', fX12_goOrder_50 (fX12_goOrder n) n2 (nI o) (nI X) (nI r) (nI dg) (nI p) j1 = some j' ∧ Fr [50, 66] j j' ∧ F5 [44, 45] j j' ∧ (∀ z, z < r → j' 66 z = j 66 z) ∧ j' 50 44 = bsI (min B (max M (T s))) ∧ j' 50 45 = (if max M (T s) < B then nI (dgO K o σ T (max M (T s)) (d + 1) s dg) else j 50 45) := by
      intro n2
      induction n2 with
      | zero => intro p j1 h1 h2; omega
      | succ n2 ih =>
        intro p j1 h1 h2 g1 g2 g3 g4
        have hc1 : CarM K j1 := CarM_f h' g1 g2 (by decide) (by decide) (by decide) (by decide) (by decide) (by decide)
        have hw1 : ScM K σ (j1 63) := by rw [g1 63 (by decide)]; exact hw
        rw [fX12_goOrder_50, hc1.1]
        unfold fX12_goOrder_110
        rw [nI_1, nI_1]
        by_cases h3 : p = K 0 3
        · subst h3
          rw [hN] at g4
          rw [if_pos (nI_le (by omega) (by omega))]
          exact fin j1 g1 g2 g3 g4
        · have hpl : p < K 0 3 := by omega
          have hch := hK.2.2.2.2.2.2.2.2.2.2.1 p hpl
          rw [if_neg (nI_ge (by omega) (by omega)), m_isChild hc1 hK hpl, mz_b1]
          have skip : (sv K p 5 ≠ 0 ∨ (sv K p 5 = 0 ∧ s.testBit (nb K p) = true)) → ∃ j', fX12_goOrder_50 (fX12_goOrder n) n2 (nI o) (nI X) (nI r) (nI dg) (nI (p + 1)) j1 = some j' ∧ Fr [50, 66] j j' ∧ F5 [44, 45] j j' ∧ (∀ z, z < r → j' 66 z = j 66 z) ∧ j' 50 44 = bsI (min B (max M (T s))) ∧ j' 50 45 = (if max M (T s) < B then nI (dgO K o σ T (max M (T s)) (d + 1) s dg) else j 50 45) := by
            intro hsk
            refine ih (p + 1) j1 (by omega) (by omega) g1 g2 g3 ?_
            have hk : ∀ k, k < nb K (p + 1) → s.testBit k = false → k < nb K p := by
              intro k hk1 hk2
              rw [nb_s] at hk1
              rcases hsk with e | ⟨e, e2⟩
              · rw [if_neg e] at hk1
                omega
              · rw [if_pos e] at hk1
                have : k ≠ nb K p := fun e3 => by rw [e3, e2] at hk2; exact absurd hk2 (by decide)
                omega
            rcases g4 with ⟨f1, f2, f3⟩ | ⟨c, f1, f2, f3, f4, f5, f6, f7⟩
            · exact Or.inl ⟨fun k hk1 hk2 => f1 k (hk k hk1 hk2) hk2, f2, f3⟩
            · exact Or.inr ⟨c, by rw [nb_s]; omega, f2, f3, f4, f5, f6, fun k hk1 hk2 => f7 k (hk k hk1 hk2) hk2⟩
          by_cases h5 : sv K p 5 = 0
          · have hkk : nb K p < K 0 5 := by rw [← hN]; exact nb_lt h5 hpl
            have hpp : pp K (nb K p) = p := pp_nb (by omega) h5
            have hbt := hbit (nb K p) hkk
            rw [hpp] at hbt
            rw [if_pos (show nI (sv K p 5) = 0 by rw [h5]; rfl)]
            unfold fX12_has
            rw [mz_bit1 (by omega) (by omega), hbt]
            by_cases h6 : s.testBit (nb K p) = true
            · rw [if_pos h6, if_pos (show nI 1 = 1 from rfl), mz_b1, if_neg (show ¬ (1 : Int32) = 0 by decide)]
              exact skip (Or.inr ⟨h5, h6⟩)
            · have h6' : s.testBit (nb K p) = false := by simpa using h6
              rw [if_neg h6, if_neg (show ¬ nI 0 = 1 by decide), mz_b1, if_pos (show (0 : Int32) = 0 from rfl), if_pos (mz_in (by omega) (by omega)), mz_lt, nI_clamp (by omega), mz_1l p (by omega), mz_or, q10, mz_mul, nI_add]
              have hq' : ∀ z, z < r → (fun z => if z = r then nb K p else q z) z = q z := fun z hz => if_neg (by omega)
              have hsq : sq (fun z => if z = r then nb K p else q z) r = s := by rw [sq_congr r hq', hs]
              have hmq : mxO K o σ (fun z => if z = r then nb K p else q z) (r + 1) = max M (enO K o σ s (nb K p)) := by
                rw [mxO, mxO_congr r hq', hMM, hsq, if_pos rfl]
              have hsq1 : sq (fun z => if z = r then nb K p else q z) (r + 1) = s ||| 2 ^ nb K p := by
                show sq (fun z => if z = r then nb K p else q z) r ||| 2 ^ (if r = r then nb K p else q r) = _
                rw [hsq, if_pos rfl]
              have hX2 : max (max M (enO K o σ s (nb K p))) (T (s ||| 2 ^ nb K p)) = max M (owO K o σ T s (nb K p)) := by unfold owO; omega
              have hol2 := hol _ hkk h6'
              have call : ∀ B1, B1 ≤ 2 ^ 31 → j1 50 44 = bsI B1 → ∃ j', fX12_goOrder n (nI o) (nI (X ||| 2 ^ p)) (nI (r + 1)) (nI (10 * dg + p)) (u2 j1 66 r (nI p)) = some j' ∧ Fr [50, 66] j j' ∧ F5 [44, 45] j j' ∧ (∀ z, z < r → j' 66 z = j 66 z) ∧ j' 50 44 = bsI (min B1 (max M (owO K o σ T s (nb K p)))) ∧ j' 50 45 = (if max M (owO K o σ T s (nb K p)) < B1 then nI (dgO K o σ T (max M (owO K o σ T s (nb K p))) d (s ||| 2 ^ nb K p) (10 * dg + p)) else j1 50 45) := by
                intro B1 hB1 h441
                have fr1 : Fr [50, 66] j1 (u2 j1 66 r (nI p)) := Fr_w (by decide) Fr_u
                have f51 : F5 [44, 45] j1 (u2 j1 66 r (nI p)) := fun k _ => by rw [u2r _ _ _ _ _ (by omega)]
                obtain ⟨j2, c1, c2, c3, c4, c5, c6⟩ := ihd n (s ||| 2 ^ nb K p) (r + 1) (fun z => if z = r then nb K p else q z) (10 * dg + p) B1 (X ||| 2 ^ p) (u2 j1 66 r (nI p)) (by omega) (by omega) (CarM_f hc1 fr1 f51 (by decide) (by decide) (by decide) (by decide) (by decide) (by decide)) (by rw [u2r _ _ _ _ _ (by omega)]; exact hw1) hsq1.symm (by rw [sS_add (by omega) h6', hcnt]) (by
                  intro z hz
                  by_cases hzr : z = r
                  · subst hzr
                    rw [if_pos rfl, hsq, u2e, hpp]
                    exact ⟨hkk, h6', rfl⟩
                  · obtain ⟨d1, d2, d3⟩ := hq z (by omega)
                    rw [sq_congr z (fun y hy => if_neg (by omega))]
                    rw [if_neg hzr, u2n _ _ _ _ _ hzr, g3 z (by omega)]
                    exact ⟨d1, d2, d3⟩) (Nat.or_lt_two_pow hX (Nat.pow_lt_pow_right (by omega) (by omega))) (by
                  intro k hk
                  rw [Nat.testBit_or, Nat.testBit_or, hbit k hk, Nat.testBit_two_pow, Nat.testBit_two_pow]
                  congr 1
                  apply decide_eq_decide.mpr
                  constructor
                  · intro e
                    rw [e]
                    exact (pp_ok (n := K 0 3) hm (by rw [hN]; exact hk)).2.2
                  · intro e
                    rw [← e, hpp]) hB1 (by rw [u2r _ _ _ _ _ (by omega)]; exact h441)
                rw [hmq, hX2] at c5 c6
                rw [u2r _ _ _ _ _ (show (50 : Nat) ≠ 66 by omega)] at c6
                refine ⟨j2, c1, Fr_t g1 (Fr_t fr1 c2), F5_t g2 (F5_t f51 c3), ?_, c5, c6⟩
                intro z hz
                rw [c4 z (by omega), u2n _ _ _ _ _ (by omega), g3 z hz]
              have nxt : nb K (p + 1) = nb K p + 1 := by rw [nb_s, if_pos h5]
              rcases g4 with ⟨f1, f2, f3⟩ | ⟨c, f1, f2, f3, f4, f5, f6, f7⟩
              · obtain ⟨j2, c1, c2, c3, c4, c5, c6⟩ := call B hB f2
                rw [c1, mz_b1]
                refine ih (p + 1) j2 (by omega) (by omega) c2 c3 c4 ?_
                rw [nxt]
                by_cases hlt : max M (owO K o σ T s (nb K p)) < B
                · refine Or.inr ⟨nb K p, by omega, h6', hlt, ?_, ?_, ?_, ?_⟩
                  · rw [c5]
                    congr 1
                    omega
                  · rw [c6, if_pos hlt, hpp]
                  · intro k hk1 hk2
                    have := f1 k hk1 hk2
                    omega
                  · intro k hk1 hk2
                    by_cases e : k = nb K p
                    · rw [e]
                      exact Nat.le_refl _
                    · have := f1 k (by omega) hk2
                      omega
                · refine Or.inl ⟨?_, ?_, ?_⟩
                  · intro k hk1 hk2
                    by_cases e : k = nb K p
                    · rw [e]
                      omega
                    · exact f1 k (by omega) hk2
                  · rw [c5]
                    congr 1
                    omega
                  · rw [c6, if_neg hlt, f3]
              · have holc := hol c (by omega) f2
                obtain ⟨j2, c1, c2, c3, c4, c5, c6⟩ := call (max M (owO K o σ T s c)) (by omega) f4
                rw [c1, mz_b1]
                refine ih (p + 1) j2 (by omega) (by omega) c2 c3 c4 ?_
                rw [nxt]
                by_cases hlt : max M (owO K o σ T s (nb K p)) < max M (owO K o σ T s c)
                · refine Or.inr ⟨nb K p, by omega, h6', by omega, ?_, ?_, ?_, ?_⟩
                  · rw [c5]
                    congr 1
                    omega
                  · rw [c6, if_pos hlt, hpp]
                  · intro k hk1 hk2
                    have := f7 k hk1 hk2
                    omega
                  · intro k hk1 hk2
                    by_cases e : k = nb K p
                    · rw [e]
                      exact Nat.le_refl _
                    · have := f7 k (by omega) hk2
                      omega
                · refine Or.inr ⟨c, by omega, f2, f3, ?_, ?_, f6, ?_⟩
                  · rw [c5]
                    congr 1
                    omega
                  · rw [c6, if_neg hlt, f5]
                  · intro k hk1 hk2
                    by_cases e : k = nb K p
                    · rw [e]
                      omega
                    · exact f7 k (by omega) hk2
          · rw [if_neg (show ¬ nI (sv K p 5) = 0 by rw [q0, nI_eq (by omega) (by omega)]; exact h5)]
            exact skip (Or.inl h5)
    have l0 := loop fu 0 j (by omega) (by omega) (Fr_r _ _) (F5_r _ _) (fun _ _ => rfl) (Or.inl ⟨fun k hk => absurd hk (by unfold nb sumTo; omega), h44, rfl⟩)
    rw [← q0] at l0
    exact l0
end OE
