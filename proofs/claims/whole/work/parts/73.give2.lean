/-! give: the model tries every way -/
section GW
variable {i i' i1 i2 i3 j j' j1 j2 : Tb} {rv rv' rv1 rv2 : Nat → Nat → Option Nat} {W : Option ((Nat → Nat) → Int)} {K g : Nat → Nat → Nat} {σ τ σ' ρ T : Nat → Nat} {p o k b b' t w v n r z c s x a m y l d : Nat} {a1 a2 x1 x2 : Int32}
/-- the model's search below a set -/
theorem M_goG (hK : OkK K) (hn : 0 < K 0 3) (h7 : K 0 3 ≤ 7) : ∀ d n s r (q : Nat → Nat) dg B j, r + d = K 0 3 → d < n → CarM K j → s = sq q r → sS (fun _ => 1) s = r →
    (∀ z, z < r → q z < K 0 3 ∧ j 71 z = nI (q z)) → B ≤ 2 ^ 31 → j 50 53 = bsI B →
    ∃ j', fX12_goGive n (nI r) (nI s) (nI dg) j = some j' ∧ Fr [50, 71] j j' ∧ F5 [53, 54] j j' ∧ (∀ z, z < r → j' 71 z = j 71 z) ∧ j' 50 53 = bsI (min B (acG K q r + vG K d s (q (r - 1)))) ∧ j' 50 54 = (if acG K q r + vG K d s (q (r - 1)) < B then nI (dgG K d s (q (r - 1)) dg) else j 50 54) := by
  have hm := hK.1
  intro d
  induction d with
  | zero =>
    intro n s r q dg B j hr hn' h' hs hcnt hq hB h44
    obtain ⟨n, rfl⟩ : ∃ n', n = n' + 1 := ⟨n - 1, by omega⟩
    have er : r = K 0 3 := by omega
    subst er
    have hx1 := acG_le (q := q) hK (K 0 3) (fun z hz => (hq z hz).1)
    show ∃ j', fX12_goGiveb _ _ _ _ j = some j' ∧ _
    unfold fX12_goGiveb fX12_goGive_32
    rw [h'.1, if_pos rfl, m_trou h' hK hn hq, mz_b1, show acG K q (K 0 3) + vG K 0 s (q (K 0 3 - 1)) = acG K q (K 0 3) from rfl]
    generalize hXX : acG K q (K 0 3) = XX at *
    have hXl : XX < 10000 := by omega
    have key : XX < B → lt (u2 j 50 53 (nI XX)) (fun i10 => lt (u2 i10 50 54 (nI dg)) fun i11 => some i11) = some (u2 (u2 j 50 53 (nI XX)) 50 54 (nI dg)) ∧ Fr [50, 71] j (u2 (u2 j 50 53 (nI XX)) 50 54 (nI dg)) ∧ F5 [53, 54] j (u2 (u2 j 50 53 (nI XX)) 50 54 (nI dg)) ∧ (∀ z, z < K 0 3 → u2 (u2 j 50 53 (nI XX)) 50 54 (nI dg) 71 z = j 71 z) ∧ u2 (u2 j 50 53 (nI XX)) 50 54 (nI dg) 50 53 = bsI (min B XX) ∧ u2 (u2 j 50 53 (nI XX)) 50 54 (nI dg) 50 54 = (if XX < B then nI (dgG K 0 s (q (K 0 3 - 1)) dg) else j 50 54) := by
      intro hlt
      refine ⟨rfl, Fr_t (Fr_w (by decide) Fr_u) (Fr_w (by decide) Fr_u), F5_t (F5_w (by decide) F5_u) (F5_w (by decide) F5_u), ?_, ?_, ?_⟩
      · intro z _
        rw [u2r _ _ _ _ _ (by omega), u2r _ _ _ _ _ (by omega)]
      · rw [u2n _ _ _ _ _ (by omega), u2e, show min B XX = XX by omega, bsI_of (by omega)]
      · rw [u2e, if_pos hlt]
        rfl
    by_cases hlt : XX < B
    · obtain ⟨k1, k2⟩ := key hlt
      refine ⟨_, ?_, k2⟩
      rcases (bsI_lt (by omega) hB).mpr hlt with e | e
      · rw [h44, qN1, if_pos e]
        exact k1
      · rw [h44, qN1]
        by_cases e2 : bsI B = NN
        · rw [if_pos e2]
          exact k1
        · rw [if_neg e2, if_pos e]
          exact k1
    · have e := mt (bsI_lt (x := XX) (by omega) hB).mp hlt
      rw [h44, qN1, if_neg (fun e1 => e (Or.inl e1)), if_neg (fun e1 => e (Or.inr e1))]
      refine ⟨_, rfl, Fr_r _ _, F5_r _ _, fun _ _ => rfl, ?_, ?_⟩
      · rw [h44, show min B XX = B by omega]
      · rw [if_neg hlt]
  | succ d ihd =>
    intro n s r q dg B j hr hn' h' hs hcnt hq hB h44
    obtain ⟨n, rfl⟩ : ∃ n', n = n' + 1 := ⟨n - 1, by omega⟩
    have hsl : s < 2 ^ K 0 3 := by rw [hs]; exact sq_lt (fun z hz => (hq z hz).1)
    have hp2 : 2 ^ K 0 3 ≤ 2 ^ 7 := Nat.pow_le_pow_right (by omega) h7
    have hx1 := acG_le (q := q) hK r (fun z hz => (hq z hz).1)
    have hlst : q (r - 1) < K 0 3 ∨ K 0 3 - (d + 1) = 0 := by
      rcases Nat.eq_zero_or_pos r with e | e
      · exact Or.inr (by omega)
      · exact Or.inl (hq _ (by omega)).1
    have hx2 := vG_le hK (d + 1) s (q (r - 1)) hsl (by omega) hlst
    have hTs := vG_s (K := K) (d := d) (s := s) (l := q (r - 1))
    have hol : ∀ k, k < K 0 3 → s.testBit k = false → twG K d s (q (r - 1)) k ≤ 250 * (d + 1) := fun k hk hk2 => twG_le hK hsl (by omega) hlst hk hk2
    have hcst : ∀ k, twG K d s (q (r - 1)) k = gcG K r (q (r - 1)) k + vG K d (s ||| 2 ^ k) k := fun k => by unfold twG; rw [show K 0 3 - (d + 1) = r by omega]
    show ∃ j', fX12_goGiveb _ _ _ _ j = some j' ∧ _
    unfold fX12_goGiveb
    rw [h'.1, if_neg (fun e => by have := nI_inj e (by omega) (by omega); omega)]
    obtain ⟨fu, hfu, hfu2⟩ := fuel_g
    rw [hfu]
    generalize hMM : acG K q r = M at *
    generalize hLL : q (r - 1) = L at *
    have fin : ∀ j1, Fr [50, 71] j j1 → F5 [53, 54] j j1 → (∀ z, z < r → j1 71 z = j 71 z) → (((∀ k, k < K 0 3 → s.testBit k = false → B ≤ M + twG K d s L k) ∧ j1 50 53 = bsI B ∧ j1 50 54 = j 50 54) ∨ ∃ c, c < K 0 3 ∧ s.testBit c = false ∧ M + twG K d s L c < B ∧ j1 50 53 = bsI (M + twG K d s L c) ∧ j1 50 54 = nI (dgG K d (s ||| 2 ^ c) c (10 * dg + c)) ∧ (∀ k, k < c → s.testBit k = false → twG K d s L c < twG K d s L k) ∧ (∀ k, k < K 0 3 → s.testBit k = false → twG K d s L c ≤ twG K d s L k)) →
        ∃ j', some j1 = some j' ∧ Fr [50, 71] j j' ∧ F5 [53, 54] j j' ∧ (∀ z, z < r → j' 71 z = j 71 z) ∧ j' 50 53 = bsI (min B (M + vG K (d + 1) s L)) ∧ j' 50 54 = (if M + vG K (d + 1) s L < B then nI (dgG K (d + 1) s L dg) else j 50 54) := by
      intro j1 g1 g2 g3 g4
      have hex : ∃ k, k < K 0 3 ∧ s.testBit k = false ∧ vG K (d + 1) s L = twG K d s L k := by
        rcases mn_ex (P := fun k => !(s.testBit k)) (f := twG K d s L) (K 0 3) with e | ⟨k, e1, e2, e3⟩
        · omega
        · exact ⟨k, e1, by simpa using e2, by omega⟩
      obtain ⟨k0, e1, e2, e3⟩ := hex
      rcases g4 with ⟨f1, f2, f3⟩ | ⟨c, f1, f2, f3, f4, f5, f6, f7⟩
      · have := f1 k0 e1 e2
        refine ⟨_, rfl, g1, g2, g3, ?_, ?_⟩
        · rw [f2]
          congr 1
          omega
        · rw [f3, if_neg (by omega)]
      · have h1 := f7 k0 e1 e2
        have h2 := mn_le (P := fun k => !(s.testBit k)) (f := twG K d s L) (k := c) (K 0 3) f1 (by simp [f2])
        have h3 : vG K (d + 1) s L = twG K d s L c := by omega
        refine ⟨_, rfl, g1, g2, g3, ?_, ?_⟩
        · rw [f4]
          congr 1
          omega
        · have h4 : fs (fun k => !(s.testBit k) && decide (twG K d s L k ≤ vG K (d + 1) s L)) (K 0 3 - 1) 0 = c := by
            apply fs_eq _ _ _ (by omega) (by omega)
            · intro z _ hz
              by_cases hzb : s.testBit z = false
              · have := f6 z hz hzb
                rw [decide_eq_false (by omega), Bool.and_false]
              · simp [hzb]
            · intro _
              rw [f2, decide_eq_true (by omega)]
              rfl
          rw [f5, if_pos (by omega), dgG, h4]
    have loop : ∀ n2 p j1, p ≤ K 0 3 → K 0 3 - p < n2 → Fr [50, 71] j j1 → F5 [53, 54] j j1 → (∀ z, z < r → j1 71 z = j 71 z) → (((∀ k, k < p → s.testBit k = false → B ≤ M + twG K d s L k) ∧ j1 50 53 = bsI B ∧ j1 50 54 = j 50 54) ∨ ∃ c, c < p ∧ s.testBit c = false ∧ M + twG K d s L c < B ∧ j1 50 53 = bsI (M + twG K d s L c) ∧ j1 50 54 = nI (dgG K d (s ||| 2 ^ c) c (10 * dg + c)) ∧ (∀ k, k < c → s.testBit k = false → twG K d s L c < twG K d s L k) ∧ (∀ k, k < p → s.testBit k = false → twG K d s L c ≤ twG K d s L k)) →
        ∃ j', fX12_goGive_47 (fX12_goGive n) n2 (nI r) (nI s) (nI dg) (nI p) j1 = some j' ∧ Fr [50, 71] j j' ∧ F5 [53, 54] j j' ∧ (∀ z, z < r → j' 71 z = j 71 z) ∧ j' 50 53 = bsI (min B (M + vG K (d + 1) s L)) ∧ j' 50 54 = (if M + vG K (d + 1) s L < B then nI (dgG K (d + 1) s L dg) else j 50 54) := by
      intro n2
      induction n2 with
      | zero => intro p j1 h1 h2; omega
      | succ n2 ih =>
        intro p j1 h1 h2 g1 g2 g3 g4
        have hc1 : CarM K j1 := CarM_f h' g1 g2 (by decide) (by decide) (by decide) (by decide) (by decide) (by decide)
        rw [fX12_goGive_47, hc1.1]
        unfold fX12_goGive_96
        rw [nI_1, nI_1]
        by_cases h3 : p = K 0 3
        · subst h3
          rw [if_pos (nI_le (by omega) (by omega))]
          exact fin j1 g1 g2 g3 g4
        · have hpl : p < K 0 3 := by omega
          rw [if_neg (nI_ge (by omega) (by omega))]
          unfold fX12_has
          rw [mz_bit1 (by omega) (by omega)]
          by_cases h6 : s.testBit p = true
          · rw [if_pos h6, if_pos (show nI 1 = 1 from rfl), mz_b1, if_neg (show ¬ (1 : Int32) = 0 by decide)]
            refine ih (p + 1) j1 (by omega) (by omega) g1 g2 g3 ?_
            have hk : ∀ k, k < p + 1 → s.testBit k = false → k < p := by
              intro k hk1 hk2
              have : k ≠ p := fun e3 => by rw [e3, h6] at hk2; exact absurd hk2 (by decide)
              omega
            rcases g4 with ⟨f1, f2, f3⟩ | ⟨c, f1, f2, f3, f4, f5, f6, f7⟩
            · exact Or.inl ⟨fun k hk1 hk2 => f1 k (hk k hk1 hk2) hk2, f2, f3⟩
            · exact Or.inr ⟨c, by omega, f2, f3, f4, f5, f6, fun k hk1 hk2 => f7 k (hk k hk1 hk2) hk2⟩
          · have h6' : s.testBit p = false := by simpa using h6
            rw [if_neg h6, if_neg (show ¬ nI 0 = 1 by decide), mz_b1, if_pos (show (0 : Int32) = 0 from rfl), if_pos (mz_in (by omega) (by omega)), mz_lt, nI_clamp (by omega), mz_1l p (by omega), mz_or, q10, mz_mul, nI_add]
            have hq' : ∀ z, z < r → (fun z => if z = r then p else q z) z = q z := fun z hz => if_neg (by omega)
            have hsq : sq (fun z => if z = r then p else q z) r = s := by rw [sq_congr r hq', hs]
            have hmq : acG K (fun z => if z = r then p else q z) (r + 1) = M + gcG K r L p := by
              rw [acG, acG_congr r hq', hMM, if_pos rfl]
              rcases Nat.eq_zero_or_pos r with e | e
              · subst e
                unfold gcG
                rw [if_pos rfl, if_pos rfl]
              · rw [if_neg (show ¬ r - 1 = r by omega), hLL]
            have hsq1 : sq (fun z => if z = r then p else q z) (r + 1) = s ||| 2 ^ p := by
              show sq (fun z => if z = r then p else q z) r ||| 2 ^ (if r = r then p else q r) = _
              rw [hsq, if_pos rfl]
            have hol2 := hol _ hpl h6'
            have call : ∀ B1, B1 ≤ 2 ^ 31 → j1 50 53 = bsI B1 → ∃ j', fX12_goGive n (nI (r + 1)) (nI (s ||| 2 ^ p)) (nI (10 * dg + p)) (u2 j1 71 r (nI p)) = some j' ∧ Fr [50, 71] j j' ∧ F5 [53, 54] j j' ∧ (∀ z, z < r → j' 71 z = j 71 z) ∧ j' 50 53 = bsI (min B1 (M + twG K d s L p)) ∧ j' 50 54 = (if M + twG K d s L p < B1 then nI (dgG K d (s ||| 2 ^ p) p (10 * dg + p)) else j1 50 54) := by
              intro B1 hB1 h441
              have fr1 : Fr [50, 71] j1 (u2 j1 71 r (nI p)) := Fr_w (by decide) Fr_u
              have f51 : F5 [53, 54] j1 (u2 j1 71 r (nI p)) := fun k _ => by rw [u2r _ _ _ _ _ (by omega)]
              obtain ⟨j2, c1, c2, c3, c4, c5, c6⟩ := ihd n (s ||| 2 ^ p) (r + 1) (fun z => if z = r then p else q z) (10 * dg + p) B1 (u2 j1 71 r (nI p)) (by omega) (by omega) (CarM_f hc1 fr1 f51 (by decide) (by decide) (by decide) (by decide) (by decide) (by decide)) hsq1.symm (by rw [sS_add (by omega) h6', hcnt]) (by
                intro z hz
                by_cases hzr : z = r
                · subst hzr
                  rw [if_pos rfl, u2e]
                  exact ⟨hpl, rfl⟩
                · obtain ⟨d1, d3⟩ := hq z (by omega)
                  rw [if_neg hzr, u2n _ _ _ _ _ hzr, g3 z (by omega)]
                  exact ⟨d1, d3⟩) hB1 (by rw [u2r _ _ _ _ _ (by omega)]; exact h441)
              rw [hmq, show r + 1 - 1 = r by omega, if_pos rfl, show M + gcG K r L p + vG K d (s ||| 2 ^ p) p = M + twG K d s L p by rw [hcst]; omega] at c5 c6
              rw [u2r _ _ _ _ _ (show (50 : Nat) ≠ 71 by omega)] at c6
              refine ⟨j2, c1, Fr_t g1 (Fr_t fr1 c2), F5_t g2 (F5_t f51 c3), ?_, c5, c6⟩
              intro z hz
              rw [c4 z (by omega), u2n _ _ _ _ _ (by omega), g3 z hz]
            rcases g4 with ⟨f1, f2, f3⟩ | ⟨c, f1, f2, f3, f4, f5, f6, f7⟩
            · obtain ⟨j2, c1, c2, c3, c4, c5, c6⟩ := call B hB f2
              rw [c1, mz_b1]
              refine ih (p + 1) j2 (by omega) (by omega) c2 c3 c4 ?_
              by_cases hlt : M + twG K d s L p < B
              · refine Or.inr ⟨p, by omega, h6', hlt, ?_, ?_, ?_, ?_⟩
                · rw [c5]
                  congr 1
                  omega
                · rw [c6, if_pos hlt]
                · intro k hk1 hk2
                  have := f1 k hk1 hk2
                  omega
                · intro k hk1 hk2
                  by_cases e : k = p
                  · rw [e]
                    exact Nat.le_refl _
                  · have := f1 k (by omega) hk2
                    omega
              · refine Or.inl ⟨?_, ?_, ?_⟩
                · intro k hk1 hk2
                  by_cases e : k = p
                  · rw [e]
                    omega
                  · exact f1 k (by omega) hk2
                · rw [c5]
                  congr 1
                  omega
                · rw [c6, if_neg hlt, f3]
            · have holc := hol c (by omega) f2
              obtain ⟨j2, c1, c2, c3, c4, c5, c6⟩ := call (M + twG K d s L c) (by omega) f4
              rw [c1, mz_b1]
              refine ih (p + 1) j2 (by omega) (by omega) c2 c3 c4 ?_
              by_cases hlt : M + twG K d s L p < M + twG K d s L c
              · refine Or.inr ⟨p, by omega, h6', by omega, ?_, ?_, ?_, ?_⟩
                · rw [c5]
                  congr 1
                  omega
                · rw [c6, if_pos hlt]
                · intro k hk1 hk2
                  have := f7 k hk1 hk2
                  omega
                · intro k hk1 hk2
                  by_cases e : k = p
                  · rw [e]
                    exact Nat.le_refl _
                  · have := f7 k (by omega) hk2
                    omega
              · refine Or.inr ⟨c, by omega, f2, f3, ?_, ?_, f6, ?_⟩
                · rw [c5]
                  congr 1
                  omega
                · rw [c6, if_neg hlt, f5]
                · intro k hk1 hk2
                  by_cases e : k = p
                  · rw [e]
                    omega
                  · exact f7 k (by omega) hk2
    have l0 := loop fu 0 j (by omega) (by omega) (Fr_r _ _) (F5_r _ _) (fun _ _ => rfl) (Or.inl ⟨fun k hk => absurd hk (by omega), h44, rfl⟩)
    rw [← q0] at l0
    exact l0
end GW
