/-! fault: a text is read on both sides -/
def FCl (ld ln : Nat) (i i' : Tb) : Prop := ∀ q k, ¬ (q = 1 ∧ k = 2) → ¬ (11 ≤ q ∧ q ≤ 14) → ¬ (q = ld ∧ k = 2) → q ≠ ld + 1 → ¬ (q = ln ∧ k = 1) → q ≠ ln + 1 → i' q k = i q k
def FMl (j j' : Tb) : Prop := (∀ q k, q ≠ 50 → q ≠ 56 → q ≠ 58 → q ≠ 60 → ¬ (q = 61 ∧ 192 ≤ k) → ¬ (q = 62 ∧ 4 ≤ k) → j' q k = j q k) ∧ F5 [0, 8, 9, 10, 11, 12, 13, 14, 17, 29, 30, 32] j j'
section QF
variable {i i' i1 i2 j j' j1 J X X' : Tb} {rv rv' rv2 : Nat → Nat → Option Nat} {W W' : Option ((Nat → Nat) → Int)} {K g g' D : Nat → Nat → Nat} {σ σ' T T' la li : Nat → Nat} {c n b b' L L' dr m m' q k x a r ld ln : Nat} {cls : List CL} {ss : List SP}
theorem TaM_0 {v : Int32} (h : TaM T L j) : TaM T L (u2 j 50 0 v) := ⟨by rw [u2n _ _ _ _ _ (by omega)]; exact h.1, by rw [u2r _ _ _ _ _ (by omega)]; exact h.2⟩
theorem is02 (s : Nat) (hs : s ≤ 2) : fX12_isIn (nI s).toInt64 0 2 = some 1 := by
  rw [L0, L2, mz_isN (by omega) (by omega) (by omega), if_pos (by omega)]
theorem FMl_0 {v : Int32} : FMl j (u2 j 50 0 v) := ⟨fun q k h1 _ _ _ _ _ => by rw [u2r _ _ _ _ _ h1], F5_w (by decide) F5_u⟩
theorem FMl_t (h : FMl j j1) (h' : FMl j1 j') : FMl j j' := ⟨fun q k a1 a2 a3 a4 a5 a6 => (h'.1 q k a1 a2 a3 a4 a5 a6).trans (h.1 q k a1 a2 a3 a4 a5 a6), F5_t h.2 h'.2⟩
theorem FCl_p (h : FCl ld ln i X) : FCl ld ln i (pP X r) := fun q k h1 h2 h3 h4 h5 h6 => by
  unfold pP
  rw [u2o _ _ (by omega)]
  exact h q k h1 h2 h3 h4 h5 h6
/-- what a reading gives: failed at r, or read -/
theorem R_rd0 (hT : OkT T L) (t1 : TaC T L i) (t2 : TaM T L j) :
    (∃ r X' j', r ≤ L ∧ fX11_canRead 0 i rv = some (0, pP X' r) ∧ FCl ld ln i (pP X' r) ∧ fX12_fault 0 j rv' = some (nI r, j', u2 rv' 50 5 (some (100 + 51))) ∧ FMl j j') ∨
    (∃ r D X' Y td, r ≤ L ∧ fX11_canRead 0 i rv = some (1, pP X' r) ∧ FCl ld ln i (pP X' r) ∧ DrC D X' ∧ OkD D ∧ 0 < pap D ∧ 0 < D 0 4 ∧ X' 11 5 = nI (pap D) ∧ fX12_fault 0 j rv' = some (NN, mP Y r, u2 rv' 50 5 (some (100 + 51))) ∧ FMl j (mP Y r) ∧ DrM td D Y ∧ crS T L 300 false D0 0 = (r, some D)) := by
  have n0 : narrow .boolean (.int 0) = .int 0 := by decide +kernel
  have n1 : narrow .boolean (.int 1) = .int 1 := by decide +kernel
  have kc := C_car hT t1
  have km := M_car (rv := rv') hT (TaM_0 (v := 0) t2)
  have fcl : ∀ X', Fr [11, 12, 13, 14] i X' → FCl ld ln i X' := fun X' h q k h1 h2 _ _ _ _ => by rw [h q (by simp; omega)]
  have fml : ∀ Y, Fr [50, 56, 58, 60] (u2 j 50 0 0) Y → F5 [8, 9, 10, 11, 29, 30, 32] (u2 j 50 0 0) Y → FMl j Y := fun Y h h' => FMl_t FMl_0 ⟨fun q k a1 a2 a3 a4 _ _ => by rw [h q (by simp [a1, a2, a3, a4])], F5_w (by decide) h'⟩
  unfold fX11_canRead fX12_fault fX12_fault_28 fX12_fault_46
  rw [if_pos (show (0 : Int32) = 0 from rfl), mz_lt, show fX12_isIn (0 : Int32).toInt64 0 2 = some 1 from is02 0 (by omega), mz_b1, if_neg (show ¬ (1 : Int32) = 0 by decide), if_pos (show (0 : Int32) = 0 from rfl)]
  rcases hr : crS T L 300 false D0 0 with ⟨r, _ | D⟩
  · obtain ⟨X', e1, e2, e3⟩ := kc.2 _ hr
    obtain ⟨Y', f1, f2, f3, f4⟩ := km.2 _ hr
    rw [e1, mz_b2, if_pos n0, f1, mz_b2, if_neg (show ¬ (0 : Int32) = 1 by decide), if_neg (show ¬ (0 : Int32) = 2 by decide), f2]
    exact Or.inl ⟨r, X', Y', e3, rfl, FCl_p (fcl X' e2), rfl, fml Y' f3 f4⟩
  · obtain ⟨X', e1, e2, e3, e4, e5, e6, e7, e8⟩ := kc.1 _ _ hr
    obtain ⟨Y', td, f1, f2, f3, f4, f5⟩ := km.1 _ _ hr
    rw [e1, mz_b2, if_pos n1, f1, mz_b2, if_neg (show ¬ (0 : Int32) = 1 by decide), if_neg (show ¬ (0 : Int32) = 2 by decide), mP_n (by omega), f3]
    refine Or.inr ⟨r, D, X', Y', td, e8, rfl, FCl_p (fcl X' e7), e2, e3, e4, e5, e6, rfl, ?_, f2, rfl⟩
    refine FMl_t (fml Y' f4 f5) ⟨fun q k a1 _ _ _ _ _ => by rw [mP_r a1], F5_w (by decide) F5_u⟩
theorem R_rd1 (hT : OkT T L) (t1 : TaC T L i) (t2 : TaM T L j) (hrv : rv 3 2 = some (100 + ld)) (hld : 2 < ld) :
    (∃ r i' j', r ≤ L ∧ fX11_canRead 1 i rv = some (0, i') ∧ i' 1 2 = nI r ∧ FCl ld ln i i' ∧ fX12_fault 1 j rv' = some (nI r, j', u2 rv' 50 5 (some (100 + 51))) ∧ FMl j j') ∨
    (∃ i' j' cls, fX11_canRead 1 i rv = some (1, i') ∧ FCl ld ln i i' ∧ LawAt ld (lwC 0 cls) i' ∧ TextOK T L (fun l => lwV (l6 l) cls) ∧ WorthOK (lwC 0 cls) (fun l => lwV (l6 l) cls) ∧ fX12_fault 1 j rv' = some (NN, j', u2 rv' 50 5 (some (100 + 51))) ∧ FMl j j') := by
  have hL := hT.1
  have n0 : narrow .boolean (.int 0) = .int 0 := by decide +kernel
  have n1 : narrow .boolean (.int 1) = .int 1 := by decide +kernel
  have kc := C_law hT hld t1
  have hpl : plc (rv 3 2) = ld := by
    rw [hrv]
    show 100 + ld - 100 = ld
    omega
  have hM0 := TaM_0 (v := 0) t2
  have hi : i32 (fun z => (u2 j 50 0 0 54 (cZ z)).toInt) := fun z => by
    have h1 := Int32.toInt_lt (u2 j 50 0 0 54 (cZ z))
    have h2 := Int32.le_toInt (u2 j 50 0 0 54 (cZ z))
    show -2147483648 ≤ (u2 j 50 0 0 54 (cZ z)).toInt ∧ (u2 j 50 0 0 54 (cZ z)).toInt < 2147483648
    omega
  have km := M_law (rv := rv') (B := 0) (w := 51) hT hi (Or.inl rfl) (by show 0 + L ≤ 240; omega) (fun k hk => by rw [Nat.zero_add]; exact hM0.2 k hk) (fun z _ => zI_of _)
  have fcl : ∀ X', FrX ld (u2 i ld 2 0) X' → FCl ld ln i X' := fun X' h q k h1 h2 h3 h4 _ _ => by rw [h q k h3 h4, u2o _ _ (by omega)]
  have fml : ∀ Y, Fr [50] (u2 j 50 0 0) Y → F5 [8, 9, 10, 11, 12, 13, 14, 17] (u2 j 50 0 0) Y → FMl j Y := fun Y h h' => FMl_t FMl_0 ⟨fun q k a1 _ _ _ _ _ => by rw [h q (by simp [a1])], F5_w (by decide) h'⟩
  unfold fX11_canRead fX9_lawDraft fX12_fault fX12_fault_28 fX12_fault_46
  rw [hpl, if_neg (show ¬ (1 : Int32) = 0 by decide), if_pos (show (1 : Int32) = 1 from rfl), mz_b1, mz_o1, show 100 + ld - 100 = ld by omega, mz_lt, show fX12_isIn (1 : Int32).toInt64 0 2 = some 1 from is02 1 (by omega), mz_b1, if_neg (show ¬ (1 : Int32) = 0 by decide), if_neg (show ¬ (1 : Int32) = 0 by decide), if_pos (show (1 : Int32) = 1 from rfl), hM0.1, show (0 : Int32) = nI 0 from rfl]
  rcases hr : lwS T L 300 0 with ⟨r, _ | cls⟩
  · obtain ⟨⟨X', e1, e2⟩, e3⟩ := kc.2 _ hr
    obtain ⟨j', f1, f2, f3, f4⟩ := km.2 _ hr
    rw [e1, mz_b2, if_pos n0]
    rw [show nI 0 = (0 : Int32) from rfl] at f1 ⊢
    rw [f1, mz_b2, if_neg (show ¬ (1 : Int32) = 2 by decide), f2]
    exact Or.inl ⟨r, _, j', e3, rfl, pP_at, FCl_p (fcl X' e2.1), rfl, fml j' f3 f4⟩
  · obtain ⟨e1, e2, e3⟩ := kc.1 _ _ hr
    obtain ⟨j', f1, f2, f3, f4, f5⟩ := km.1 _ _ hr
    obtain ⟨g1, g2⟩ := T_law hT hr
    rw [e1, mz_b2, if_pos n1]
    rw [show nI 0 = (0 : Int32) from rfl] at f1 ⊢
    rw [f1, mz_b2, if_neg (show ¬ (1 : Int32) = 2 by decide), f2]
    exact Or.inr ⟨_, j', cls, rfl, FCl_p (fcl _ (eP_fr _ _)), C_lawAt hld (by omega), g1, g2, rfl, fml j' f4 f5⟩
theorem R_rd2 (hT : OkT T L) (t1 : TaC T L i) (t2 : TaM T L j) (hrv : rv 3 3 = some (100 + ln)) (hln : 2 < ln) :
    (∃ r i' j', r ≤ L ∧ fX11_canRead 2 i rv = some (0, i') ∧ i' 1 2 = nI r ∧ FCl ld ln i i' ∧ fX12_fault 2 j rv' = some (nI r, j', u2 rv' 50 5 (some (100 + 51))) ∧ FMl j j') ∨
    (∃ i' j', ∃ ss : List SP, fX11_canRead 2 i rv = some (1, i') ∧ FCl ld ln i i' ∧ 1 ≤ ss.length ∧ ss.length ≤ 16 ∧ (∀ s, s ∈ ss → s.1 < 6) ∧ i' ln 1 = nI ss.length ∧ (∀ n c, n < ss.length → c < 3 → i' (ln + 1) (3 * n + c) = spV (ss.getD n (0, 0, none)) c) ∧ fX12_fault 2 j rv' = some (NN, j', u2 rv' 50 5 (some (100 + 51))) ∧ FMl j j' ∧ j' 62 4 = nI ss.length ∧ (∀ n c, n < ss.length → c < 3 → j' 61 (192 + 3 * n + c) = spV (ss.getD n (0, 0, none)) c) ∧ ∃ r, lnS T L 16 0 = (r, some ss)) := by
  have hL := hT.1
  have n0 : narrow .boolean (.int 0) = .int 0 := by decide +kernel
  have n1 : narrow .boolean (.int 1) = .int 1 := by decide +kernel
  have kc := C_lines hT hln t1
  have hpl : plc (rv 3 3) = ln := by
    rw [hrv]
    show 100 + ln - 100 = ln
    omega
  have hM0 := TaM_0 (v := 0) t2
  have km := M_lines (rv := rv') hT hM0
  have fcl : ∀ X', FrN ln i X' → FCl ld ln i X' := fun X' h q k h1 h2 _ _ h5 h6 => h q k h6 h5
  have hlen : ∀ m p r ss, p ≤ L → lnS T L m p = (r, some ss) → 1 ≤ ss.length ∧ ss.length ≤ m ∧ ∀ s, s ∈ ss → s.1 < 6 := by
    intro m
    induction m with
    | zero => intro p r ss _ e; rw [lnS] at e; have := (Prod.mk.inj e).2; simp at this
    | succ m ih =>
      intro p r ss hp e
      have kk := c_stp (a := 9) (f := 0) (X := u2 (fun _ k => nI (T k)) 1 1 (nI L)) hT (by omega) ⟨u2e _ _ _ _, fun k hk => by rw [u2r _ _ _ _ _ (by omega)]⟩ hp (by omega)
      rcases hs : stS T L p with ⟨r0, _ | s⟩
      · rw [lnS_1 hs] at e
        have := (Prod.mk.inj e).2
        simp at this
      · obtain ⟨_, b1, b2, b3⟩ := kk.1 _ _ hs
        by_cases h6 : L ≤ skp T L r0
        · rw [lnS_2 hs h6] at e
          rw [← Option.some.inj (Prod.mk.inj e).2]
          exact ⟨Nat.le_refl _, by show 1 ≤ m + 1; omega, fun s' hs' => by rw [List.mem_singleton.mp hs']; exact b3⟩
        · by_cases h7 : m = 0 ∨ ¬ ch T L (skp T L r0) = 59
          · rw [lnS_3 hs h6 h7] at e
            have := (Prod.mk.inj e).2
            simp at this
          · rcases h9 : lnS T L m (skp T L r0 + 1) with ⟨q, _ | ss2⟩
            · rw [lnS_4 hs h6 h7 h9] at e
              have := (Prod.mk.inj e).2
              simp at this
            · rw [lnS_5 hs h6 h7 h9] at e
              obtain ⟨i1, i2, i3⟩ := ih _ _ _ (by omega) h9
              rw [← Option.some.inj (Prod.mk.inj e).2]
              refine ⟨by rw [List.length_cons]; omega, by rw [List.length_cons]; omega, fun s' hs' => ?_⟩
              rcases List.mem_cons.mp hs' with e' | e'
              · rw [e']; exact b3
              · exact i3 s' e'
  unfold fX11_canRead fX9_linesDraft fX12_fault fX12_fault_28 fX12_fault_46
  rw [hpl, if_neg (show ¬ (2 : Int32) = 0 by decide), if_neg (show ¬ (2 : Int32) = 1 by decide), mz_b1, mz_o1, show 100 + ln - 100 = ln by omega, mz_lt, show fX12_isIn (2 : Int32).toInt64 0 2 = some 1 from is02 2 (by omega), mz_b1, if_neg (show ¬ (1 : Int32) = 0 by decide), if_neg (show ¬ (2 : Int32) = 0 by decide), if_neg (show ¬ (2 : Int32) = 1 by decide), if_pos (show (2 : Int32) = 2 from rfl)]
  rcases hr : lnS T L 16 0 with ⟨r, _ | ss⟩
  · obtain ⟨⟨X', e1, e2⟩, e3⟩ := kc.2 _ hr
    obtain ⟨Y', f1, f2⟩ := km.2 _ hr
    rw [e1, mz_b2, if_pos n0, f1, mz_b2, f2.1]
    refine Or.inl ⟨r, _, Y', e3, rfl, pP_at, FCl_p (fcl X' e2), rfl, FMl_t FMl_0 (FMl_t ⟨fun q k a1 _ _ _ _ _ => by rw [stM_fr.1 q (by simp [a1])], F5_w (by decide) stM_fr.2⟩ ⟨fun q k a1 a2 a3 a4 a5 a6 => ?_, F5_w (by decide) f2.2.2.1⟩)⟩
    by_cases e61 : q = 61
    · rw [e61]
      by_cases hk : k < 192
      · exact f2.2.2.2.1 k hk
      · exact absurd ⟨e61, by omega⟩ a5
    · by_cases e62 : q = 62
      · rw [e62]
        by_cases hk : k < 4
        · exact f2.2.2.2.2 k hk
        · exact absurd ⟨e62, by omega⟩ a6
      · rw [f2.2.1 q (by simp [a1, e61, e62])]
  · obtain ⟨e1, e2⟩ := kc.1 _ _ hr
    have f1 := km.1 _ _ hr
    obtain ⟨l1, l2, l3⟩ := hlen 16 0 r ss (by omega) hr
    obtain ⟨w1, w2, w3⟩ := wC_v (a := ln) ss (u2 i ln 1 0) 0 (u2e _ _ _ _)
    obtain ⟨v1, v2, v3⟩ := wM_v ss (stM (u2 j 50 0 0) 0 L) 192
    have h11 : mP (u2 (wM (stM (u2 j 50 0 0) 0 L) 192 ss) 62 4 (nI ss.length)) r 50 11 = NN := by
      rw [mP_n (by omega), u2r _ _ _ _ _ (by omega), v1 50 (by decide)]
      rfl
    rw [e1, mz_b2, if_pos n1, f1, mz_b2, h11]
    refine Or.inr ⟨_, _, ss, rfl, FCl_p (fcl _ (FrN_t FrN_u (wC_fr _ _ _))), l1, l2, l3, by rw [pP_r (by omega), w1, Nat.zero_add], fun n c hn hc => by rw [pP_r (by omega)]; have := w3 n c hn hc; rw [Nat.zero_add] at this; exact this, rfl, FMl_t FMl_0 (FMl_t (j1 := stM (u2 j 50 0 0) 0 L) ⟨fun q k a1 _ _ _ _ _ => by rw [stM_fr.1 q (by simp [a1])], F5_w (by decide) stM_fr.2⟩ ⟨fun q k a1 a2 a3 a4 a5 a6 => ?_, fun k hk => ?_⟩), by rw [mP_r (by omega), u2e], fun n c hn hc => by rw [mP_r (by omega), u2r _ _ _ _ _ (by omega)]; exact v3 n c hn hc, r, rfl⟩
    · rw [mP_r a1, u2o _ _ (by omega)]
      by_cases e61 : q = 61
      · rw [e61, v2 k (by
          rcases Nat.lt_or_ge k 192 with hk | hk
          · exact hk
          · exact absurd ⟨e61, hk⟩ a5)]
      · rw [v1 q (by simp [e61])]
    · simp at hk
      rw [mP_n (by omega), u2r _ _ _ _ _ (by omega), v1 50 (by decide)]
/-- a reading leaves what holds -/
theorem rd_inv (h2 : SI K W b σ i i rv) (h4 : Rst n K W g T L dr m m' la li i rv) (fc : FCl (la m) (li m') i i') (fm : FMl i' J) (hr : RvT rv rv2) : SI K W b σ J J rv2 ∧ Rst n K W g T L dr m m' la li J rv2 := by
  obtain ⟨g1, g2, g3, t1, t2, t3, ⟨d1, d2, d3⟩, hA, hB⟩ := h4
  obtain ⟨a1', a2', an, a3', a4', a5', a6', a7', a8', a9', a10', a11'⟩ := id hA
  have hm7 := a7' m (Nat.le_refl _)
  have hm8 := a8' m' (Nat.le_refl _)
  have cell : ∀ q k, (q ≤ 5 ∨ 15 ≤ q ∧ q < 50 ∨ q = 51 ∨ q = 52 ∨ q = 53 ∨ q = 55 ∨ q = 57 ∨ q = 59 ∨ q = 61 ∧ k < 192 ∨ q = 62 ∧ k < 4 ∨ 63 ≤ q ∧ q < 74) → ¬ (q = 1 ∧ k = 2) → J q k = i q k := fun q k hq h12 => by
    rw [fm.1 q k (by omega) (by omega) (by omega) (by omega) (by omega) (by omega), fc q k h12 (by omega) (by omega) (by omega) (by omega) (by omega)]
  have c50 : ∀ k, (k = 6 ∨ k = 7 ∨ k = 26 ∨ k = 27 ∨ k = 28 ∨ k = 31 ∨ k = 35 ∨ k = 36 ∨ k = 42 ∨ k = 49 ∨ k = 52 ∨ k = 57) → J 50 k = i 50 k := fun k hk => by
    rw [fm.2 k (by simp; omega), fc 50 k (by omega) (by omega) (by omega) (by omega) (by omega) (by omega)]
  have row : ∀ q, (q = 0 ∨ q = 2 ∨ q = 3 ∨ 15 ≤ q ∧ q < 50 ∨ q = 51 ∨ q = 52 ∨ q = 53 ∨ q = 55 ∨ q = 57 ∨ q = 59 ∨ 63 ≤ q ∧ q < 74) → J q = i q := fun q hq => funext (fun k => cell q k (by omega) (by omega))
  obtain ⟨s1, s2, s3⟩ := mk (J := J) h2 hA hB (fun q e1 e2 => row q (by omega)) (by rw [row 3 (by omega)]) (by rw [row 3 (by omega)]) (by rw [row 0 (by omega)]) (fun k hk => c50 k (by omega)) (fun q hq => row q (by omega)) (fun k hk => cell 61 k (by omega) (by omega)) (fun k hk => cell 62 k (by omega) (by omega)) (fun x hx => by
    have h7 := a7' x (by omega)
    have h9 := a9' x m hx (Nat.le_refl _)
    have h11 := a11' x m' (by omega) (Nat.le_refl _)
    refine ⟨?_, fun k => ?_⟩
    · rw [fm.1 _ _ (by omega) (by omega) (by omega) (by omega) (by omega) (by omega), fc _ _ (by omega) (by omega) (by omega) (by omega) (by omega) (by omega)]
    · rw [fm.1 _ _ (by omega) (by omega) (by omega) (by omega) (by omega) (by omega), fc _ _ (by omega) (by omega) (by omega) (by omega) (by omega) (by omega)]) (fun x hx => by
    have h8 := a8' x (by omega)
    have h10 := a10' x m' hx (Nat.le_refl _)
    have h11 := a11' m x (Nat.le_refl _) (by omega)
    refine ⟨?_, fun k => ?_⟩
    · rw [fm.1 _ _ (by omega) (by omega) (by omega) (by omega) (by omega) (by omega), fc _ _ (by omega) (by omega) (by omega) (by omega) (by omega) (by omega)]
    · rw [fm.1 _ _ (by omega) (by omega) (by omega) (by omega) (by omega) (by omega), fc _ _ (by omega) (by omega) (by omega) (by omega) (by omega) (by omega)]) hr
  refine ⟨s1, ?_, ?_, g3, ⟨by rw [cell 1 1 (by omega) (by omega)]; exact t1.1, by rw [row 2 (by omega)]; exact t1.2⟩, ⟨by rw [c50 6 (by omega)]; exact t2.1, by rw [row 51 (by omega)]; exact t2.2⟩, t3, ⟨by rw [row 0 (by omega)]; exact d1, by rw [c50 36 (by omega)]; exact d2, d3⟩, s2, s3⟩
  · unfold GuC at g1 ⊢
    rw [row 45 (by omega), row 46 (by omega), row 47 (by omega), row 48 (by omega), row 49 (by omega)]
    exact g1
  · unfold GuM at g2 ⊢
    rw [c50 49 (by omega), c50 52 (by omega), row 67 (by omega), row 68 (by omega), row 69 (by omega), row 70 (by omega)]
    exact g2
theorem TaM_c (hA : ShA n m m' la li rv) (h : TaM T L i) (fc : FCl (la m) (li m') i i') : TaM T L i' := by
  have hm7 := hA.2.2.2.2.2.2.2.1 m (Nat.le_refl _)
  have hm8 := hA.2.2.2.2.2.2.2.2.1 m' (Nat.le_refl _)
  exact ⟨by rw [fc 50 6 (by omega) (by omega) (by omega) (by omega) (by omega) (by omega)]; exact h.1, fun k hk => by rw [fc 51 k (by omega) (by omega) (by omega) (by omega) (by omega) (by omega)]; exact h.2 k hk⟩
theorem Q_fault (h : Inv c n i rv) (hc : c < 512) (a1 : Int32) : ∃ v i' j' rv2, fX11_fault a1 i rv = some (v, i') ∧ fX12_fault a1 i' rv = some (v, j', rv2) ∧ RvT rv rv2 ∧ Inv (c + 1) n j' rv2 := by
  obtain ⟨K, W, b, σ, g, T, L, dr, m, m', la, li, h1, h2, h3, h4⟩ := id h
  obtain ⟨g1, g2, g3, t1, t2, t3, ⟨d1, d2, d3⟩, hA, hB⟩ := id h4
  obtain ⟨a1', a2', an, a3', a4', a5', a6', a7', a8', a9', a10', a11'⟩ := id hA
  have hm7 := a7' m (Nat.le_refl _)
  have hm8 := a8' m' (Nat.le_refl _)
  have bad : ¬ (0 ≤ a1 ∧ a1 ≤ 2) → ∃ v i' j' rv2, fX11_fault a1 i rv = some (v, i') ∧ fX12_fault a1 i' rv = some (v, j', rv2) ∧ RvT rv rv2 ∧ Inv (c + 1) n j' rv2 := by
    intro hn
    refine ⟨-2, i, u2 i 50 0 0, rv, ?_, ?_, Or.inl rfl, Inv_up (Inv_0 h)⟩
    · unfold fX11_fault
      by_cases e : a1 < 0
      · rw [if_pos e]
      · rw [if_neg e, if_neg (fun e2 => hn ⟨Int32.not_lt.mp e, e2⟩)]
    · unfold fX12_fault
      rw [mz_lt, show fX12_isIn a1.toInt64 0 2 = some (if 0 ≤ a1 ∧ a1 ≤ 2 then 1 else 0) from mz_isIn a1 0 2, mz_b1, if_neg hn, if_pos rfl]
  rcases mz_cases a1 with hneg | ⟨x, hx, rfl⟩
  · exact bad (fun e => absurd hneg (Int32.not_lt.mpr e.1))
  · by_cases hx2 : x ≤ 2
    · have hf : ∀ (A : Option (Int32 × Tb)), fX11_canRead (nI x) i rv = A → fX11_fault (nI x) i rv = (bn2 A fun v1 i2 => if v1 = 0 then (bn1 (fX10_at i2) fun v4 => some (v4, i2)) else (some ((-1), i2))) := by
        intro A hA'
        unfold fX11_fault
        rw [if_neg (show ¬ nI x < 0 by rw [q0, mz_ltp (by omega) (by omega)]; omega), if_pos (show nI x ≤ 2 by rw [qTWO, mz_le (by omega) (by omega)]; exact hx2), hA']
      have go : ∀ (v0 : Int32) (i' : Tb), fX11_canRead (nI x) i rv = some (v0, i') → FCl (la m) (li m') i i' → ∀ v, (v0 = 0 ∧ v = i' 1 2 ∨ v0 = 1 ∧ v = NN) → (∃ j', fX12_fault (nI x) i' rv = some (v, j', u2 rv 50 5 (some (100 + 51))) ∧ FMl i' j') → ∃ v i' j' rv2, fX11_fault (nI x) i rv = some (v, i') ∧ fX12_fault (nI x) i' rv = some (v, j', rv2) ∧ RvT rv rv2 ∧ Inv (c + 1) n j' rv2 := by
        intro v0 i' e1 e2 v e3 ⟨j', e4, e5⟩
        obtain ⟨s1, s2⟩ := rd_inv (rv2 := u2 rv 50 5 (some (100 + 51))) h2 h4 e2 e5 (Or.inr (Or.inl rfl))
        refine ⟨v, i', j', _, ?_, e4, Or.inr (Or.inl rfl), K, W, b, σ, g, T, L, dr, m, m', la, li, h1, s1, by omega, s2⟩
        rw [hf _ e1, mz_b2]
        unfold fX10_at
        rcases e3 with ⟨rfl, rfl⟩ | ⟨rfl, rfl⟩
        · rw [if_pos rfl, mz_b1]
        · rw [if_neg (show ¬ (1 : Int32) = 0 by decide)]
          rfl
      rcases (show x = 0 ∨ x = 1 ∨ x = 2 by omega) with rfl | rfl | rfl
      · rcases R_rd0 (rv := rv) (rv' := rv) (j := i) (ld := la m) (ln := li m') t3 t1 t2 with ⟨r, X', _, e0, e1, e2, _⟩ | ⟨r, D, X', _, _, e0, e1, e2, _⟩
        · rcases R_rd0 (rv := rv) (rv' := rv) (ld := la m) (ln := li m') t3 t1 (TaM_c hA t2 e2) with ⟨r', X2, j', _, f1, f2, f3, f4⟩ | ⟨r', D, X2, Y, td, _, f1, _⟩
          · rw [e1] at f1
            have e5 := (Prod.mk.inj (Option.some.inj f1)).2
            have e6 : nI r' = pP X' r 1 2 := by rw [e5, pP_at]
            exact go 0 _ e1 e2 (nI r') (Or.inl ⟨rfl, e6⟩) ⟨j', f3, f4⟩
          · rw [e1] at f1
            exact absurd (Prod.mk.inj (Option.some.inj f1)).1 (by decide)
        · rcases R_rd0 (rv := rv) (rv' := rv) (ld := la m) (ln := li m') t3 t1 (TaM_c hA t2 e2) with ⟨r', X2, j', _, f1, _⟩ | ⟨r', D2, X2, Y, td, _, f1, f2, _, _, _, _, _, f3, f4, _⟩
          · rw [e1] at f1
            exact absurd (Prod.mk.inj (Option.some.inj f1)).1 (by decide)
          · exact go 1 _ e1 e2 NN (Or.inr ⟨rfl, rfl⟩) ⟨_, f3, f4⟩
      · rcases R_rd1 (rv := rv) (rv' := rv) (j := i) (ld := la m) (ln := li m') t3 t1 t2 a5' (by omega) with ⟨r, X', _, e0, e1, e10, e2, _⟩ | ⟨X', _, cls, e1, e2, _⟩
        · rcases R_rd1 (rv := rv) (rv' := rv) (ld := la m) (ln := li m') t3 t1 (TaM_c hA t2 e2) a5' (by omega) with ⟨r', X2, j', _, f1, f10, f2, f3, f4⟩ | ⟨X2, j', cls, f1, _⟩
          · rw [e1] at f1
            have e5 := (Prod.mk.inj (Option.some.inj f1)).2
            exact go 0 _ e1 e2 (nI r') (Or.inl ⟨rfl, by rw [e5, f10]⟩) ⟨j', f3, f4⟩
          · rw [e1] at f1
            exact absurd (Prod.mk.inj (Option.some.inj f1)).1 (by decide)
        · rcases R_rd1 (rv := rv) (rv' := rv) (ld := la m) (ln := li m') t3 t1 (TaM_c hA t2 e2) a5' (by omega) with ⟨r', X2, j', _, f1, _⟩ | ⟨X2, j', cls2, f1, f2, _, _, _, f3, f4⟩
          · rw [e1] at f1
            exact absurd (Prod.mk.inj (Option.some.inj f1)).1 (by decide)
          · exact go 1 _ e1 e2 NN (Or.inr ⟨rfl, rfl⟩) ⟨_, f3, f4⟩
      · rcases R_rd2 (rv := rv) (rv' := rv) (j := i) (ld := la m) (ln := li m') t3 t1 t2 a6' (by omega) with ⟨r, X', _, e0, e1, e10, e2, _⟩ | ⟨X', _, ss, e1, e2, _⟩
        · rcases R_rd2 (rv := rv) (rv' := rv) (ld := la m) (ln := li m') t3 t1 (TaM_c hA t2 e2) a6' (by omega) with ⟨r', X2, j', _, f1, f10, f2, f3, f4⟩ | ⟨X2, j', ss, f1, _⟩
          · rw [e1] at f1
            have e5 := (Prod.mk.inj (Option.some.inj f1)).2
            exact go 0 _ e1 e2 (nI r') (Or.inl ⟨rfl, by rw [e5, f10]⟩) ⟨j', f3, f4⟩
          · rw [e1] at f1
            exact absurd (Prod.mk.inj (Option.some.inj f1)).1 (by decide)
        · rcases R_rd2 (rv := rv) (rv' := rv) (ld := la m) (ln := li m') t3 t1 (TaM_c hA t2 e2) a6' (by omega) with ⟨r', X2, j', _, f1, _⟩ | ⟨X2, j', ss2, f1, f2, _, _, _, _, _, f3, f4, _⟩
          · rw [e1] at f1
            exact absurd (Prod.mk.inj (Option.some.inj f1)).1 (by decide)
          · exact go 1 _ e1 e2 NN (Or.inr ⟨rfl, rfl⟩) ⟨_, f3, f4⟩
    · exact bad (fun e => by have := e.2; rw [qTWO, mz_le (by omega) (by omega)] at this; omega)
end QF
