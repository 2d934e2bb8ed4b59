/-! what keeps LAWS and LINES: the shelf's two methods that make an object; hold; text -/
theorem bL1 {q n : Nat} (h : q < n) : ((aEnt [Value.ref (100 + q)] 1).all (fun o => match o with | some v => aBel (100 + n) v | none => true)) = true := by
  show (aBel (100 + n) (.ref (100 + q)) && true) = true
  rw [b_ref h]
  rfl
section KP
variable {p : Program} {l : Launch} {e : Env} {R : Room} {s : State} {m : MethodId} {args : Array Value} {below : List Frame} {meth : Method} {c : Code} {D : va_G} {cA : FieldType → ClassId} {A : Nat → Prop} {ad0 : Nat → Nat} {sh : List aSh} {i i0 : Nat → Nat → Int32} {lo lo0 : Nat → Nat → Int64} {rv rv0 : Nat → Nat → Option Nat}
theorem okX9_keepLaw0 {l : Launch} (hG : aGood sh rv) (hc : i 3 4 = 4) : aM l yX9_keepLaw cX9_keepLaw 1 (some .int) 0 [.ref (100 + 3)] (sh, i, lo, rv) (some (.int (-1))) (sh, i, lo, rv) := by
  refine aM_of (by decide) (Nat.le_of_ble_eq_true rfl) (Nat.le_refl _) (Nat.le_refl _) (fun p e s m args below meth c D cA A ad0 hX hr hlk hnm => ?_)
  refine j_aload_n hX dX9_keepLaw_0 rfl ?_
  refine j_getI (k := 4) hX kX9 (by decide) fk_X9_33 dX9_keepLaw_1 (sh_3 hG) rfl ?_
  refine j_iconst hX dX9_keepLaw_4 ic_4 ?_
  refine j_icmp_ne (tgt := 10) hX dX9_keepLaw_5 (by decide) (fun hn => absurd hc hn) (fun hn => ?_)
  refine j_iconst hX dX9_keepLaw_8 ic_m1 ?_
  exact j_ret hX hr hlk rfl dX9_keepLaw_9
/-- the shelf with one LAW more, and a new draft -/
def wKL (h : aHp) : aHp := pI (pR (wX4_init h.1.length (aNew (h.1, h.2.1, h.2.2.1, u2 h.2.2.2 4 (h.2.1 3 4).toNatClampNeg (some (100 + plc (h.2.2.2 3 2)))) (.inr 4))) 3 2 (some (100 + h.1.length))) 3 4 (h.2.1 3 4 + 1)
theorem wKL_len (h : aHp) : (wKL h).1.length = h.1.length + 3 := by simp only [wKL, pI_len, pR_len, lenX4_init, aNew_len]
theorem wKL_sn (h : aHp) : aSn (wKL h).1 = aSn h.1 + 276 := by
  simp only [wKL, pI_sn, pR_sn, snX4_init, aNew_sn]
  rw [show aSz (.inr 4) = 4 from by decide]
theorem wX4_i {q z k : Nat} {h : aHp} (hz : z < h.1.length) : (wX4_init q h).2.1 z k = h.2.1 z k := by
  unfold wX4_init wX4_init_4 wX4_init_3 wX4_init_2 wX4_init_1
  dsimp only [pR, aNew]
  rw [z2_row _ _ (by simp; omega), z2_row _ _ (by omega)]
theorem aNew_i {h : aHp} {x : aSh} {z k : Nat} (hz : z < h.1.length) : (aNew h x).2.1 z k = h.2.1 z k := by
  dsimp only [aNew]
  rw [z2_row _ _ (by omega)]
theorem okX9_keepLaw {l : Launch} (hG : aGood sh rv) (hc : ¬ i 3 4 = 4) (hin : aIn (i 3 4) 4 = true) : aM l yX9_keepLaw cX9_keepLaw 1 (some .int) 2 [.ref (100 + 3)] (sh, i, lo, rv) (some (.int (i 3 4 + 1 - 1))) (wKL (sh, i, lo, rv)) := by
  have h74 : 74 ≤ sh.length := (List.getElem?_eq_some_iff.mp (sh_73 hG)).1
  have hl := wKL_len (sh, i, lo, rv)
  have hsn := wKL_sn (sh, i, lo, rv)
  refine aM_of (by decide) (Nat.le_of_ble_eq_true rfl) (by rw [hl]; omega) (by rw [hsn]; omega) (fun p e s m args below meth c D cA A ad0 hX hr hlk hnm => ?_)
  generalize hRe : (Room.mk 2 ((wKL (sh, i, lo, rv)).1.length - (sh, i, lo, rv).1.length) (aSn (wKL (sh, i, lo, rv)).1 - aSn (sh, i, lo, rv).1) (64 * 2)) = R
  have hRf : 2 ≤ R.frames := by rw [← hRe]; exact Nat.le_refl _
  have hRl : 64 * 2 ≤ R.locals := by rw [← hRe]; exact Nat.le_refl _
  have hRc : 3 ≤ R.cells := by rw [← hRe]; show 3 ≤ _ - _; rw [hl]; omega
  have hRs : 276 ≤ R.slots := by rw [← hRe]; show 276 ≤ _ - _; rw [hsn]; omega
  refine j_aload_n hX dX9_keepLaw_0 rfl ?_
  refine j_getI (k := 4) hX kX9 (by decide) fk_X9_33 dX9_keepLaw_1 (sh_3 hG) rfl ?_
  refine j_iconst hX dX9_keepLaw_4 ic_4 ?_
  refine j_icmp_ne (tgt := 10) hX dX9_keepLaw_5 (by decide) (fun hn => ?_) (fun hn => absurd hn hc)
  refine j_aload_n hX dX9_keepLaw_10 rfl ?_
  refine j_getR (k := 0) hX kX9 (by decide) fk_X9_13 (rf_3_0 hG) dX9_keepLaw_11 (sh_3 hG) rfl ?_
  refine j_aload_n hX dX9_keepLaw_14 rfl ?_
  refine j_getI (k := 4) hX kX9 (by decide) fk_X9_33 dX9_keepLaw_15 (sh_3 hG) rfl ?_
  refine j_aload_n hX dX9_keepLaw_18 rfl ?_
  refine j_getR (k := 2) hX kX9 (by decide) fk_X9_24 hG.2.2.2.1.1 dX9_keepLaw_19 (sh_3 hG) rfl ?_
  refine j_aast (t0 := 4) hX (sh_4 hG) (fun _ => rfl) hG.2.2.2.1.2.1 kX4 hin dX9_keepLaw_22 ?_
  refine j_aload_n hX dX9_keepLaw_23 rfl ?_
  obtain ⟨h2, e2⟩ : ∃ z : aHp, z = aNew (sh, i, lo, u2 rv 4 (i 3 4).toNatClampNeg (some (100 + plc (rv 3 2)))) (.inr 4) := ⟨_, rfl⟩
  refine j_newN (N := 4) (n0 := sh.length) hX kX4 dX9_keepLaw_24 wCl_RX9_11 wIn_RX4 wIni_RX4 nf_RX4 rfl (b_cons (b_ref (by omega)) b_nil) (bL1 (by omega)) (rmC (k := 0) rfl hRc (by decide)) (rmS (s := 0) rfl hRs (by decide)) (h' := h2) e2 ?_
  have l2 : h2.1.length = sh.length + 1 := by rw [e2]; exact len_step (s := 0) rfl rfl
  have s2 : aSn h2.1 = aSn sh + 4 := by rw [e2]; exact sn_step (s := 0) (z := 4) (t := 4) rfl rfl rfl
  have g2 : h2.1[sh.length]? = some (.inr 4) := by rw [e2]; exact last_step rfl
  have g2b : h2.1[3]? = some (.inr 9) := by rw [e2]; exact aNew_get (sh_3 hG)
  refine j_dup hX dX9_keepLaw_27 rfl ?_
  obtain ⟨h3, e3⟩ : ∃ z : aHp, z = wX4_init sh.length h2 := ⟨_, rfl⟩
  refine j_callINM (as := []) (q := sh.length) (n0 := sh.length + 1) hX lk_X9_23 dX9_keepLaw_28 (okX4_init g2) rfl (rmm (by decide) hRf hRl (by decide)) (Nat.le_of_ble_eq_true rfl) (rmW (lenX4_init sh.length h2) l2 hRc (by decide)) (rmW (snX4_init sh.length h2) s2 hRs (by decide)) l2 (b_cons (b_ref (by omega)) (b_cons (b_ref (by omega)) b_nil)) (bL1 (by omega)) (h' := h3) e3 ?_
  have l3 : h3.1.length = sh.length + 3 := by rw [e3, lenX4_init, l2]
  have g3 : h3.1[3]? = some (.inr 9) := by rw [e3]; exact getX4_init g2b
  have i3 : h3.2.1 3 4 = i 3 4 := by rw [e3, wX4_i (by omega), e2, aNew_i (by show 3 < sh.length; omega)]
  obtain ⟨h4, e4⟩ : ∃ z : aHp, z = pR h3 3 2 (some (100 + sh.length)) := ⟨_, rfl⟩
  refine j_putRN (k := 2) hX kX9 (by decide) fk_X9_24 (by rw [l3]; omega) dX9_keepLaw_31 g3 rfl rfl (h' := h4) e4 ?_
  have g4 : h4.1[3]? = some (.inr 9) := by rw [e4]; exact g3
  have i4 : h4.2.1 3 4 = i 3 4 := by rw [e4]; exact i3
  refine j_aload_n hX dX9_keepLaw_34 rfl ?_
  refine j_dup hX dX9_keepLaw_35 rfl ?_
  refine j_getI (k := 4) hX kX9 (by decide) fk_X9_33 dX9_keepLaw_36 g4 rfl ?_
  refine j_iconst hX dX9_keepLaw_39 ic_1 ?_
  refine j_iadd hX dX9_keepLaw_40 ?_
  obtain ⟨h5, e5⟩ : ∃ z : aHp, z = pI h4 3 4 (h4.2.1 3 4 + 1) := ⟨_, rfl⟩
  refine j_putIN (k := 4) hX kX9 (by decide) fk_X9_33 dX9_keepLaw_41 g4 rfl rfl rfl rfl (h' := h5) e5 ?_
  have g5 : h5.1[3]? = some (.inr 9) := by rw [e5]; exact g4
  refine j_aload_n hX dX9_keepLaw_44 rfl ?_
  refine j_getI (k := 4) hX kX9 (by decide) fk_X9_33 dX9_keepLaw_45 g5 rfl ?_
  refine j_iconst hX dX9_keepLaw_48 ic_1 ?_
  refine j_isub hX dX9_keepLaw_49 ?_
  have hw : h5 = wKL (sh, i, lo, rv) := by
    rw [e5]
    rw [show h4.2.1 3 4 = i 3 4 from i4]
    rw [e4, e3, e2]
    rfl
  have hv : h5.2.1 3 4 - 1 = i 3 4 + 1 - 1 := by
    rw [e5]
    show u2 h4.2.1 3 4 (h4.2.1 3 4 + 1) 3 4 - 1 = _
    rw [u2_same, i4]
  show aJ p l e R s m args below meth c _ D cA A ad0 1 _ _ _ _ [.int (h5.2.1 3 4 - 1)] h5
  rw [hv, hw]
  exact j_ret hX hr hlk rfl dX9_keepLaw_50
theorem okX9_keepLines0 {l : Launch} (hG : aGood sh rv) (hc : i 3 5 = 4) : aM l yX9_keepLines cX9_keepLines 1 (some .int) 0 [.ref (100 + 3)] (sh, i, lo, rv) (some (.int (-1))) (sh, i, lo, rv) := by
  refine aM_of (by decide) (Nat.le_of_ble_eq_true rfl) (Nat.le_refl _) (Nat.le_refl _) (fun p e s m args below meth c D cA A ad0 hX hr hlk hnm => ?_)
  refine j_aload_n hX dX9_keepLines_0 rfl ?_
  refine j_getI (k := 5) hX kX9 (by decide) fk_X9_37 dX9_keepLines_1 (sh_3 hG) rfl ?_
  refine j_iconst hX dX9_keepLines_4 ic_4 ?_
  refine j_icmp_ne (tgt := 10) hX dX9_keepLines_5 (by decide) (fun hn => absurd hc hn) (fun hn => ?_)
  refine j_iconst hX dX9_keepLines_8 ic_m1 ?_
  exact j_ret hX hr hlk rfl dX9_keepLines_9
/-- the shelf with one LAW more, and a new draft -/
def wKS (h : aHp) : aHp := pI (pR (wX5_init h.1.length (aNew (h.1, h.2.1, h.2.2.1, u2 h.2.2.2 5 (h.2.1 3 5).toNatClampNeg (some (100 + plc (h.2.2.2 3 3)))) (.inr 5))) 3 3 (some (100 + h.1.length))) 3 5 (h.2.1 3 5 + 1)
theorem wKS_len (h : aHp) : (wKS h).1.length = h.1.length + 2 := by simp only [wKS, pI_len, pR_len, lenX5_init, aNew_len]
theorem wKS_sn (h : aHp) : aSn (wKS h).1 = aSn h.1 + 50 := by
  simp only [wKS, pI_sn, pR_sn, snX5_init, aNew_sn]
  rw [show aSz (.inr 5) = 2 from by decide]
theorem wX5_i {q z k : Nat} {h : aHp} (hz : z < h.1.length) : (wX5_init q h).2.1 z k = h.2.1 z k := by
  unfold wX5_init wX5_init_2 wX5_init_1
  dsimp only [pR, aNew]
  rw [z2_row _ _ (by omega)]
theorem okX9_keepLines {l : Launch} (hG : aGood sh rv) (hc : ¬ i 3 5 = 4) (hin : aIn (i 3 5) 4 = true) : aM l yX9_keepLines cX9_keepLines 1 (some .int) 2 [.ref (100 + 3)] (sh, i, lo, rv) (some (.int (i 3 5 + 1 - 1))) (wKS (sh, i, lo, rv)) := by
  have h74 : 74 ≤ sh.length := (List.getElem?_eq_some_iff.mp (sh_73 hG)).1
  have hl := wKS_len (sh, i, lo, rv)
  have hsn := wKS_sn (sh, i, lo, rv)
  refine aM_of (by decide) (Nat.le_of_ble_eq_true rfl) (by rw [hl]; omega) (by rw [hsn]; omega) (fun p e s m args below meth c D cA A ad0 hX hr hlk hnm => ?_)
  generalize hRe : (Room.mk 2 ((wKS (sh, i, lo, rv)).1.length - (sh, i, lo, rv).1.length) (aSn (wKS (sh, i, lo, rv)).1 - aSn (sh, i, lo, rv).1) (64 * 2)) = R
  have hRf : 2 ≤ R.frames := by rw [← hRe]; exact Nat.le_refl _
  have hRl : 64 * 2 ≤ R.locals := by rw [← hRe]; exact Nat.le_refl _
  have hRc : 2 ≤ R.cells := by rw [← hRe]; show 2 ≤ _ - _; rw [hl]; omega
  have hRs : 50 ≤ R.slots := by rw [← hRe]; show 50 ≤ _ - _; rw [hsn]; omega
  refine j_aload_n hX dX9_keepLines_0 rfl ?_
  refine j_getI (k := 5) hX kX9 (by decide) fk_X9_37 dX9_keepLines_1 (sh_3 hG) rfl ?_
  refine j_iconst hX dX9_keepLines_4 ic_4 ?_
  refine j_icmp_ne (tgt := 10) hX dX9_keepLines_5 (by decide) (fun hn => ?_) (fun hn => absurd hn hc)
  refine j_aload_n hX dX9_keepLines_10 rfl ?_
  refine j_getR (k := 1) hX kX9 (by decide) fk_X9_19 (rf_3_1 hG) dX9_keepLines_11 (sh_3 hG) rfl ?_
  refine j_aload_n hX dX9_keepLines_14 rfl ?_
  refine j_getI (k := 5) hX kX9 (by decide) fk_X9_37 dX9_keepLines_15 (sh_3 hG) rfl ?_
  refine j_aload_n hX dX9_keepLines_18 rfl ?_
  refine j_getR (k := 3) hX kX9 (by decide) fk_X9_29 hG.2.2.2.2.1.1 dX9_keepLines_19 (sh_3 hG) rfl ?_
  refine j_aast (t0 := 5) hX (sh_5 hG) (fun _ => rfl) hG.2.2.2.2.1.2.1 kX5 hin dX9_keepLines_22 ?_
  refine j_aload_n hX dX9_keepLines_23 rfl ?_
  obtain ⟨h2, e2⟩ : ∃ z : aHp, z = aNew (sh, i, lo, u2 rv 5 (i 3 5).toNatClampNeg (some (100 + plc (rv 3 3)))) (.inr 5) := ⟨_, rfl⟩
  refine j_newN (N := 2) (n0 := sh.length) hX kX5 dX9_keepLines_24 wCl_RX9_17 wIn_RX5 wIni_RX5 nf_RX5 rfl (b_cons (b_ref (by omega)) b_nil) (bL1 (by omega)) (rmC (k := 0) rfl hRc (by decide)) (rmS (s := 0) rfl hRs (by decide)) (h' := h2) e2 ?_
  have l2 : h2.1.length = sh.length + 1 := by rw [e2]; exact len_step (s := 0) rfl rfl
  have s2 : aSn h2.1 = aSn sh + 2 := by rw [e2]; exact sn_step (s := 0) (z := 2) (t := 2) rfl rfl rfl
  have g2 : h2.1[sh.length]? = some (.inr 5) := by rw [e2]; exact last_step rfl
  have g2b : h2.1[3]? = some (.inr 9) := by rw [e2]; exact aNew_get (sh_3 hG)
  refine j_dup hX dX9_keepLines_27 rfl ?_
  obtain ⟨h3, e3⟩ : ∃ z : aHp, z = wX5_init sh.length h2 := ⟨_, rfl⟩
  refine j_callINM (as := []) (q := sh.length) (n0 := sh.length + 1) hX lk_X9_28 dX9_keepLines_28 (okX5_init g2) rfl (rmm (by decide) hRf hRl (by decide)) (Nat.le_of_ble_eq_true rfl) (rmW (lenX5_init sh.length h2) l2 hRc (by decide)) (rmW (snX5_init sh.length h2) s2 hRs (by decide)) l2 (b_cons (b_ref (by omega)) (b_cons (b_ref (by omega)) b_nil)) (bL1 (by omega)) (h' := h3) e3 ?_
  have l3 : h3.1.length = sh.length + 2 := by rw [e3, lenX5_init, l2]
  have g3 : h3.1[3]? = some (.inr 9) := by rw [e3]; exact getX5_init g2b
  have i3 : h3.2.1 3 5 = i 3 5 := by rw [e3, wX5_i (by omega), e2, aNew_i (by show 3 < sh.length; omega)]
  obtain ⟨h4, e4⟩ : ∃ z : aHp, z = pR h3 3 3 (some (100 + sh.length)) := ⟨_, rfl⟩
  refine j_putRN (k := 3) hX kX9 (by decide) fk_X9_29 (by rw [l3]; omega) dX9_keepLines_31 g3 rfl rfl (h' := h4) e4 ?_
  have g4 : h4.1[3]? = some (.inr 9) := by rw [e4]; exact g3
  have i4 : h4.2.1 3 5 = i 3 5 := by rw [e4]; exact i3
  refine j_aload_n hX dX9_keepLines_34 rfl ?_
  refine j_dup hX dX9_keepLines_35 rfl ?_
  refine j_getI (k := 5) hX kX9 (by decide) fk_X9_37 dX9_keepLines_36 g4 rfl ?_
  refine j_iconst hX dX9_keepLines_39 ic_1 ?_
  refine j_iadd hX dX9_keepLines_40 ?_
  obtain ⟨h5, e5⟩ : ∃ z : aHp, z = pI h4 3 5 (h4.2.1 3 5 + 1) := ⟨_, rfl⟩
  refine j_putIN (k := 5) hX kX9 (by decide) fk_X9_37 dX9_keepLines_41 g4 rfl rfl rfl rfl (h' := h5) e5 ?_
  have g5 : h5.1[3]? = some (.inr 9) := by rw [e5]; exact g4
  refine j_aload_n hX dX9_keepLines_44 rfl ?_
  refine j_getI (k := 5) hX kX9 (by decide) fk_X9_37 dX9_keepLines_45 g5 rfl ?_
  refine j_iconst hX dX9_keepLines_48 ic_1 ?_
  refine j_isub hX dX9_keepLines_49 ?_
  have hw : h5 = wKS (sh, i, lo, rv) := by
    rw [e5]
    rw [show h4.2.1 3 5 = i 3 5 from i4]
    rw [e4, e3, e2]
    rfl
  have hv : h5.2.1 3 5 - 1 = i 3 5 + 1 - 1 := by
    rw [e5]
    show u2 h4.2.1 3 5 (h4.2.1 3 5 + 1) 3 5 - 1 = _
    rw [u2_same, i4]
  show aJ p l e R s m args below meth c _ D cA A ad0 1 _ _ _ _ [.int (h5.2.1 3 5 - 1)] h5
  rw [hv, hw]
  exact j_ret hX hr hlk rfl dX9_keepLines_50
end KP
