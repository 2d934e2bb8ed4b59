/-! decompiled: X0_layOutWaits X0_worthAtLeast X0_coffeesBehind X0_sayOne X0_chooseLeast X0_chooseDigits X0_findWords X11_words X2_couldBe X2_chanceOf X11_tonight X2_addHeard X11_hear X2_addLook X11_lookAt X2_fits X2_fitting X11_fit X2_apartAt X2_bestBerth X11_best -/
section DC
variable {p : Program} {l : Launch} {e : Env} {R : Room} {s : State} {m : MethodId} {args : Array Value} {below : List Frame} {meth : Method} {c : Code} {D : va_G} {cA : FieldType → ClassId} {A : Nat → Prop} {ad0 : Nat → Nat} {sh : List aSh} {i i0 : Nat → Nat → Int32} {lo lo0 : Nat → Nat → Int64} {rv rv0 : Nat → Nat → Option Nat}
def fX0_layOutWaits_113 (kh4 : Int32 → Int32 → Int32 → (Nat → Nat → Int32) → Option ((Nat → Nat → Int32))) (kh45 : Int32 → Int32 → Int32 → Int32 → Int32 → (Nat → Nat → Int32) → Option ((Nat → Nat → Int32))) (x1 : Int32) (x2 : Int32) (x3 : Int32) (x4 : Int32) (x5 : Int32) (i : Nat → Nat → Int32) : Option ((Nat → Nat → Int32)) := kh45 x1 x2 x3 x4 (x5 + 1) i
theorem kX0_layOutWaits_113  {iR : Nat → Nat → Int32} (hX : aX p s m args c RX0 cX0_layOutWaits 8 D cA A ad0) (hr : meth.sig.returnType = none) (hlk : meth.locks = false) (hRf : 4 ≤ R.frames) (hRl : 64 * 4 ≤ R.locals) {kh4 : Int32 → Int32 → Int32 → (Nat → Nat → Int32) → Option ((Nat → Nat → Int32))} {kh45 : Int32 → Int32 → Int32 → Int32 → Int32 → (Nat → Nat → Int32) → Option ((Nat → Nat → Int32))} (Hkh4 : ∀ (x1 : Int32) (x2 : Int32) (x3 : Int32) (i : Nat → Nat → Int32), aGood sh rv → kh4 x1 x2 x3 i = some (iR) → aJ p l e R s m args below meth c (MQ below (aPost D cA ad0 A (sh, i0, lo0, rv0) none (sh, iR, lo, rv)) args s (sh.length - sh.length) (aSn sh - aSn sh) A) D cA A ad0 8 sh.length (aSn sh) 4 [some (.ref (100 + 35)), some (.int x1), some (.int x2), some (.int x3), none, none, none, none] [] (sh, i, lo, rv)) (Hkh45 : ∀ (x1 : Int32) (x2 : Int32) (x3 : Int32) (x4 : Int32) (x5 : Int32) (i : Nat → Nat → Int32), aGood sh rv → kh45 x1 x2 x3 x4 x5 i = some (iR) → aJ p l e R s m args below meth c (MQ below (aPost D cA ad0 A (sh, i0, lo0, rv0) none (sh, iR, lo, rv)) args s (sh.length - sh.length) (aSn sh - aSn sh) A) D cA A ad0 8 sh.length (aSn sh) 45 [some (.ref (100 + 35)), some (.int x1), some (.int x2), some (.int x3), some (.int x4), some (.int x5), none, none] [] (sh, i, lo, rv)) {x1 : Int32} {x2 : Int32} {x3 : Int32} {x4 : Int32} {x5 : Int32} (hG : aGood sh rv) (hf : fX0_layOutWaits_113 kh4 kh45 x1 x2 x3 x4 x5 i = some (iR)) : aJ p l e R s m args below meth c (MQ below (aPost D cA ad0 A (sh, i0, lo0, rv0) none (sh, iR, lo, rv)) args s (sh.length - sh.length) (aSn sh - aSn sh) A) D cA A ad0 8 sh.length (aSn sh) 113 [some (.ref (100 + 35)), some (.int x1), some (.int x2), some (.int x3), some (.int x4), some (.int x5), none, none] [] (sh, i, lo, rv) := by
  unfold fX0_layOutWaits_113 at hf
  refine j_iinc hX dX0_layOutWaits_113 rfl (congrArg (_ + ·) ic_1) (by decide) rfl ?_
  refine j_goto (tgt := 45) hX dX0_layOutWaits_116 (by decide) ?_
  exact aJx (Hkh45 _ _ _ _ _ _ hG  hf) (And.intro rfl (And.intro rfl (And.intro rfl (And.intro rfl (And.intro rfl (And.intro rfl (rfl)))))))
def fX0_layOutWaits_69 (kh4 : Int32 → Int32 → Int32 → (Nat → Nat → Int32) → Option ((Nat → Nat → Int32))) (kh45 : Int32 → Int32 → Int32 → Int32 → Int32 → (Nat → Nat → Int32) → Option ((Nat → Nat → Int32))) : Nat → Int32 → Int32 → Int32 → Int32 → Int32 → Int32 → (Nat → Nat → Int32) → Option ((Nat → Nat → Int32))
  | 0, _, _, _, _, _, _, _ => none
  | n + 1, x1, x2, x3, x4, x5, x6, i => if 3 ≤ x6 then (fX0_layOutWaits_113 kh4 kh45 x1 x2 x3 x4 x5 i) else (bn1 (fX3_waitOf x4 x1 x6 1 i) fun v10 =>
    bn1 (fX0_cellOf x5 x6 x1) fun v12 =>
    if aIn v12 108 = true then
    (lt (u2 i 42 (v12 : Int32).toNatClampNeg (x2 + v10)) fun i14 => fX0_layOutWaits_69 kh4 kh45 n x1 x2 x3 x4 x5 (x6 + 1) i14) else none)
theorem kX0_layOutWaits_69  {iR : Nat → Nat → Int32} (hX : aX p s m args c RX0 cX0_layOutWaits 8 D cA A ad0) (hr : meth.sig.returnType = none) (hlk : meth.locks = false) (hRf : 4 ≤ R.frames) (hRl : 64 * 4 ≤ R.locals) {kh4 : Int32 → Int32 → Int32 → (Nat → Nat → Int32) → Option ((Nat → Nat → Int32))} {kh45 : Int32 → Int32 → Int32 → Int32 → Int32 → (Nat → Nat → Int32) → Option ((Nat → Nat → Int32))} (Hkh4 : ∀ (x1 : Int32) (x2 : Int32) (x3 : Int32) (i : Nat → Nat → Int32), aGood sh rv → kh4 x1 x2 x3 i = some (iR) → aJ p l e R s m args below meth c (MQ below (aPost D cA ad0 A (sh, i0, lo0, rv0) none (sh, iR, lo, rv)) args s (sh.length - sh.length) (aSn sh - aSn sh) A) D cA A ad0 8 sh.length (aSn sh) 4 [some (.ref (100 + 35)), some (.int x1), some (.int x2), some (.int x3), none, none, none, none] [] (sh, i, lo, rv)) (Hkh45 : ∀ (x1 : Int32) (x2 : Int32) (x3 : Int32) (x4 : Int32) (x5 : Int32) (i : Nat → Nat → Int32), aGood sh rv → kh45 x1 x2 x3 x4 x5 i = some (iR) → aJ p l e R s m args below meth c (MQ below (aPost D cA ad0 A (sh, i0, lo0, rv0) none (sh, iR, lo, rv)) args s (sh.length - sh.length) (aSn sh - aSn sh) A) D cA A ad0 8 sh.length (aSn sh) 45 [some (.ref (100 + 35)), some (.int x1), some (.int x2), some (.int x3), some (.int x4), some (.int x5), none, none] [] (sh, i, lo, rv)) : ∀ (n : Nat) (x1 : Int32) (x2 : Int32) (x3 : Int32) (x4 : Int32) (x5 : Int32) (x6 : Int32) (i : Nat → Nat → Int32), aGood sh rv → fX0_layOutWaits_69 kh4 kh45 n x1 x2 x3 x4 x5 x6 i = some (iR) → aJ p l e R s m args below meth c (MQ below (aPost D cA ad0 A (sh, i0, lo0, rv0) none (sh, iR, lo, rv)) args s (sh.length - sh.length) (aSn sh - aSn sh) A) D cA A ad0 8 sh.length (aSn sh) 69 [some (.ref (100 + 35)), some (.int x1), some (.int x2), some (.int x3), some (.int x4), some (.int x5), some (.int x6), none] [] (sh, i, lo, rv) := by
  intro n
  induction n with
  | zero => intros; rename_i hf; cases hf
  | succ n ih =>
    intro x1 x2 x3 x4 x5 x6 i hG hf
    rw [fX0_layOutWaits_69] at hf
    refine j_iload hX dX0_layOutWaits_69 rfl ?_
    refine j_iconst hX dX0_layOutWaits_71 ic_3 ?_
    refine j_icmp_ge (tgt := 113) hX dX0_layOutWaits_72 (by decide) (fun hc => ?_) (fun hc => ?_)
    · have hf := ifp hc hf
      exact aJx (kX0_layOutWaits_113 hX hr hlk hRf hRl Hkh4 Hkh45 hG  hf) (And.intro rfl (And.intro rfl (And.intro rfl (And.intro rfl (And.intro rfl (And.intro rfl (rfl)))))))
    · have hf := ifn hc hf
      refine j_aload_n hX dX0_layOutWaits_75 rfl ?_
      refine j_getR (k := 1) hX kX0 (by decide) fk_X0_45 (rf_35_1 hG) dX0_layOutWaits_76 (sh_35 hG) rfl ?_
      refine j_iload hX dX0_layOutWaits_79 rfl ?_
      refine j_iload_n hX dX0_layOutWaits_81 rfl ?_
      refine j_iload hX dX0_layOutWaits_82 rfl ?_
      refine jpc (b := 84) rfl ?_
      refine j_iconst hX dX0_layOutWaits_84 ic_1 ?_
      obtain ⟨v10, hh11, hf⟩ := bd1 hf
      refine j_cV4i hX lk_X0_116 kX3 dX0_layOutWaits_85 (sh_23 hG) (okX3_waitOf hG hh11) rfl rfl (rmm (by omega) hRf hRl (by decide)) (Nat.le_of_ble_eq_true rfl) (Nat.le_add_right _ _) (Nat.le_add_right _ _) ?_
      refine j_istore hX dX0_layOutWaits_88 (by decide) rfl ?_
      refine j_aload_n hX dX0_layOutWaits_90 rfl ?_
      refine j_getR (k := 9) hX kX0 (by decide) fk_X0_32 (rf_35_9 hG) dX0_layOutWaits_91 (sh_35 hG) rfl ?_
      refine j_iload hX dX0_layOutWaits_94 rfl ?_
      refine jpc (b := 96) rfl ?_
      refine j_iload hX dX0_layOutWaits_96 rfl ?_
      refine j_iload_n hX dX0_layOutWaits_98 rfl ?_
      obtain ⟨v12, hh13, hf⟩ := bd1 hf
      refine j_cS3i hX lk_X0_162 dX0_layOutWaits_99 (okX0_cellOf hG hh13) rfl rfl (rmm (by omega) hRf hRl (by decide)) (Nat.le_of_ble_eq_true rfl) (Nat.le_add_right _ _) (Nat.le_add_right _ _) ?_
      refine j_iload_n hX dX0_layOutWaits_102 rfl ?_
      refine j_iload hX dX0_layOutWaits_103 rfl ?_
      refine j_iadd hX dX0_layOutWaits_105 ?_
      refine jpc (b := 106) rfl ?_
      obtain ⟨hg, hf⟩ := gd hf
      have hf := ltd hf
      refine j_iast hX (sh_42 hG) hg dX0_layOutWaits_106 ?_
      refine j_iinc hX dX0_layOutWaits_107 rfl (congrArg (_ + ·) ic_1) (by decide) rfl ?_
      refine j_goto (tgt := 69) hX dX0_layOutWaits_110 (by decide) ?_
      exact aJx (ih _ _ _ _ _ _ _ hG  hf) (And.intro rfl (And.intro rfl (And.intro rfl (And.intro rfl (And.intro rfl (And.intro rfl (And.intro rfl (rfl))))))))
def fX0_layOutWaits_45 (kh4 : Int32 → Int32 → Int32 → (Nat → Nat → Int32) → Option ((Nat → Nat → Int32))) : Nat → Int32 → Int32 → Int32 → Int32 → Int32 → (Nat → Nat → Int32) → Option ((Nat → Nat → Int32))
  | 0, _, _, _, _, _, _ => none
  | n + 1, x1, x2, x3, x4, x5, i => if (i 35 12) ≤ x5 then (kh4 x1 x2 (x3 + 1) i) else (if aIn x5 9 = true then
    (if (i 41 (x5 : Int32).toNatClampNeg) = x4 then (fX0_layOutWaits_69 kh4 (fX0_layOutWaits_45 kh4 n) fuel x1 x2 x3 x4 x5 0 i) else (fX0_layOutWaits_113 kh4 (fX0_layOutWaits_45 kh4 n) x1 x2 x3 x4 x5 i)) else none)
theorem kX0_layOutWaits_45  {iR : Nat → Nat → Int32} (hX : aX p s m args c RX0 cX0_layOutWaits 8 D cA A ad0) (hr : meth.sig.returnType = none) (hlk : meth.locks = false) (hRf : 4 ≤ R.frames) (hRl : 64 * 4 ≤ R.locals) {kh4 : Int32 → Int32 → Int32 → (Nat → Nat → Int32) → Option ((Nat → Nat → Int32))} (Hkh4 : ∀ (x1 : Int32) (x2 : Int32) (x3 : Int32) (i : Nat → Nat → Int32), aGood sh rv → kh4 x1 x2 x3 i = some (iR) → aJ p l e R s m args below meth c (MQ below (aPost D cA ad0 A (sh, i0, lo0, rv0) none (sh, iR, lo, rv)) args s (sh.length - sh.length) (aSn sh - aSn sh) A) D cA A ad0 8 sh.length (aSn sh) 4 [some (.ref (100 + 35)), some (.int x1), some (.int x2), some (.int x3), none, none, none, none] [] (sh, i, lo, rv)) : ∀ (n : Nat) (x1 : Int32) (x2 : Int32) (x3 : Int32) (x4 : Int32) (x5 : Int32) (i : Nat → Nat → Int32), aGood sh rv → fX0_layOutWaits_45 kh4 n x1 x2 x3 x4 x5 i = some (iR) → aJ p l e R s m args below meth c (MQ below (aPost D cA ad0 A (sh, i0, lo0, rv0) none (sh, iR, lo, rv)) args s (sh.length - sh.length) (aSn sh - aSn sh) A) D cA A ad0 8 sh.length (aSn sh) 45 [some (.ref (100 + 35)), some (.int x1), some (.int x2), some (.int x3), some (.int x4), some (.int x5), none, none] [] (sh, i, lo, rv) := by
  intro n
  induction n with
  | zero => intros; rename_i hf; cases hf
  | succ n ih =>
    intro x1 x2 x3 x4 x5 i hG hf
    rw [fX0_layOutWaits_45] at hf
    refine j_iload hX dX0_layOutWaits_45 rfl ?_
    refine j_aload_n hX dX0_layOutWaits_47 rfl ?_
    refine j_getI (k := 12) hX kX0 (by decide) fk_X0_141 dX0_layOutWaits_48 (sh_35 hG) rfl ?_
    refine j_icmp_ge (tgt := 119) hX dX0_layOutWaits_51 (by decide) (fun hc => ?_) (fun hc => ?_)
    · have hf := ifp hc hf
      refine j_iinc hX dX0_layOutWaits_119 rfl (congrArg (_ + ·) ic_1) (by decide) rfl ?_
      refine j_goto (tgt := 4) hX dX0_layOutWaits_122 (by decide) ?_
      exact aJx (Hkh4 _ _ _ _ hG  hf) (And.intro rfl (And.intro rfl (And.intro rfl (And.intro rfl (rfl)))))
    · have hf := ifn hc hf
      refine j_aload_n hX dX0_layOutWaits_54 rfl ?_
      refine j_getR (k := 8) hX kX0 (by decide) fk_X0_29 (rf_35_8 hG) dX0_layOutWaits_55 (sh_35 hG) rfl ?_
      refine j_iload hX dX0_layOutWaits_58 rfl ?_
      obtain ⟨hg, hf⟩ := gd hf
      refine j_iald hX (sh_41 hG) hg dX0_layOutWaits_60 ?_
      refine j_iload hX dX0_layOutWaits_61 rfl ?_
      refine j_icmp_ne (tgt := 113) hX dX0_layOutWaits_63 (by decide) (fun hc => ?_) (fun hc => ?_)
      · have hf := ifn hc hf
        exact aJx (kX0_layOutWaits_113 hX hr hlk hRf hRl Hkh4 ih hG  hf) (And.intro rfl (And.intro rfl (And.intro rfl (And.intro rfl (And.intro rfl (And.intro rfl (rfl)))))))
      · have hf := ifp hc hf
        refine j_iconst hX dX0_layOutWaits_66 ic_0 ?_
        refine j_istore hX dX0_layOutWaits_67 (by decide) rfl ?_
        exact aJx (kX0_layOutWaits_69 hX hr hlk hRf hRl Hkh4 ih fuel _ _ _ _ _ _ _ hG  hf) (And.intro rfl (And.intro rfl (And.intro rfl (And.intro rfl (And.intro rfl (And.intro rfl (And.intro rfl (rfl))))))))
def fX0_layOutWaits_4 : Nat → Int32 → Int32 → Int32 → (Nat → Nat → Int32) → Option ((Nat → Nat → Int32))
  | 0, _, _, _, _ => none
  | n + 1, x1, x2, x3, i => bn1 (fX1_papers 15 i) fun v1 =>
    if v1 ≤ x3 then (if aIn x1 40 = true then
    (lt (u2 i 43 (x1 : Int32).toNatClampNeg x2) fun i3 => bn1 (fX0_layOutRest x1 x2 i3) fun i4 =>
    some (i4)) else none) else (bn1 (fX8_inDrawer 19 x3 i) fun v6 =>
    bn1 (fX3_turnOf 19 v6 x1 i) fun v8 =>
    fX0_layOutWaits_45 (fX0_layOutWaits_4 n) fuel x1 (x2 + v8) x3 v6 0 i)
theorem kX0_layOutWaits_4  {iR : Nat → Nat → Int32} (hX : aX p s m args c RX0 cX0_layOutWaits 8 D cA A ad0) (hr : meth.sig.returnType = none) (hlk : meth.locks = false) (hRf : 4 ≤ R.frames) (hRl : 64 * 4 ≤ R.locals) : ∀ (n : Nat) (x1 : Int32) (x2 : Int32) (x3 : Int32) (i : Nat → Nat → Int32), aGood sh rv → fX0_layOutWaits_4 n x1 x2 x3 i = some (iR) → aJ p l e R s m args below meth c (MQ below (aPost D cA ad0 A (sh, i0, lo0, rv0) none (sh, iR, lo, rv)) args s (sh.length - sh.length) (aSn sh - aSn sh) A) D cA A ad0 8 sh.length (aSn sh) 4 [some (.ref (100 + 35)), some (.int x1), some (.int x2), some (.int x3), none, none, none, none] [] (sh, i, lo, rv) := by
  intro n
  induction n with
  | zero => intros; rename_i hf; cases hf
  | succ n ih =>
    intro x1 x2 x3 i hG hf
    rw [fX0_layOutWaits_4] at hf
    refine j_iload_n hX dX0_layOutWaits_4 rfl ?_
    refine j_aload_n hX dX0_layOutWaits_5 rfl ?_
    refine j_getR (k := 0) hX kX0 (by decide) fk_X0_41 (rf_35_0 hG) dX0_layOutWaits_6 (sh_35 hG) rfl ?_
    obtain ⟨v1, hh2, hf⟩ := bd1 hf
    refine j_cV0i hX lk_X0_82 kX1 dX0_layOutWaits_9 (sh_15 hG) (okX1_papers hG (cr_15 hG) hh2) rfl rfl (rmm (by omega) hRf hRl (by decide)) (Nat.le_of_ble_eq_true rfl) (Nat.le_add_right _ _) (Nat.le_add_right _ _) ?_
    refine j_icmp_ge (tgt := 125) hX dX0_layOutWaits_12 (by decide) (fun hc => ?_) (fun hc => ?_)
    · have hf := ifp hc hf
      refine j_aload_n hX dX0_layOutWaits_125 rfl ?_
      refine j_getR (k := 10) hX kX0 (by decide) fk_X0_35 (rf_35_10 hG) dX0_layOutWaits_126 (sh_35 hG) rfl ?_
      refine j_iload_n hX dX0_layOutWaits_129 rfl ?_
      refine j_iload_n hX dX0_layOutWaits_130 rfl ?_
      obtain ⟨hg, hf⟩ := gd hf
      have hf := ltd hf
      refine j_iast hX (sh_43 hG) hg dX0_layOutWaits_131 ?_
      refine j_aload_n hX dX0_layOutWaits_132 rfl ?_
      refine j_iload_n hX dX0_layOutWaits_133 rfl ?_
      refine j_iload_n hX dX0_layOutWaits_134 rfl ?_
      obtain ⟨i4, hh5, hf⟩ := bd1 hf
      refine j_cV2v hX lk_X0_166 kX0 dX0_layOutWaits_135 (sh_35 hG) (okX0_layOutRest hG hh5) rfl rfl (rmm (by omega) hRf hRl (by decide)) (Nat.le_of_ble_eq_true rfl) (Nat.le_add_right _ _) (Nat.le_add_right _ _) ?_
      cases hf
      exact j_vret hX hr hlk dX0_layOutWaits_138
    · have hf := ifn hc hf
      refine j_aload_n hX dX0_layOutWaits_15 rfl ?_
      refine j_getR (k := 2) hX kX0 (by decide) fk_X0_49 (rf_35_2 hG) dX0_layOutWaits_16 (sh_35 hG) rfl ?_
      refine j_iload_n hX dX0_layOutWaits_19 rfl ?_
      obtain ⟨v6, hh7, hf⟩ := bd1 hf
      refine j_cV1i hX lk_X0_85 kX8 dX0_layOutWaits_20 (sh_19 hG) (okX8_inDrawer hG (sc_19 hG) hh7) rfl rfl (rmm (by omega) hRf hRl (by decide)) (Nat.le_of_ble_eq_true rfl) (Nat.le_add_right _ _) (Nat.le_add_right _ _) ?_
      refine j_istore hX dX0_layOutWaits_23 (by decide) rfl ?_
      refine jpc (b := 25) rfl ?_
      refine j_iload_n hX dX0_layOutWaits_25 rfl ?_
      refine j_aload_n hX dX0_layOutWaits_26 rfl ?_
      refine j_getR (k := 1) hX kX0 (by decide) fk_X0_45 (rf_35_1 hG) dX0_layOutWaits_27 (sh_35 hG) rfl ?_
      refine j_aload_n hX dX0_layOutWaits_30 rfl ?_
      refine j_getR (k := 2) hX kX0 (by decide) fk_X0_49 (rf_35_2 hG) dX0_layOutWaits_31 (sh_35 hG) rfl ?_
      refine j_iload hX dX0_layOutWaits_34 rfl ?_
      refine jpc (b := 36) rfl ?_
      refine j_iload_n hX dX0_layOutWaits_36 rfl ?_
      obtain ⟨v8, hh9, hf⟩ := bd1 hf
      refine j_cV3i hX lk_X0_158 kX3 dX0_layOutWaits_37 (sh_23 hG) (okX3_turnOf hG (sc_19 hG) hh9) rfl rfl (rmm (by omega) hRf hRl (by decide)) (Nat.le_of_ble_eq_true rfl) (Nat.le_add_right _ _) (Nat.le_add_right _ _) ?_
      refine j_iadd hX dX0_layOutWaits_40 ?_
      refine j_istore_n hX dX0_layOutWaits_41 (by decide) rfl ?_
      refine j_iconst hX dX0_layOutWaits_42 ic_0 ?_
      refine j_istore hX dX0_layOutWaits_43 (by decide) rfl ?_
      exact aJx (kX0_layOutWaits_45 hX hr hlk hRf hRl ih fuel _ _ _ _ _ _ hG  hf) (And.intro rfl (And.intro rfl (And.intro rfl (And.intro rfl (And.intro rfl (And.intro rfl (rfl)))))))
def fX0_layOutWaits (a1 : Int32) (i : Nat → Nat → Int32) : Option ((Nat → Nat → Int32)) := fX0_layOutWaits_4 fuel a1 0 0 i
theorem kX0_layOutWaits  {iR : Nat → Nat → Int32} (hX : aX p s m args c RX0 cX0_layOutWaits 8 D cA A ad0) (hr : meth.sig.returnType = none) (hlk : meth.locks = false) (hRf : 4 ≤ R.frames) (hRl : 64 * 4 ≤ R.locals) {a1 : Int32} (hG : aGood sh rv) (hf : fX0_layOutWaits a1 i = some (iR)) : aJ p l e R s m args below meth c (MQ below (aPost D cA ad0 A (sh, i0, lo0, rv0) none (sh, iR, lo, rv)) args s (sh.length - sh.length) (aSn sh - aSn sh) A) D cA A ad0 8 sh.length (aSn sh) 0 [some (.ref (100 + 35)), some (.int a1), none, none, none, none, none, none] [] (sh, i, lo, rv) := by
  unfold fX0_layOutWaits at hf
  refine j_iconst hX dX0_layOutWaits_0 ic_0 ?_
  refine j_istore_n hX dX0_layOutWaits_1 (by decide) rfl ?_
  refine j_iconst hX dX0_layOutWaits_2 ic_0 ?_
  refine j_istore_n hX dX0_layOutWaits_3 (by decide) rfl ?_
  exact aJx (kX0_layOutWaits_4 hX hr hlk hRf hRl fuel _ _ _ _ hG  hf) (And.intro rfl (And.intro rfl (And.intro rfl (And.intro rfl (rfl)))))
theorem okX0_layOutWaits {l : Launch} {sh : List aSh} {i : Nat → Nat → Int32} {lo : Nat → Nat → Int64} {rv : Nat → Nat → Option Nat}  {a1 : Int32} {iR : Nat → Nat → Int32} (hG : aGood sh rv) (hf : fX0_layOutWaits a1 i = some (iR)) : aM l yX0_layOutWaits cX0_layOutWaits 8 none 4 [.ref (100 + 35), .int a1] (sh, i, lo, rv) none (sh, iR, lo, rv) :=
  aM_of (by decide) (Nat.le_of_ble_eq_true rfl) (Nat.le_refl _) (Nat.le_refl _) (fun p e s m args below meth c D cA A ad0 hX hr hlk hnm => kX0_layOutWaits hX hr hlk (Nat.le_refl _) (Nat.le_refl _) hG hf)
def fX0_worthAtLeast_9 : Nat → Int32 → Int32 → Int32 → (Nat → Nat → Int32) → Option ((Int32))
  | 0, _, _, _, _ => none
  | n + 1, x2, x3, x4, i => bn1 (fX1_officers 15 i) fun v1 =>
    if v1 ≤ x4 then (some (x3)) else (if aIn (x2 + x4) 40 = true then
    (if aIn (x2 + x4) 40 = true then
    (lt (if (i 43 ((x2 + x4) : Int32).toNatClampNeg) < (i 44 ((x2 + x4) : Int32).toNatClampNeg) then (i 44 ((x2 + x4) : Int32).toNatClampNeg) else (i 43 ((x2 + x4) : Int32).toNatClampNeg)) fun t3 =>
    bn1 (fX1_ofOfficer 15 x4 0 i) fun v4 =>
    fX0_worthAtLeast_9 n x2 (x3 + (v4 * t3)) (x4 + 1) i) else none) else none)
theorem kX0_worthAtLeast_9  {vR : Int32} (hX : aX p s m args c RX0 cX0_worthAtLeast 6 D cA A ad0) (hr : meth.sig.returnType = (some .int)) (hlk : meth.locks = false) (hRf : 1 ≤ R.frames) (hRl : 64 * 1 ≤ R.locals) : ∀ (n : Nat) (x2 : Int32) (x3 : Int32) (x4 : Int32), aGood sh rv → fX0_worthAtLeast_9 n x2 x3 x4 i = some (vR) → aJ p l e R s m args below meth c (MQ below (aPost D cA ad0 A (sh, i0, lo0, rv0) (some (.int vR)) (sh, i, lo, rv)) args s (sh.length - sh.length) (aSn sh - aSn sh) A) D cA A ad0 6 sh.length (aSn sh) 9 [some (.ref (100 + 35)), none, some (.int x2), some (.int x3), some (.int x4), none] [] (sh, i, lo, rv) := by
  intro n
  induction n with
  | zero => intros; rename_i hf; cases hf
  | succ n ih =>
    intro x2 x3 x4 hG hf
    rw [fX0_worthAtLeast_9] at hf
    refine j_iload hX dX0_worthAtLeast_9 rfl ?_
    refine j_aload_n hX dX0_worthAtLeast_11 rfl ?_
    refine j_getR (k := 0) hX kX0 (by decide) fk_X0_41 (rf_35_0 hG) dX0_worthAtLeast_12 (sh_35 hG) rfl ?_
    obtain ⟨v1, hh2, hf⟩ := bd1 hf
    refine j_cV0i hX lk_X0_68 kX1 dX0_worthAtLeast_15 (sh_15 hG) (okX1_officers hG (cr_15 hG) hh2) rfl rfl (rmm (by omega) hRf hRl (by decide)) (Nat.le_of_ble_eq_true rfl) (Nat.le_add_right _ _) (Nat.le_add_right _ _) ?_
    refine j_icmp_ge (tgt := 66) hX dX0_worthAtLeast_18 (by decide) (fun hc => ?_) (fun hc => ?_)
    · have hf := ifp hc hf
      refine j_iload_n hX dX0_worthAtLeast_66 rfl ?_
      cases hf
      exact j_ret hX hr hlk rfl dX0_worthAtLeast_67
    · have hf := ifn hc hf
      refine j_aload_n hX dX0_worthAtLeast_21 rfl ?_
      refine j_getR (k := 10) hX kX0 (by decide) fk_X0_35 (rf_35_10 hG) dX0_worthAtLeast_22 (sh_35 hG) rfl ?_
      refine j_iload_n hX dX0_worthAtLeast_25 rfl ?_
      refine j_iload hX dX0_worthAtLeast_26 rfl ?_
      refine j_iadd hX dX0_worthAtLeast_28 ?_
      refine jpc (b := 29) rfl ?_
      obtain ⟨hg, hf⟩ := gd hf
      refine j_iald hX (sh_43 hG) hg dX0_worthAtLeast_29 ?_
      refine j_aload_n hX dX0_worthAtLeast_30 rfl ?_
      refine j_getR (k := 11) hX kX0 (by decide) fk_X0_38 (rf_35_11 hG) dX0_worthAtLeast_31 (sh_35 hG) rfl ?_
      refine j_iload_n hX dX0_worthAtLeast_34 rfl ?_
      refine j_iload hX dX0_worthAtLeast_35 rfl ?_
      refine j_iadd hX dX0_worthAtLeast_37 ?_
      refine jpc (b := 38) rfl ?_
      obtain ⟨hg, hf⟩ := gd hf
      refine j_iald hX (sh_44 hG) hg dX0_worthAtLeast_38 ?_
      refine j_max hX lk_X0_174 dX0_worthAtLeast_39 ⟨by omega, Nat.le_trans (Nat.le_of_ble_eq_true rfl) hRl⟩ (Nat.le_add_right _ _) (Nat.le_add_right _ _) ?_
      have hf := ltd hf
      refine j_istore hX dX0_worthAtLeast_42 (by decide) rfl ?_
      refine j_iload_n hX dX0_worthAtLeast_44 rfl ?_
      refine j_aload_n hX dX0_worthAtLeast_45 rfl ?_
      refine j_getR (k := 0) hX kX0 (by decide) fk_X0_41 (rf_35_0 hG) dX0_worthAtLeast_46 (sh_35 hG) rfl ?_
      refine jpc (b := 49) rfl ?_
      refine j_iload hX dX0_worthAtLeast_49 rfl ?_
      refine j_iconst hX dX0_worthAtLeast_51 ic_0 ?_
      obtain ⟨v4, hh5, hf⟩ := bd1 hf
      refine j_cV2i hX lk_X0_71 kX1 dX0_worthAtLeast_52 (sh_15 hG) (okX1_ofOfficer hG (cr_15 hG) hh5) rfl rfl (rmm (by omega) hRf hRl (by decide)) (Nat.le_of_ble_eq_true rfl) (Nat.le_add_right _ _) (Nat.le_add_right _ _) ?_
      refine j_iload hX dX0_worthAtLeast_55 rfl ?_
      refine j_imul hX dX0_worthAtLeast_57 ?_
      refine j_iadd hX dX0_worthAtLeast_58 ?_
      refine jpc (b := 59) rfl ?_
      refine j_istore_n hX dX0_worthAtLeast_59 (by decide) rfl ?_
      refine j_iinc hX dX0_worthAtLeast_60 rfl (congrArg (_ + ·) ic_1) (by decide) rfl ?_
      refine j_goto (tgt := 9) hX dX0_worthAtLeast_63 (by decide) ?_
      exact aJx (ih _ _ _ hG  hf) (And.intro rfl (And.intro rfl (And.intro rfl (And.intro rfl (rfl)))))
def fX0_worthAtLeast (a1 : Int32) (i : Nat → Nat → Int32) : Option ((Int32)) := fX0_worthAtLeast_9 fuel (a1 * (4 : Int32)) 0 0 i
theorem kX0_worthAtLeast  {vR : Int32} (hX : aX p s m args c RX0 cX0_worthAtLeast 6 D cA A ad0) (hr : meth.sig.returnType = (some .int)) (hlk : meth.locks = false) (hRf : 1 ≤ R.frames) (hRl : 64 * 1 ≤ R.locals) {a1 : Int32} (hG : aGood sh rv) (hf : fX0_worthAtLeast a1 i = some (vR)) : aJ p l e R s m args below meth c (MQ below (aPost D cA ad0 A (sh, i0, lo0, rv0) (some (.int vR)) (sh, i, lo, rv)) args s (sh.length - sh.length) (aSn sh - aSn sh) A) D cA A ad0 6 sh.length (aSn sh) 0 [some (.ref (100 + 35)), some (.int a1), none, none, none, none] [] (sh, i, lo, rv) := by
  unfold fX0_worthAtLeast at hf
  refine j_iload_n hX dX0_worthAtLeast_0 rfl ?_
  refine j_iconst hX dX0_worthAtLeast_1 ic_4 ?_
  refine j_imul hX dX0_worthAtLeast_2 ?_
  refine j_istore_n hX dX0_worthAtLeast_3 (by decide) rfl ?_
  refine j_iconst hX dX0_worthAtLeast_4 ic_0 ?_
  refine jpc (b := 5) rfl ?_
  refine j_istore_n hX dX0_worthAtLeast_5 (by decide) rfl ?_
  refine j_iconst hX dX0_worthAtLeast_6 ic_0 ?_
  refine j_istore hX dX0_worthAtLeast_7 (by decide) rfl ?_
  exact aJx (kX0_worthAtLeast_9 hX hr hlk hRf hRl fuel _ _ _ hG  hf) (And.intro rfl (And.intro rfl (And.intro rfl (And.intro rfl (rfl)))))
theorem okX0_worthAtLeast {l : Launch} {sh : List aSh} {i : Nat → Nat → Int32} {lo : Nat → Nat → Int64} {rv : Nat → Nat → Option Nat}  {a1 : Int32} {vR : Int32} (hG : aGood sh rv) (hf : fX0_worthAtLeast a1 i = some (vR)) : aM l yX0_worthAtLeast cX0_worthAtLeast 6 (some .int) 1 [.ref (100 + 35), .int a1] (sh, i, lo, rv) (some (.int vR)) (sh, i, lo, rv) :=
  aM_of (by decide) (Nat.le_of_ble_eq_true rfl) (Nat.le_refl _) (Nat.le_refl _) (fun p e s m args below meth c D cA A ad0 hX hr hlk hnm => kX0_worthAtLeast hX hr hlk (Nat.le_refl _) (Nat.le_refl _) hG hf)
def fX0_coffeesBehind (a0 : Int32) (a1 : Int32) : Option ((Int32)) := if a0 = 2 then (some ((a1 - (1 : Int32)))) else (some (a1))
theorem kX0_coffeesBehind  {vR : Int32} (hX : aX p s m args c RX0 cX0_coffeesBehind 2 D cA A ad0) (hr : meth.sig.returnType = (some .int)) (hlk : meth.locks = false) (hRf : 0 ≤ R.frames) (hRl : 64 * 0 ≤ R.locals) {a0 : Int32} {a1 : Int32} (hG : aGood sh rv) (hf : fX0_coffeesBehind a0 a1 = some (vR)) : aJ p l e R s m args below meth c (MQ below (aPost D cA ad0 A (sh, i0, lo0, rv0) (some (.int vR)) (sh, i, lo, rv)) args s (sh.length - sh.length) (aSn sh - aSn sh) A) D cA A ad0 2 sh.length (aSn sh) 0 [some (.int a0), some (.int a1)] [] (sh, i, lo, rv) := by
  unfold fX0_coffeesBehind at hf
  refine j_iload_n hX dX0_coffeesBehind_0 rfl ?_
  refine j_iconst hX dX0_coffeesBehind_1 ic_2 ?_
  refine j_icmp_ne (tgt := 11) hX dX0_coffeesBehind_2 (by decide) (fun hc => ?_) (fun hc => ?_)
  · have hf := ifn hc hf
    refine j_iload_n hX dX0_coffeesBehind_11 rfl ?_
    cases hf
    exact j_ret hX hr hlk rfl dX0_coffeesBehind_12
  · have hf := ifp hc hf
    refine j_iload_n hX dX0_coffeesBehind_5 rfl ?_
    refine j_iconst hX dX0_coffeesBehind_6 ic_1 ?_
    refine j_isub hX dX0_coffeesBehind_7 ?_
    refine j_goto (tgt := 12) hX dX0_coffeesBehind_8 (by decide) ?_
    cases hf
    exact j_ret hX hr hlk rfl dX0_coffeesBehind_12
theorem okX0_coffeesBehind {l : Launch} {sh : List aSh} {i : Nat → Nat → Int32} {lo : Nat → Nat → Int64} {rv : Nat → Nat → Option Nat}  {a0 : Int32} {a1 : Int32} {vR : Int32} (hG : aGood sh rv) (hf : fX0_coffeesBehind a0 a1 = some (vR)) : aM l yX0_coffeesBehind cX0_coffeesBehind 2 (some .int) 0 [.int a0, .int a1] (sh, i, lo, rv) (some (.int vR)) (sh, i, lo, rv) :=
  aM_of (by decide) (Nat.le_of_ble_eq_true rfl) (Nat.le_refl _) (Nat.le_refl _) (fun p e s m args below meth c D cA A ad0 hX hr hlk hnm => kX0_coffeesBehind hX hr hlk (Nat.le_refl _) (Nat.le_refl _) hG hf)
def fX0_sayOne_16 : Nat → Int32 → Int32 → Int32 → (Nat → Nat → Int32) → Option ((Nat → Nat → Int32))
  | 0, _, _, _, _ => none
  | n + 1, x3, x4, x5, i => bn1 (fX1_officers 15 i) fun v2 =>
    if v2 ≤ x5 then (some (i)) else (if aIn (x3 + x5) 40 = true then
    (if aIn (x4 + x5) 108 = true then
    (lt (if (i 43 ((x3 + x5) : Int32).toNatClampNeg) < (i 42 ((x4 + x5) : Int32).toNatClampNeg) then (i 42 ((x4 + x5) : Int32).toNatClampNeg) else (i 43 ((x3 + x5) : Int32).toNatClampNeg)) fun t4 =>
    if aIn ((x3 + (4 : Int32)) + x5) 40 = true then
    (lt (u2 i 43 (((x3 + (4 : Int32)) + x5) : Int32).toNatClampNeg t4) fun i5 => fX0_sayOne_16 n x3 x4 (x5 + 1) i5) else none) else none) else none)
theorem kX0_sayOne_16  {iR : Nat → Nat → Int32} (hX : aX p s m args c RX0 cX0_sayOne 7 D cA A ad0) (hr : meth.sig.returnType = none) (hlk : meth.locks = false) (hRf : 1 ≤ R.frames) (hRl : 64 * 1 ≤ R.locals) : ∀ (n : Nat) (x3 : Int32) (x4 : Int32) (x5 : Int32) (i : Nat → Nat → Int32), aGood sh rv → fX0_sayOne_16 n x3 x4 x5 i = some (iR) → aJ p l e R s m args below meth c (MQ below (aPost D cA ad0 A (sh, i0, lo0, rv0) none (sh, iR, lo, rv)) args s (sh.length - sh.length) (aSn sh - aSn sh) A) D cA A ad0 7 sh.length (aSn sh) 16 [some (.ref (100 + 35)), none, none, some (.int x3), some (.int x4), some (.int x5), none] [] (sh, i, lo, rv) := by
  intro n
  induction n with
  | zero => intros; rename_i hf; cases hf
  | succ n ih =>
    intro x3 x4 x5 i hG hf
    rw [fX0_sayOne_16] at hf
    refine j_iload hX dX0_sayOne_16 rfl ?_
    refine j_aload_n hX dX0_sayOne_18 rfl ?_
    refine j_getR (k := 0) hX kX0 (by decide) fk_X0_41 (rf_35_0 hG) dX0_sayOne_19 (sh_35 hG) rfl ?_
    obtain ⟨v2, hh3, hf⟩ := bd1 hf
    refine j_cV0i hX lk_X0_68 kX1 dX0_sayOne_22 (sh_15 hG) (okX1_officers hG (cr_15 hG) hh3) rfl rfl (rmm (by omega) hRf hRl (by decide)) (Nat.le_of_ble_eq_true rfl) (Nat.le_add_right _ _) (Nat.le_add_right _ _) ?_
    refine j_icmp_ge (tgt := 71) hX dX0_sayOne_25 (by decide) (fun hc => ?_) (fun hc => ?_)
    · have hf := ifp hc hf
      cases hf
      exact j_vret hX hr hlk dX0_sayOne_71
    · have hf := ifn hc hf
      refine j_aload_n hX dX0_sayOne_28 rfl ?_
      refine j_getR (k := 10) hX kX0 (by decide) fk_X0_35 (rf_35_10 hG) dX0_sayOne_29 (sh_35 hG) rfl ?_
      refine j_iload_n hX dX0_sayOne_32 rfl ?_
      refine j_iload hX dX0_sayOne_33 rfl ?_
      refine j_iadd hX dX0_sayOne_35 ?_
      refine jpc (b := 36) rfl ?_
      obtain ⟨hg, hf⟩ := gd hf
      refine j_iald hX (sh_43 hG) hg dX0_sayOne_36 ?_
      refine j_aload_n hX dX0_sayOne_37 rfl ?_
      refine j_getR (k := 9) hX kX0 (by decide) fk_X0_32 (rf_35_9 hG) dX0_sayOne_38 (sh_35 hG) rfl ?_
      refine j_iload hX dX0_sayOne_41 rfl ?_
      refine j_iload hX dX0_sayOne_43 rfl ?_
      refine j_iadd hX dX0_sayOne_45 ?_
      refine jpc (b := 46) rfl ?_
      obtain ⟨hg, hf⟩ := gd hf
      refine j_iald hX (sh_42 hG) hg dX0_sayOne_46 ?_
      refine j_max hX lk_X0_174 dX0_sayOne_47 ⟨by omega, Nat.le_trans (Nat.le_of_ble_eq_true rfl) hRl⟩ (Nat.le_add_right _ _) (Nat.le_add_right _ _) ?_
      have hf := ltd hf
      refine j_istore hX dX0_sayOne_50 (by decide) rfl ?_
      refine j_aload_n hX dX0_sayOne_52 rfl ?_
      refine j_getR (k := 10) hX kX0 (by decide) fk_X0_35 (rf_35_10 hG) dX0_sayOne_53 (sh_35 hG) rfl ?_
      refine j_iload_n hX dX0_sayOne_56 rfl ?_
      refine jpc (b := 57) rfl ?_
      refine j_iconst hX dX0_sayOne_57 ic_4 ?_
      refine j_iadd hX dX0_sayOne_58 ?_
      refine j_iload hX dX0_sayOne_59 rfl ?_
      refine j_iadd hX dX0_sayOne_61 ?_
      refine j_iload hX dX0_sayOne_62 rfl ?_
      obtain ⟨hg, hf⟩ := gd hf
      have hf := ltd hf
      refine j_iast hX (sh_43 hG) hg dX0_sayOne_64 ?_
      refine j_iinc hX dX0_sayOne_65 rfl (congrArg (_ + ·) ic_1) (by decide) rfl ?_
      refine j_goto (tgt := 16) hX dX0_sayOne_68 (by decide) ?_
      exact aJx (ih _ _ _ _ hG  hf) (And.intro rfl (And.intro rfl (And.intro rfl (And.intro rfl (rfl)))))
def fX0_sayOne (a1 : Int32) (a2 : Int32) (i : Nat → Nat → Int32) : Option ((Nat → Nat → Int32)) := lt (((a1 * (3 : Int32)) + a2) * (4 : Int32)) fun t1 =>
    fX0_sayOne_16 fuel (a1 * (4 : Int32)) t1 0 i
theorem kX0_sayOne  {iR : Nat → Nat → Int32} (hX : aX p s m args c RX0 cX0_sayOne 7 D cA A ad0) (hr : meth.sig.returnType = none) (hlk : meth.locks = false) (hRf : 1 ≤ R.frames) (hRl : 64 * 1 ≤ R.locals) {a1 : Int32} {a2 : Int32} (hG : aGood sh rv) (hf : fX0_sayOne a1 a2 i = some (iR)) : aJ p l e R s m args below meth c (MQ below (aPost D cA ad0 A (sh, i0, lo0, rv0) none (sh, iR, lo, rv)) args s (sh.length - sh.length) (aSn sh - aSn sh) A) D cA A ad0 7 sh.length (aSn sh) 0 [some (.ref (100 + 35)), some (.int a1), some (.int a2), none, none, none, none] [] (sh, i, lo, rv) := by
  unfold fX0_sayOne at hf
  refine j_iload_n hX dX0_sayOne_0 rfl ?_
  refine j_iconst hX dX0_sayOne_1 ic_4 ?_
  refine j_imul hX dX0_sayOne_2 ?_
  refine j_istore_n hX dX0_sayOne_3 (by decide) rfl ?_
  refine j_iload_n hX dX0_sayOne_4 rfl ?_
  refine jpc (b := 5) rfl ?_
  refine j_iconst hX dX0_sayOne_5 ic_3 ?_
  refine j_imul hX dX0_sayOne_6 ?_
  refine j_iload_n hX dX0_sayOne_7 rfl ?_
  refine j_iadd hX dX0_sayOne_8 ?_
  refine j_iconst hX dX0_sayOne_9 ic_4 ?_
  refine j_imul hX dX0_sayOne_10 ?_
  refine jpc (b := 11) rfl ?_
  have hf := ltd hf
  refine j_istore hX dX0_sayOne_11 (by decide) rfl ?_
  refine j_iconst hX dX0_sayOne_13 ic_0 ?_
  refine j_istore hX dX0_sayOne_14 (by decide) rfl ?_
  exact aJx (kX0_sayOne_16 hX hr hlk hRf hRl fuel _ _ _ _ hG  hf) (And.intro rfl (And.intro rfl (And.intro rfl (And.intro rfl (rfl)))))
theorem okX0_sayOne {l : Launch} {sh : List aSh} {i : Nat → Nat → Int32} {lo : Nat → Nat → Int64} {rv : Nat → Nat → Option Nat}  {a1 : Int32} {a2 : Int32} {iR : Nat → Nat → Int32} (hG : aGood sh rv) (hf : fX0_sayOne a1 a2 i = some (iR)) : aM l yX0_sayOne cX0_sayOne 7 none 1 [.ref (100 + 35), .int a1, .int a2] (sh, i, lo, rv) none (sh, iR, lo, rv) :=
  aM_of (by decide) (Nat.le_of_ble_eq_true rfl) (Nat.le_refl _) (Nat.le_refl _) (fun p e s m args below meth c D cA A ad0 hX hr hlk hnm => kX0_sayOne hX hr hlk (Nat.le_refl _) (Nat.le_refl _) hG hf)
def fX0_chooseLeast_103 (gs : Int32 → Int32 → (Nat → Nat → Int32) → Option ((Nat → Nat → Int32))) (kh30 : Int32 → Int32 → Int32 → Int32 → (Nat → Nat → Int32) → Option ((Nat → Nat → Int32))) (kh48 : Int32 → Int32 → Int32 → Int32 → Int32 → Int32 → Int32 → (Nat → Nat → Int32) → Option ((Nat → Nat → Int32))) (x1 : Int32) (x2 : Int32) (x3 : Int32) (x4 : Int32) (x5 : Int32) (x6 : Int32) (x7 : Int32) (i : Nat → Nat → Int32) : Option ((Nat → Nat → Int32)) := kh48 x1 x2 x3 x4 x5 x6 (x7 + 1) i
theorem kX0_chooseLeast_103  {gs : Int32 → Int32 → (Nat → Nat → Int32) → Option ((Nat → Nat → Int32))} {D0 : Nat} {iR : Nat → Nat → Int32} (hX : aX p s m args c RX0 cX0_chooseLeast 9 D cA A ad0) (hr : meth.sig.returnType = none) (hlk : meth.locks = false) (hRf : (D0 + 2) ≤ R.frames) (hRl : 64 * (D0 + 2) ≤ R.locals) (Hgs : ∀ {a1 : Int32} {a2 : Int32} {i : Nat → Nat → Int32} {lo : Nat → Nat → Int64} {rv : Nat → Nat → Option Nat} {iR : Nat → Nat → Int32}, aGood sh rv → gs a1 a2 i = some (iR) → aM l yX0_chooseLeast cX0_chooseLeast 9 none D0 [.ref (100 + 35), .int a1, .int a2] (sh, i, lo, rv) none (sh, iR, lo, rv)) {kh30 : Int32 → Int32 → Int32 → Int32 → (Nat → Nat → Int32) → Option ((Nat → Nat → Int32))} {kh48 : Int32 → Int32 → Int32 → Int32 → Int32 → Int32 → Int32 → (Nat → Nat → Int32) → Option ((Nat → Nat → Int32))} (Hkh30 : ∀ (x1 : Int32) (x2 : Int32) (x3 : Int32) (x4 : Int32) (i : Nat → Nat → Int32), aGood sh rv → kh30 x1 x2 x3 x4 i = some (iR) → aJ p l e R s m args below meth c (MQ below (aPost D cA ad0 A (sh, i0, lo0, rv0) none (sh, iR, lo, rv)) args s (sh.length - sh.length) (aSn sh - aSn sh) A) D cA A ad0 9 sh.length (aSn sh) 30 [some (.ref (100 + 35)), some (.int x1), some (.int x2), some (.int x3), some (.int x4), none, none, none, none] [] (sh, i, lo, rv)) (Hkh48 : ∀ (x1 : Int32) (x2 : Int32) (x3 : Int32) (x4 : Int32) (x5 : Int32) (x6 : Int32) (x7 : Int32) (i : Nat → Nat → Int32), aGood sh rv → kh48 x1 x2 x3 x4 x5 x6 x7 i = some (iR) → aJ p l e R s m args below meth c (MQ below (aPost D cA ad0 A (sh, i0, lo0, rv0) none (sh, iR, lo, rv)) args s (sh.length - sh.length) (aSn sh - aSn sh) A) D cA A ad0 9 sh.length (aSn sh) 48 [some (.ref (100 + 35)), some (.int x1), some (.int x2), some (.int x3), some (.int x4), some (.int x5), some (.int x6), some (.int x7), none] [] (sh, i, lo, rv)) {x1 : Int32} {x2 : Int32} {x3 : Int32} {x4 : Int32} {x5 : Int32} {x6 : Int32} {x7 : Int32} (hG : aGood sh rv) (hf : fX0_chooseLeast_103 gs kh30 kh48 x1 x2 x3 x4 x5 x6 x7 i = some (iR)) : aJ p l e R s m args below meth c (MQ below (aPost D cA ad0 A (sh, i0, lo0, rv0) none (sh, iR, lo, rv)) args s (sh.length - sh.length) (aSn sh - aSn sh) A) D cA A ad0 9 sh.length (aSn sh) 103 [some (.ref (100 + 35)), some (.int x1), some (.int x2), some (.int x3), some (.int x4), some (.int x5), some (.int x6), some (.int x7), none] [] (sh, i, lo, rv) := by
  unfold fX0_chooseLeast_103 at hf
  refine j_iinc hX dX0_chooseLeast_103 rfl (congrArg (_ + ·) ic_1) (by decide) rfl ?_
  refine j_goto (tgt := 48) hX dX0_chooseLeast_106 (by decide) ?_
  exact aJx (Hkh48 _ _ _ _ _ _ _ _ hG  hf) (And.intro rfl (And.intro rfl (And.intro rfl (And.intro rfl (And.intro rfl (And.intro rfl (And.intro rfl (And.intro rfl (rfl)))))))))
def fX0_chooseLeast_48 (gs : Int32 → Int32 → (Nat → Nat → Int32) → Option ((Nat → Nat → Int32))) (kh30 : Int32 → Int32 → Int32 → Int32 → (Nat → Nat → Int32) → Option ((Nat → Nat → Int32))) : Nat → Int32 → Int32 → Int32 → Int32 → Int32 → Int32 → Int32 → (Nat → Nat → Int32) → Option ((Nat → Nat → Int32))
  | 0, _, _, _, _, _, _, _, _ => none
  | n + 1, x1, x2, x3, x4, x5, x6, x7, i => if 3 ≤ x7 then (if x5 = (-1) then (some (i)) else (lt (x3 ||| ((1 : Int32) <<< (x5 &&& 31))) fun t4 =>
    bn1 (fX0_sayOne x1 x5 i) fun i5 =>
    bn1 (fX0_coffeesBehind x5 x2) fun v7 =>
    bn1 (gs (x1 + (1 : Int32)) v7 i5) fun i9 =>
    kh30 x1 x2 t4 (x4 + 1) i9)) else (if ((x3 >>> (x7 &&& 31)) &&& (1 : Int32)) = 0 then (bn1 (fX0_coffeesBehind x7 x2) fun v11 =>
    if v11 < 0 then (fX0_chooseLeast_103 gs kh30 (fX0_chooseLeast_48 gs kh30 n) x1 x2 x3 x4 x5 x6 x7 i) else (bn1 (fX0_sayOne x1 x7 i) fun i13 =>
    bn1 (fX0_worthAtLeast (x1 + (1 : Int32)) i13) fun v15 =>
    if x6 ≤ v15 then (fX0_chooseLeast_103 gs kh30 (fX0_chooseLeast_48 gs kh30 n) x1 x2 x3 x4 x5 x6 x7 i13) else (fX0_chooseLeast_103 gs kh30 (fX0_chooseLeast_48 gs kh30 n) x1 x2 x3 x4 x7 v15 x7 i13))) else (fX0_chooseLeast_103 gs kh30 (fX0_chooseLeast_48 gs kh30 n) x1 x2 x3 x4 x5 x6 x7 i))
theorem kX0_chooseLeast_48  {gs : Int32 → Int32 → (Nat → Nat → Int32) → Option ((Nat → Nat → Int32))} {D0 : Nat} {iR : Nat → Nat → Int32} (hX : aX p s m args c RX0 cX0_chooseLeast 9 D cA A ad0) (hr : meth.sig.returnType = none) (hlk : meth.locks = false) (hRf : (D0 + 2) ≤ R.frames) (hRl : 64 * (D0 + 2) ≤ R.locals) (Hgs : ∀ {a1 : Int32} {a2 : Int32} {i : Nat → Nat → Int32} {lo : Nat → Nat → Int64} {rv : Nat → Nat → Option Nat} {iR : Nat → Nat → Int32}, aGood sh rv → gs a1 a2 i = some (iR) → aM l yX0_chooseLeast cX0_chooseLeast 9 none D0 [.ref (100 + 35), .int a1, .int a2] (sh, i, lo, rv) none (sh, iR, lo, rv)) {kh30 : Int32 → Int32 → Int32 → Int32 → (Nat → Nat → Int32) → Option ((Nat → Nat → Int32))} (Hkh30 : ∀ (x1 : Int32) (x2 : Int32) (x3 : Int32) (x4 : Int32) (i : Nat → Nat → Int32), aGood sh rv → kh30 x1 x2 x3 x4 i = some (iR) → aJ p l e R s m args below meth c (MQ below (aPost D cA ad0 A (sh, i0, lo0, rv0) none (sh, iR, lo, rv)) args s (sh.length - sh.length) (aSn sh - aSn sh) A) D cA A ad0 9 sh.length (aSn sh) 30 [some (.ref (100 + 35)), some (.int x1), some (.int x2), some (.int x3), some (.int x4), none, none, none, none] [] (sh, i, lo, rv)) : ∀ (n : Nat) (x1 : Int32) (x2 : Int32) (x3 : Int32) (x4 : Int32) (x5 : Int32) (x6 : Int32) (x7 : Int32) (i : Nat → Nat → Int32), aGood sh rv → fX0_chooseLeast_48 gs kh30 n x1 x2 x3 x4 x5 x6 x7 i = some (iR) → aJ p l e R s m args below meth c (MQ below (aPost D cA ad0 A (sh, i0, lo0, rv0) none (sh, iR, lo, rv)) args s (sh.length - sh.length) (aSn sh - aSn sh) A) D cA A ad0 9 sh.length (aSn sh) 48 [some (.ref (100 + 35)), some (.int x1), some (.int x2), some (.int x3), some (.int x4), some (.int x5), some (.int x6), some (.int x7), none] [] (sh, i, lo, rv) := by
  intro n
  induction n with
  | zero => intros; rename_i hf; cases hf
  | succ n ih =>
    intro x1 x2 x3 x4 x5 x6 x7 i hG hf
    rw [fX0_chooseLeast_48] at hf
    refine j_iload hX dX0_chooseLeast_48 rfl ?_
    refine j_iconst hX dX0_chooseLeast_50 ic_3 ?_
    refine j_icmp_ge (tgt := 109) hX dX0_chooseLeast_51 (by decide) (fun hc => ?_) (fun hc => ?_)
    · have hf := ifp hc hf
      refine j_iload hX dX0_chooseLeast_109 rfl ?_
      refine j_iconst hX dX0_chooseLeast_111 ic_m1 ?_
      refine j_icmp_ne (tgt := 116) hX dX0_chooseLeast_112 (by decide) (fun hc => ?_) (fun hc => ?_)
      · have hf := ifn hc hf
        refine j_iload_n hX dX0_chooseLeast_116 rfl ?_
        refine j_iconst hX dX0_chooseLeast_117 ic_1 ?_
        refine j_iload hX dX0_chooseLeast_118 rfl ?_
        refine j_ishl hX dX0_chooseLeast_120 ?_
        refine j_ior hX dX0_chooseLeast_121 ?_
        refine jpc (b := 122) rfl ?_
        have hf := ltd hf
        refine j_istore_n hX dX0_chooseLeast_122 (by decide) rfl ?_
        refine j_aload_n hX dX0_chooseLeast_123 rfl ?_
        refine j_iload_n hX dX0_chooseLeast_124 rfl ?_
        refine j_iload hX dX0_chooseLeast_125 rfl ?_
        obtain ⟨i5, hh6, hf⟩ := bd1 hf
        refine j_cV2v hX lk_X0_183 kX0 dX0_chooseLeast_127 (sh_35 hG) (okX0_sayOne hG hh6) rfl rfl (rmm (by omega) hRf hRl (by decide)) (Nat.le_of_ble_eq_true rfl) (Nat.le_add_right _ _) (Nat.le_add_right _ _) ?_
        refine j_aload_n hX dX0_chooseLeast_130 rfl ?_
        refine jpc (b := 131) rfl ?_
        refine j_iload_n hX dX0_chooseLeast_131 rfl ?_
        refine j_iconst hX dX0_chooseLeast_132 ic_1 ?_
        refine j_iadd hX dX0_chooseLeast_133 ?_
        refine j_iload hX dX0_chooseLeast_134 rfl ?_
        refine j_iload_n hX dX0_chooseLeast_136 rfl ?_
        obtain ⟨v7, hh8, hf⟩ := bd1 hf
        refine j_cS2i hX lk_X0_180 dX0_chooseLeast_137 (okX0_coffeesBehind hG hh8) rfl rfl (rmm (by omega) hRf hRl (by decide)) (Nat.le_of_ble_eq_true rfl) (Nat.le_add_right _ _) (Nat.le_add_right _ _) ?_
        refine jpc (b := 140) rfl ?_
        obtain ⟨i9, hh10, hf⟩ := bd1 hf
        refine j_cV2v hX lk_X0_151 kX0 dX0_chooseLeast_140 (sh_35 hG) (Hgs hG hh10) rfl rfl (rmm (by omega) hRf hRl (by decide)) (Nat.le_of_ble_eq_true rfl) (Nat.le_add_right _ _) (Nat.le_add_right _ _) ?_
        refine j_iinc hX dX0_chooseLeast_143 rfl (congrArg (_ + ·) ic_1) (by decide) rfl ?_
        refine j_goto (tgt := 30) hX dX0_chooseLeast_146 (by decide) ?_
        exact aJx (Hkh30 _ _ _ _ _ hG  hf) (And.intro rfl (And.intro rfl (And.intro rfl (And.intro rfl (And.intro rfl (rfl))))))
      · have hf := ifp hc hf
        cases hf
        exact j_vret hX hr hlk dX0_chooseLeast_115
    · have hf := ifn hc hf
      refine j_iload_n hX dX0_chooseLeast_54 rfl ?_
      refine j_iload hX dX0_chooseLeast_55 rfl ?_
      refine j_ishr hX dX0_chooseLeast_57 ?_
      refine j_iconst hX dX0_chooseLeast_58 ic_1 ?_
      refine j_iand hX dX0_chooseLeast_59 ?_
      refine jpc (b := 60) rfl ?_
      refine j_if_ne (tgt := 103) hX dX0_chooseLeast_60 (by decide) (fun hc => ?_) (fun hc => ?_)
      · have hf := ifn hc hf
        exact aJx (kX0_chooseLeast_103 hX hr hlk hRf hRl Hgs Hkh30 ih hG  hf) (And.intro rfl (And.intro rfl (And.intro rfl (And.intro rfl (And.intro rfl (And.intro rfl (And.intro rfl (And.intro rfl (rfl)))))))))
      · have hf := ifp hc hf
        refine j_iload hX dX0_chooseLeast_63 rfl ?_
        refine j_iload_n hX dX0_chooseLeast_65 rfl ?_
        obtain ⟨v11, hh12, hf⟩ := bd1 hf
        refine j_cS2i hX lk_X0_180 dX0_chooseLeast_66 (okX0_coffeesBehind hG hh12) rfl rfl (rmm (by omega) hRf hRl (by decide)) (Nat.le_of_ble_eq_true rfl) (Nat.le_add_right _ _) (Nat.le_add_right _ _) ?_
        refine j_if_lt (tgt := 103) hX dX0_chooseLeast_69 (by decide) (fun hc => ?_) (fun hc => ?_)
        · have hf := ifp hc hf
          exact aJx (kX0_chooseLeast_103 hX hr hlk hRf hRl Hgs Hkh30 ih hG  hf) (And.intro rfl (And.intro rfl (And.intro rfl (And.intro rfl (And.intro rfl (And.intro rfl (And.intro rfl (And.intro rfl (rfl)))))))))
        · have hf := ifn hc hf
          refine j_aload_n hX dX0_chooseLeast_72 rfl ?_
          refine j_iload_n hX dX0_chooseLeast_73 rfl ?_
          refine j_iload hX dX0_chooseLeast_74 rfl ?_
          obtain ⟨i13, hh14, hf⟩ := bd1 hf
          refine j_cV2v hX lk_X0_183 kX0 dX0_chooseLeast_76 (sh_35 hG) (okX0_sayOne hG hh14) rfl rfl (rmm (by omega) hRf hRl (by decide)) (Nat.le_of_ble_eq_true rfl) (Nat.le_add_right _ _) (Nat.le_add_right _ _) ?_
          refine j_aload_n hX dX0_chooseLeast_79 rfl ?_
          refine jpc (b := 80) rfl ?_
          refine j_iload_n hX dX0_chooseLeast_80 rfl ?_
          refine j_iconst hX dX0_chooseLeast_81 ic_1 ?_
          refine j_iadd hX dX0_chooseLeast_82 ?_
          obtain ⟨v15, hh16, hf⟩ := bd1 hf
          refine j_cV1i hX lk_X0_177 kX0 dX0_chooseLeast_83 (sh_35 hG) (okX0_worthAtLeast hG hh16) rfl rfl (rmm (by omega) hRf hRl (by decide)) (Nat.le_of_ble_eq_true rfl) (Nat.le_add_right _ _) (Nat.le_add_right _ _) ?_
          refine j_istore hX dX0_chooseLeast_86 (by decide) rfl ?_
          refine j_iload hX dX0_chooseLeast_88 rfl ?_
          refine jpc (b := 90) rfl ?_
          refine j_iload hX dX0_chooseLeast_90 rfl ?_
          refine j_icmp_ge (tgt := 103) hX dX0_chooseLeast_92 (by decide) (fun hc => ?_) (fun hc => ?_)
          · have hf := ifp hc hf
            exact aJx (kX0_chooseLeast_103 hX hr hlk hRf hRl Hgs Hkh30 ih hG  hf) (And.intro rfl (And.intro rfl (And.intro rfl (And.intro rfl (And.intro rfl (And.intro rfl (And.intro rfl (And.intro rfl (rfl)))))))))
          · have hf := ifn hc hf
            refine j_iload hX dX0_chooseLeast_95 rfl ?_
            refine j_istore hX dX0_chooseLeast_97 (by decide) rfl ?_
            refine j_iload hX dX0_chooseLeast_99 rfl ?_
            refine j_istore hX dX0_chooseLeast_101 (by decide) rfl ?_
            exact aJx (kX0_chooseLeast_103 hX hr hlk hRf hRl Hgs Hkh30 ih hG  hf) (And.intro rfl (And.intro rfl (And.intro rfl (And.intro rfl (And.intro rfl (And.intro rfl (And.intro rfl (And.intro rfl (rfl)))))))))
def fX0_chooseLeast_30 (gs : Int32 → Int32 → (Nat → Nat → Int32) → Option ((Nat → Nat → Int32))) : Nat → Int32 → Int32 → Int32 → Int32 → (Nat → Nat → Int32) → Option ((Nat → Nat → Int32))
  | 0, _, _, _, _, _ => none
  | n + 1, x1, x2, x3, x4, i => if 3 ≤ x4 then (some (i)) else (fX0_chooseLeast_48 gs (fX0_chooseLeast_30 gs n) fuel x1 x2 x3 x4 (-1) (i 35 14) 0 i)
theorem kX0_chooseLeast_30  {gs : Int32 → Int32 → (Nat → Nat → Int32) → Option ((Nat → Nat → Int32))} {D0 : Nat} {iR : Nat → Nat → Int32} (hX : aX p s m args c RX0 cX0_chooseLeast 9 D cA A ad0) (hr : meth.sig.returnType = none) (hlk : meth.locks = false) (hRf : (D0 + 2) ≤ R.frames) (hRl : 64 * (D0 + 2) ≤ R.locals) (Hgs : ∀ {a1 : Int32} {a2 : Int32} {i : Nat → Nat → Int32} {lo : Nat → Nat → Int64} {rv : Nat → Nat → Option Nat} {iR : Nat → Nat → Int32}, aGood sh rv → gs a1 a2 i = some (iR) → aM l yX0_chooseLeast cX0_chooseLeast 9 none D0 [.ref (100 + 35), .int a1, .int a2] (sh, i, lo, rv) none (sh, iR, lo, rv)) : ∀ (n : Nat) (x1 : Int32) (x2 : Int32) (x3 : Int32) (x4 : Int32) (i : Nat → Nat → Int32), aGood sh rv → fX0_chooseLeast_30 gs n x1 x2 x3 x4 i = some (iR) → aJ p l e R s m args below meth c (MQ below (aPost D cA ad0 A (sh, i0, lo0, rv0) none (sh, iR, lo, rv)) args s (sh.length - sh.length) (aSn sh - aSn sh) A) D cA A ad0 9 sh.length (aSn sh) 30 [some (.ref (100 + 35)), some (.int x1), some (.int x2), some (.int x3), some (.int x4), none, none, none, none] [] (sh, i, lo, rv) := by
  intro n
  induction n with
  | zero => intros; rename_i hf; cases hf
  | succ n ih =>
    intro x1 x2 x3 x4 i hG hf
    rw [fX0_chooseLeast_30] at hf
    refine j_iload hX dX0_chooseLeast_30 rfl ?_
    refine j_iconst hX dX0_chooseLeast_32 ic_3 ?_
    refine j_icmp_ge (tgt := 149) hX dX0_chooseLeast_33 (by decide) (fun hc => ?_) (fun hc => ?_)
    · have hf := ifp hc hf
      cases hf
      exact j_vret hX hr hlk dX0_chooseLeast_149
    · have hf := ifn hc hf
      refine j_iconst hX dX0_chooseLeast_36 ic_m1 ?_
      refine j_istore hX dX0_chooseLeast_37 (by decide) rfl ?_
      refine j_aload_n hX dX0_chooseLeast_39 rfl ?_
      refine j_getI (k := 14) hX kX0 (by decide) fk_X0_57 dX0_chooseLeast_40 (sh_35 hG) rfl ?_
      refine j_istore hX dX0_chooseLeast_43 (by decide) rfl ?_
      refine jpc (b := 45) rfl ?_
      refine j_iconst hX dX0_chooseLeast_45 ic_0 ?_
      refine j_istore hX dX0_chooseLeast_46 (by decide) rfl ?_
      exact aJx (kX0_chooseLeast_48 hX hr hlk hRf hRl Hgs ih fuel _ _ _ _ _ _ _ _ hG  hf) (And.intro rfl (And.intro rfl (And.intro rfl (And.intro rfl (And.intro rfl (And.intro rfl (And.intro rfl (And.intro rfl (rfl)))))))))
def fX0_chooseLeastb (gs : Int32 → Int32 → (Nat → Nat → Int32) → Option ((Nat → Nat → Int32))) (a1 : Int32) (a2 : Int32) (i : Nat → Nat → Int32) : Option ((Nat → Nat → Int32)) := if a1 < (i 35 12) then (fX0_chooseLeast_30 gs fuel a1 a2 0 0 i) else (bn1 (fX0_worthAtLeast a1 i) fun v1 =>
    lt (u2 i 35 14 (if v1 < (i 35 14) then v1 else (i 35 14))) fun i3 =>
    some (i3))
theorem kX0_chooseLeast  {gs : Int32 → Int32 → (Nat → Nat → Int32) → Option ((Nat → Nat → Int32))} {D0 : Nat} {iR : Nat → Nat → Int32} (hX : aX p s m args c RX0 cX0_chooseLeast 9 D cA A ad0) (hr : meth.sig.returnType = none) (hlk : meth.locks = false) (hRf : (D0 + 2) ≤ R.frames) (hRl : 64 * (D0 + 2) ≤ R.locals) (Hgs : ∀ {a1 : Int32} {a2 : Int32} {i : Nat → Nat → Int32} {lo : Nat → Nat → Int64} {rv : Nat → Nat → Option Nat} {iR : Nat → Nat → Int32}, aGood sh rv → gs a1 a2 i = some (iR) → aM l yX0_chooseLeast cX0_chooseLeast 9 none D0 [.ref (100 + 35), .int a1, .int a2] (sh, i, lo, rv) none (sh, iR, lo, rv)) {a1 : Int32} {a2 : Int32} (hG : aGood sh rv) (hf : fX0_chooseLeastb gs a1 a2 i = some (iR)) : aJ p l e R s m args below meth c (MQ below (aPost D cA ad0 A (sh, i0, lo0, rv0) none (sh, iR, lo, rv)) args s (sh.length - sh.length) (aSn sh - aSn sh) A) D cA A ad0 9 sh.length (aSn sh) 0 [some (.ref (100 + 35)), some (.int a1), some (.int a2), none, none, none, none, none, none] [] (sh, i, lo, rv) := by
  unfold fX0_chooseLeastb at hf
  refine j_iload_n hX dX0_chooseLeast_0 rfl ?_
  refine j_aload_n hX dX0_chooseLeast_1 rfl ?_
  refine j_getI (k := 12) hX kX0 (by decide) fk_X0_141 dX0_chooseLeast_2 (sh_35 hG) rfl ?_
  refine j_icmp_lt (tgt := 25) hX dX0_chooseLeast_5 (by decide) (fun hc => ?_) (fun hc => ?_)
  · have hf := ifp hc hf
    refine j_iconst hX dX0_chooseLeast_25 ic_0 ?_
    refine j_istore_n hX dX0_chooseLeast_26 (by decide) rfl ?_
    refine j_iconst hX dX0_chooseLeast_27 ic_0 ?_
    refine j_istore hX dX0_chooseLeast_28 (by decide) rfl ?_
    exact aJx (kX0_chooseLeast_30 hX hr hlk hRf hRl Hgs fuel _ _ _ _ _ hG  hf) (And.intro rfl (And.intro rfl (And.intro rfl (And.intro rfl (And.intro rfl (rfl))))))
  · have hf := ifn hc hf
    refine j_aload_n hX dX0_chooseLeast_8 rfl ?_
    refine j_aload_n hX dX0_chooseLeast_9 rfl ?_
    refine j_getI (k := 14) hX kX0 (by decide) fk_X0_57 dX0_chooseLeast_10 (sh_35 hG) rfl ?_
    refine j_aload_n hX dX0_chooseLeast_13 rfl ?_
    refine j_iload_n hX dX0_chooseLeast_14 rfl ?_
    refine jpc (b := 15) rfl ?_
    obtain ⟨v1, hh2, hf⟩ := bd1 hf
    refine j_cV1i hX lk_X0_177 kX0 dX0_chooseLeast_15 (sh_35 hG) (okX0_worthAtLeast hG hh2) rfl rfl (rmm (by omega) hRf hRl (by decide)) (Nat.le_of_ble_eq_true rfl) (Nat.le_add_right _ _) (Nat.le_add_right _ _) ?_
    refine j_min hX lk_X0_169 dX0_chooseLeast_18 ⟨by omega, Nat.le_trans (Nat.le_of_ble_eq_true rfl) hRl⟩ (Nat.le_add_right _ _) (Nat.le_add_right _ _) ?_
    have hf := ltd hf
    refine j_putI (k := 14) hX kX0 (by decide) fk_X0_57 dX0_chooseLeast_21 (sh_35 hG) rfl rfl rfl rfl ?_
    cases hf
    exact j_vret hX hr hlk dX0_chooseLeast_24
theorem okX0_chooseLeastb {l : Launch} {sh : List aSh} {i : Nat → Nat → Int32} {lo : Nat → Nat → Int64} {rv : Nat → Nat → Option Nat} {gs : Int32 → Int32 → (Nat → Nat → Int32) → Option ((Nat → Nat → Int32))} {D0 : Nat} (Hgs : ∀ {a1 : Int32} {a2 : Int32} {i : Nat → Nat → Int32} {lo : Nat → Nat → Int64} {rv : Nat → Nat → Option Nat} {iR : Nat → Nat → Int32}, aGood sh rv → gs a1 a2 i = some (iR) → aM l yX0_chooseLeast cX0_chooseLeast 9 none D0 [.ref (100 + 35), .int a1, .int a2] (sh, i, lo, rv) none (sh, iR, lo, rv)) {a1 : Int32} {a2 : Int32} {iR : Nat → Nat → Int32} (hG : aGood sh rv) (hf : fX0_chooseLeastb gs a1 a2 i = some (iR)) : aM l yX0_chooseLeast cX0_chooseLeast 9 none (D0 + 2) [.ref (100 + 35), .int a1, .int a2] (sh, i, lo, rv) none (sh, iR, lo, rv) :=
  aM_of (by decide) (Nat.le_of_ble_eq_true rfl) (Nat.le_refl _) (Nat.le_refl _) (fun p e s m args below meth c D cA A ad0 hX hr hlk hnm => kX0_chooseLeast hX hr hlk (Nat.le_refl _) (Nat.le_refl _) Hgs hG hf)
def fX0_chooseLeast : Nat → Int32 → Int32 → (Nat → Nat → Int32) → Option ((Nat → Nat → Int32))
  | 0, _, _, _ => none
  | n + 1, a1, a2, i => fX0_chooseLeastb (fX0_chooseLeast n) a1 a2 i
theorem okX0_chooseLeast {l : Launch} {sh : List aSh} : ∀ (n : Nat) {a1 : Int32} {a2 : Int32} {i : Nat → Nat → Int32} {lo : Nat → Nat → Int64} {rv : Nat → Nat → Option Nat} {iR : Nat → Nat → Int32}, aGood sh rv → fX0_chooseLeast n a1 a2 i = some (iR) → aM l yX0_chooseLeast cX0_chooseLeast 9 none (2 * n) [.ref (100 + 35), .int a1, .int a2] (sh, i, lo, rv) none (sh, iR, lo, rv) := by
  intro n
  induction n with
  | zero => intros; rename_i hf; cases hf
  | succ n ih =>
    intro _ _ _ _ _ _ hG hf
    exact okX0_chooseLeastb (fun hG hf => ih hG hf) hG hf
def fX0_chooseDigits_79 (gs : Int32 → Int32 → Int32 → (Nat → Nat → Int32) → Option ((Int32) × (Nat → Nat → Int32))) (kh32 : Int32 → Int32 → Int32 → Int32 → (Nat → Nat → Int32) → Option ((Int32) × (Nat → Nat → Int32))) (x1 : Int32) (x2 : Int32) (x3 : Int32) (x4 : Int32) (i : Nat → Nat → Int32) : Option ((Int32) × (Nat → Nat → Int32)) := kh32 x1 x2 x3 (x4 + 1) i
theorem kX0_chooseDigits_79  {gs : Int32 → Int32 → Int32 → (Nat → Nat → Int32) → Option ((Int32) × (Nat → Nat → Int32))} {D0 : Nat} {vR : Int32} {iR : Nat → Nat → Int32} (hX : aX p s m args c RX0 cX0_chooseDigits 6 D cA A ad0) (hr : meth.sig.returnType = (some .boolean)) (hlk : meth.locks = false) (hRf : (D0 + 2) ≤ R.frames) (hRl : 64 * (D0 + 2) ≤ R.locals) (Hgs : ∀ {a1 : Int32} {a2 : Int32} {a3 : Int32} {i : Nat → Nat → Int32} {lo : Nat → Nat → Int64} {rv : Nat → Nat → Option Nat} {vR : Int32} {iR : Nat → Nat → Int32}, aGood sh rv → gs a1 a2 a3 i = some (vR, iR) → aM l yX0_chooseDigits cX0_chooseDigits 6 (some .boolean) D0 [.ref (100 + 35), .int a1, .int a2, .int a3] (sh, i, lo, rv) (some (.int vR)) (sh, iR, lo, rv)) {kh32 : Int32 → Int32 → Int32 → Int32 → (Nat → Nat → Int32) → Option ((Int32) × (Nat → Nat → Int32))} (Hkh32 : ∀ (x1 : Int32) (x2 : Int32) (x3 : Int32) (x4 : Int32) (i : Nat → Nat → Int32), aGood sh rv → kh32 x1 x2 x3 x4 i = some (vR, iR) → aJ p l e R s m args below meth c (MQ below (aPost D cA ad0 A (sh, i0, lo0, rv0) (some (.int vR)) (sh, iR, lo, rv)) args s (sh.length - sh.length) (aSn sh - aSn sh) A) D cA A ad0 6 sh.length (aSn sh) 32 [some (.ref (100 + 35)), some (.int x1), some (.int x2), some (.int x3), some (.int x4), none] [] (sh, i, lo, rv)) {x1 : Int32} {x2 : Int32} {x3 : Int32} {x4 : Int32} (hG : aGood sh rv) (hf : fX0_chooseDigits_79 gs kh32 x1 x2 x3 x4 i = some (vR, iR)) : aJ p l e R s m args below meth c (MQ below (aPost D cA ad0 A (sh, i0, lo0, rv0) (some (.int vR)) (sh, iR, lo, rv)) args s (sh.length - sh.length) (aSn sh - aSn sh) A) D cA A ad0 6 sh.length (aSn sh) 79 [some (.ref (100 + 35)), some (.int x1), some (.int x2), some (.int x3), some (.int x4), none] [] (sh, i, lo, rv) := by
  unfold fX0_chooseDigits_79 at hf
  refine j_iinc hX dX0_chooseDigits_79 rfl (congrArg (_ + ·) ic_1) (by decide) rfl ?_
  refine j_goto (tgt := 32) hX dX0_chooseDigits_82 (by decide) ?_
  exact aJx (Hkh32 _ _ _ _ _ hG  hf) (And.intro rfl (And.intro rfl (And.intro rfl (And.intro rfl (And.intro rfl (rfl))))))
def fX0_chooseDigits_32 (gs : Int32 → Int32 → Int32 → (Nat → Nat → Int32) → Option ((Int32) × (Nat → Nat → Int32))) : Nat → Int32 → Int32 → Int32 → Int32 → (Nat → Nat → Int32) → Option ((Int32) × (Nat → Nat → Int32))
  | 0, _, _, _, _, _ => none
  | n + 1, x1, x2, x3, x4, i => if 3 ≤ x4 then (some (0, i)) else (bn1 (fX0_coffeesBehind x4 x2) fun v4 =>
    if v4 < 0 then (fX0_chooseDigits_79 gs (fX0_chooseDigits_32 gs n) x1 x2 x3 x4 i) else (bn1 (fX0_sayOne x1 x4 i) fun i6 =>
    bn2 (gs (x1 + (1 : Int32)) v4 (((10 : Int32) * x3) + x4) i6) fun v8 i9 =>
    if v8 = 0 then (fX0_chooseDigits_79 gs (fX0_chooseDigits_32 gs n) x1 x2 x3 x4 i9) else (some (1, i9))))
theorem kX0_chooseDigits_32  {gs : Int32 → Int32 → Int32 → (Nat → Nat → Int32) → Option ((Int32) × (Nat → Nat → Int32))} {D0 : Nat} {vR : Int32} {iR : Nat → Nat → Int32} (hX : aX p s m args c RX0 cX0_chooseDigits 6 D cA A ad0) (hr : meth.sig.returnType = (some .boolean)) (hlk : meth.locks = false) (hRf : (D0 + 2) ≤ R.frames) (hRl : 64 * (D0 + 2) ≤ R.locals) (Hgs : ∀ {a1 : Int32} {a2 : Int32} {a3 : Int32} {i : Nat → Nat → Int32} {lo : Nat → Nat → Int64} {rv : Nat → Nat → Option Nat} {vR : Int32} {iR : Nat → Nat → Int32}, aGood sh rv → gs a1 a2 a3 i = some (vR, iR) → aM l yX0_chooseDigits cX0_chooseDigits 6 (some .boolean) D0 [.ref (100 + 35), .int a1, .int a2, .int a3] (sh, i, lo, rv) (some (.int vR)) (sh, iR, lo, rv)) : ∀ (n : Nat) (x1 : Int32) (x2 : Int32) (x3 : Int32) (x4 : Int32) (i : Nat → Nat → Int32), aGood sh rv → fX0_chooseDigits_32 gs n x1 x2 x3 x4 i = some (vR, iR) → aJ p l e R s m args below meth c (MQ below (aPost D cA ad0 A (sh, i0, lo0, rv0) (some (.int vR)) (sh, iR, lo, rv)) args s (sh.length - sh.length) (aSn sh - aSn sh) A) D cA A ad0 6 sh.length (aSn sh) 32 [some (.ref (100 + 35)), some (.int x1), some (.int x2), some (.int x3), some (.int x4), none] [] (sh, i, lo, rv) := by
  intro n
  induction n with
  | zero => intros; rename_i hf; cases hf
  | succ n ih =>
    intro x1 x2 x3 x4 i hG hf
    rw [fX0_chooseDigits_32] at hf
    refine j_iload hX dX0_chooseDigits_32 rfl ?_
    refine j_iconst hX dX0_chooseDigits_34 ic_3 ?_
    refine j_icmp_ge (tgt := 85) hX dX0_chooseDigits_35 (by decide) (fun hc => ?_) (fun hc => ?_)
    · have hf := ifp hc hf
      refine j_iconst hX dX0_chooseDigits_85 ic_0 ?_
      cases hf
      exact j_ret hX hr hlk rfl dX0_chooseDigits_86
    · have hf := ifn hc hf
      refine j_iload hX dX0_chooseDigits_38 rfl ?_
      refine j_iload_n hX dX0_chooseDigits_40 rfl ?_
      obtain ⟨v4, hh5, hf⟩ := bd1 hf
      refine j_cS2i hX lk_X0_180 dX0_chooseDigits_41 (okX0_coffeesBehind hG hh5) rfl rfl (rmm (by omega) hRf hRl (by decide)) (Nat.le_of_ble_eq_true rfl) (Nat.le_add_right _ _) (Nat.le_add_right _ _) ?_
      refine j_istore hX dX0_chooseDigits_44 (by decide) rfl ?_
      refine j_iload hX dX0_chooseDigits_46 rfl ?_
      refine jpc (b := 48) rfl ?_
      refine j_if_lt (tgt := 79) hX dX0_chooseDigits_48 (by decide) (fun hc => ?_) (fun hc => ?_)
      · have hf := ifp hc hf
        exact aJx (kX0_chooseDigits_79 hX hr hlk hRf hRl Hgs ih hG  hf) (And.intro rfl (And.intro rfl (And.intro rfl (And.intro rfl (And.intro rfl (rfl))))))
      · have hf := ifn hc hf
        refine j_aload_n hX dX0_chooseDigits_51 rfl ?_
        refine j_iload_n hX dX0_chooseDigits_52 rfl ?_
        refine j_iload hX dX0_chooseDigits_53 rfl ?_
        obtain ⟨i6, hh7, hf⟩ := bd1 hf
        refine j_cV2v hX lk_X0_183 kX0 dX0_chooseDigits_55 (sh_35 hG) (okX0_sayOne hG hh7) rfl rfl (rmm (by omega) hRf hRl (by decide)) (Nat.le_of_ble_eq_true rfl) (Nat.le_add_right _ _) (Nat.le_add_right _ _) ?_
        refine j_aload_n hX dX0_chooseDigits_58 rfl ?_
        refine jpc (b := 59) rfl ?_
        refine j_iload_n hX dX0_chooseDigits_59 rfl ?_
        refine j_iconst hX dX0_chooseDigits_60 ic_1 ?_
        refine j_iadd hX dX0_chooseDigits_61 ?_
        refine j_iload hX dX0_chooseDigits_62 rfl ?_
        refine j_bipush hX dX0_chooseDigits_64 bp_10 ?_
        refine j_iload_n hX dX0_chooseDigits_66 rfl ?_
        refine jpc (b := 67) rfl ?_
        refine j_imul hX dX0_chooseDigits_67 ?_
        refine j_iload hX dX0_chooseDigits_68 rfl ?_
        refine j_iadd hX dX0_chooseDigits_70 ?_
        obtain ⟨v8, i9, hh10, hf⟩ := bd2 hf
        refine j_cV3i hX lk_X0_154 kX0 dX0_chooseDigits_71 (sh_35 hG) (Hgs hG hh10) rfl rfl (rmm (by omega) hRf hRl (by decide)) (Nat.le_of_ble_eq_true rfl) (Nat.le_add_right _ _) (Nat.le_add_right _ _) ?_
        refine j_if_eq (tgt := 79) hX dX0_chooseDigits_74 (by decide) (fun hc => ?_) (fun hc => ?_)
        · have hf := ifp hc hf
          exact aJx (kX0_chooseDigits_79 hX hr hlk hRf hRl Hgs ih hG  hf) (And.intro rfl (And.intro rfl (And.intro rfl (And.intro rfl (And.intro rfl (rfl))))))
        · have hf := ifn hc hf
          refine j_iconst hX dX0_chooseDigits_77 ic_1 ?_
          cases hf
          exact j_ret hX hr hlk rfl dX0_chooseDigits_78
def fX0_chooseDigitsb (gs : Int32 → Int32 → Int32 → (Nat → Nat → Int32) → Option ((Int32) × (Nat → Nat → Int32))) (a1 : Int32) (a2 : Int32) (a3 : Int32) (i : Nat → Nat → Int32) : Option ((Int32) × (Nat → Nat → Int32)) := bn1 (fX0_worthAtLeast a1 i) fun v1 =>
    if v1 ≤ (i 35 14) then (if a1 < (i 35 12) then (fX0_chooseDigits_32 gs fuel a1 a2 a3 0 i) else (lt (u2 i 35 13 a3) fun i3 =>
    some (1, i3))) else (some (0, i))
theorem kX0_chooseDigits  {gs : Int32 → Int32 → Int32 → (Nat → Nat → Int32) → Option ((Int32) × (Nat → Nat → Int32))} {D0 : Nat} {vR : Int32} {iR : Nat → Nat → Int32} (hX : aX p s m args c RX0 cX0_chooseDigits 6 D cA A ad0) (hr : meth.sig.returnType = (some .boolean)) (hlk : meth.locks = false) (hRf : (D0 + 2) ≤ R.frames) (hRl : 64 * (D0 + 2) ≤ R.locals) (Hgs : ∀ {a1 : Int32} {a2 : Int32} {a3 : Int32} {i : Nat → Nat → Int32} {lo : Nat → Nat → Int64} {rv : Nat → Nat → Option Nat} {vR : Int32} {iR : Nat → Nat → Int32}, aGood sh rv → gs a1 a2 a3 i = some (vR, iR) → aM l yX0_chooseDigits cX0_chooseDigits 6 (some .boolean) D0 [.ref (100 + 35), .int a1, .int a2, .int a3] (sh, i, lo, rv) (some (.int vR)) (sh, iR, lo, rv)) {a1 : Int32} {a2 : Int32} {a3 : Int32} (hG : aGood sh rv) (hf : fX0_chooseDigitsb gs a1 a2 a3 i = some (vR, iR)) : aJ p l e R s m args below meth c (MQ below (aPost D cA ad0 A (sh, i0, lo0, rv0) (some (.int vR)) (sh, iR, lo, rv)) args s (sh.length - sh.length) (aSn sh - aSn sh) A) D cA A ad0 6 sh.length (aSn sh) 0 [some (.ref (100 + 35)), some (.int a1), some (.int a2), some (.int a3), none, none] [] (sh, i, lo, rv) := by
  unfold fX0_chooseDigitsb at hf
  refine j_aload_n hX dX0_chooseDigits_0 rfl ?_
  refine j_iload_n hX dX0_chooseDigits_1 rfl ?_
  obtain ⟨v1, hh2, hf⟩ := bd1 hf
  refine j_cV1i hX lk_X0_177 kX0 dX0_chooseDigits_2 (sh_35 hG) (okX0_worthAtLeast hG hh2) rfl rfl (rmm (by omega) hRf hRl (by decide)) (Nat.le_of_ble_eq_true rfl) (Nat.le_add_right _ _) (Nat.le_add_right _ _) ?_
  refine j_aload_n hX dX0_chooseDigits_5 rfl ?_
  refine j_getI (k := 14) hX kX0 (by decide) fk_X0_57 dX0_chooseDigits_6 (sh_35 hG) rfl ?_
  refine jpc (b := 9) rfl ?_
  refine j_icmp_le (tgt := 14) hX dX0_chooseDigits_9 (by decide) (fun hc => ?_) (fun hc => ?_)
  · have hf := ifp hc hf
    refine j_iload_n hX dX0_chooseDigits_14 rfl ?_
    refine j_aload_n hX dX0_chooseDigits_15 rfl ?_
    refine j_getI (k := 12) hX kX0 (by decide) fk_X0_141 dX0_chooseDigits_16 (sh_35 hG) rfl ?_
    refine j_icmp_lt (tgt := 29) hX dX0_chooseDigits_19 (by decide) (fun hc => ?_) (fun hc => ?_)
    · have hf := ifp hc hf
      refine j_iconst hX dX0_chooseDigits_29 ic_0 ?_
      refine j_istore hX dX0_chooseDigits_30 (by decide) rfl ?_
      exact aJx (kX0_chooseDigits_32 hX hr hlk hRf hRl Hgs fuel _ _ _ _ _ hG  hf) (And.intro rfl (And.intro rfl (And.intro rfl (And.intro rfl (And.intro rfl (rfl))))))
    · have hf := ifn hc hf
      refine j_aload_n hX dX0_chooseDigits_22 rfl ?_
      refine j_iload_n hX dX0_chooseDigits_23 rfl ?_
      have hf := ltd hf
      refine j_putI (k := 13) hX kX0 (by decide) fk_X0_53 dX0_chooseDigits_24 (sh_35 hG) rfl rfl rfl rfl ?_
      refine j_iconst hX dX0_chooseDigits_27 ic_1 ?_
      cases hf
      exact j_ret hX hr hlk rfl dX0_chooseDigits_28
  · have hf := ifn hc hf
    refine j_iconst hX dX0_chooseDigits_12 ic_0 ?_
    cases hf
    exact j_ret hX hr hlk rfl dX0_chooseDigits_13
theorem okX0_chooseDigitsb {l : Launch} {sh : List aSh} {i : Nat → Nat → Int32} {lo : Nat → Nat → Int64} {rv : Nat → Nat → Option Nat} {gs : Int32 → Int32 → Int32 → (Nat → Nat → Int32) → Option ((Int32) × (Nat → Nat → Int32))} {D0 : Nat} (Hgs : ∀ {a1 : Int32} {a2 : Int32} {a3 : Int32} {i : Nat → Nat → Int32} {lo : Nat → Nat → Int64} {rv : Nat → Nat → Option Nat} {vR : Int32} {iR : Nat → Nat → Int32}, aGood sh rv → gs a1 a2 a3 i = some (vR, iR) → aM l yX0_chooseDigits cX0_chooseDigits 6 (some .boolean) D0 [.ref (100 + 35), .int a1, .int a2, .int a3] (sh, i, lo, rv) (some (.int vR)) (sh, iR, lo, rv)) {a1 : Int32} {a2 : Int32} {a3 : Int32} {vR : Int32} {iR : Nat → Nat → Int32} (hG : aGood sh rv) (hf : fX0_chooseDigitsb gs a1 a2 a3 i = some (vR, iR)) : aM l yX0_chooseDigits cX0_chooseDigits 6 (some .boolean) (D0 + 2) [.ref (100 + 35), .int a1, .int a2, .int a3] (sh, i, lo, rv) (some (.int vR)) (sh, iR, lo, rv) :=
  aM_of (by decide) (Nat.le_of_ble_eq_true rfl) (Nat.le_refl _) (Nat.le_refl _) (fun p e s m args below meth c D cA A ad0 hX hr hlk hnm => kX0_chooseDigits hX hr hlk (Nat.le_refl _) (Nat.le_refl _) Hgs hG hf)
def fX0_chooseDigits : Nat → Int32 → Int32 → Int32 → (Nat → Nat → Int32) → Option ((Int32) × (Nat → Nat → Int32))
  | 0, _, _, _, _ => none
  | n + 1, a1, a2, a3, i => fX0_chooseDigitsb (fX0_chooseDigits n) a1 a2 a3 i
theorem okX0_chooseDigits {l : Launch} {sh : List aSh} : ∀ (n : Nat) {a1 : Int32} {a2 : Int32} {a3 : Int32} {i : Nat → Nat → Int32} {lo : Nat → Nat → Int64} {rv : Nat → Nat → Option Nat} {vR : Int32} {iR : Nat → Nat → Int32}, aGood sh rv → fX0_chooseDigits n a1 a2 a3 i = some (vR, iR) → aM l yX0_chooseDigits cX0_chooseDigits 6 (some .boolean) (2 * n) [.ref (100 + 35), .int a1, .int a2, .int a3] (sh, i, lo, rv) (some (.int vR)) (sh, iR, lo, rv) := by
  intro n
  induction n with
  | zero => intros; rename_i hf; cases hf
  | succ n ih =>
    intro _ _ _ _ _ _ _ _ hG hf
    exact okX0_chooseDigitsb (fun hG hf => ih hG hf) hG hf
def fX0_findWords_49 (kh7 : Int32 → (Nat → Nat → Int32) → Option ((Int32) × (Nat → Nat → Int32))) (x1 : Int32) (i : Nat → Nat → Int32) : Option ((Int32) × (Nat → Nat → Int32)) := kh7 (x1 + 1) i
theorem kX0_findWords_49  {vR : Int32} {iR : Nat → Nat → Int32} (hX : aX p s m args c RX0 cX0_findWords 2 D cA A ad0) (hr : meth.sig.returnType = (some .boolean)) (hlk : meth.locks = false) (hRf : 25 ≤ R.frames) (hRl : 64 * 25 ≤ R.locals) {kh7 : Int32 → (Nat → Nat → Int32) → Option ((Int32) × (Nat → Nat → Int32))} (Hkh7 : ∀ (x1 : Int32) (i : Nat → Nat → Int32), aGood sh rv → kh7 x1 i = some (vR, iR) → aJ p l e R s m args below meth c (MQ below (aPost D cA ad0 A (sh, i0, lo0, rv0) (some (.int vR)) (sh, iR, lo, rv)) args s (sh.length - sh.length) (aSn sh - aSn sh) A) D cA A ad0 2 sh.length (aSn sh) 7 [some (.ref (100 + 35)), some (.int x1)] [] (sh, i, lo, rv)) {x1 : Int32} (hG : aGood sh rv) (hf : fX0_findWords_49 kh7 x1 i = some (vR, iR)) : aJ p l e R s m args below meth c (MQ below (aPost D cA ad0 A (sh, i0, lo0, rv0) (some (.int vR)) (sh, iR, lo, rv)) args s (sh.length - sh.length) (aSn sh - aSn sh) A) D cA A ad0 2 sh.length (aSn sh) 49 [some (.ref (100 + 35)), some (.int x1)] [] (sh, i, lo, rv) := by
  unfold fX0_findWords_49 at hf
  refine j_iinc hX dX0_findWords_49 rfl (congrArg (_ + ·) ic_1) (by decide) rfl ?_
  refine j_goto (tgt := 7) hX dX0_findWords_52 (by decide) ?_
  exact aJx (Hkh7 _ _ hG  hf) (And.intro rfl (And.intro rfl (rfl)))
def fX0_findWords_66 : Nat → Int32 → (Nat → Nat → Int32) → Option ((Int32) × (Nat → Nat → Int32))
  | 0, _, _ => none
  | n + 1, x1, i => bn1 (fX1_officers 15 i) fun v8 =>
    if v8 ≤ x1 then (lt (u2 i 35 14 1000000000) fun i10 =>
    bn1 (fX8_coffees 19 i10) fun v11 =>
    bn1 (fX0_chooseLeast 12 0 v11 i10) fun i13 =>
    lt (u2 i13 35 13 0) fun i15 =>
    bn1 (fX8_coffees 19 i15) fun v16 =>
    bn2 (fX0_chooseDigits 12 0 v16 0 i15) fun v18 i19 =>
    if narrow .boolean (.int v18) = .int v18 then
    some (v18, i19) else none) else (bn1 (fX0_layOutWaits x1 i) fun i21 =>
    fX0_findWords_66 n (x1 + 1) i21)
theorem kX0_findWords_66  {vR : Int32} {iR : Nat → Nat → Int32} (hX : aX p s m args c RX0 cX0_findWords 2 D cA A ad0) (hr : meth.sig.returnType = (some .boolean)) (hlk : meth.locks = false) (hRf : 25 ≤ R.frames) (hRl : 64 * 25 ≤ R.locals) : ∀ (n : Nat) (x1 : Int32) (i : Nat → Nat → Int32), aGood sh rv → fX0_findWords_66 n x1 i = some (vR, iR) → aJ p l e R s m args below meth c (MQ below (aPost D cA ad0 A (sh, i0, lo0, rv0) (some (.int vR)) (sh, iR, lo, rv)) args s (sh.length - sh.length) (aSn sh - aSn sh) A) D cA A ad0 2 sh.length (aSn sh) 66 [some (.ref (100 + 35)), some (.int x1)] [] (sh, i, lo, rv) := by
  intro n
  induction n with
  | zero => intros; rename_i hf; cases hf
  | succ n ih =>
    intro x1 i hG hf
    rw [fX0_findWords_66] at hf
    refine j_iload_n hX dX0_findWords_66 rfl ?_
    refine j_aload_n hX dX0_findWords_67 rfl ?_
    refine j_getR (k := 0) hX kX0 (by decide) fk_X0_41 (rf_35_0 hG) dX0_findWords_68 (sh_35 hG) rfl ?_
    obtain ⟨v8, hh9, hf⟩ := bd1 hf
    refine j_cV0i hX lk_X0_68 kX1 dX0_findWords_71 (sh_15 hG) (okX1_officers hG (cr_15 hG) hh9) rfl rfl (rmm (by omega) hRf hRl (by decide)) (Nat.le_of_ble_eq_true rfl) (Nat.le_add_right _ _) (Nat.le_add_right _ _) ?_
    refine j_icmp_ge (tgt := 88) hX dX0_findWords_74 (by decide) (fun hc => ?_) (fun hc => ?_)
    · have hf := ifp hc hf
      refine j_aload_n hX dX0_findWords_88 rfl ?_
      refine j_ldc hX kc_X0_150 dX0_findWords_89 ?_
      have hf := ltd hf
      refine j_putI (k := 14) hX kX0 (by decide) fk_X0_57 dX0_findWords_91 (sh_35 hG) rfl rfl rfl rfl ?_
      refine j_aload_n hX dX0_findWords_94 rfl ?_
      refine j_iconst hX dX0_findWords_95 ic_0 ?_
      refine jpc (b := 96) rfl ?_
      refine j_aload_n hX dX0_findWords_96 rfl ?_
      refine j_getR (k := 2) hX kX0 (by decide) fk_X0_49 (rf_35_2 hG) dX0_findWords_97 (sh_35 hG) rfl ?_
      obtain ⟨v11, hh12, hf⟩ := bd1 hf
      refine j_cV0i hX lk_X0_107 kX8 dX0_findWords_100 (sh_19 hG) (okX8_coffees hG (sc_19 hG) hh12) rfl rfl (rmm (by omega) hRf hRl (by decide)) (Nat.le_of_ble_eq_true rfl) (Nat.le_add_right _ _) (Nat.le_add_right _ _) ?_
      obtain ⟨i13, hh14, hf⟩ := bd1 hf
      refine j_cV2v hX lk_X0_151 kX0 dX0_findWords_103 (sh_35 hG) (okX0_chooseLeast 12 hG hh14) rfl rfl (rmm (by omega) hRf hRl (by decide)) (Nat.le_of_ble_eq_true rfl) (Nat.le_add_right _ _) (Nat.le_add_right _ _) ?_
      refine j_aload_n hX dX0_findWords_106 rfl ?_
      refine j_iconst hX dX0_findWords_107 ic_0 ?_
      refine jpc (b := 108) rfl ?_
      have hf := ltd hf
      refine j_putI (k := 13) hX kX0 (by decide) fk_X0_53 dX0_findWords_108 (sh_35 hG) rfl rfl rfl rfl ?_
      refine j_aload_n hX dX0_findWords_111 rfl ?_
      refine j_iconst hX dX0_findWords_112 ic_0 ?_
      refine j_aload_n hX dX0_findWords_113 rfl ?_
      refine j_getR (k := 2) hX kX0 (by decide) fk_X0_49 (rf_35_2 hG) dX0_findWords_114 (sh_35 hG) rfl ?_
      obtain ⟨v16, hh17, hf⟩ := bd1 hf
      refine j_cV0i hX lk_X0_107 kX8 dX0_findWords_117 (sh_19 hG) (okX8_coffees hG (sc_19 hG) hh17) rfl rfl (rmm (by omega) hRf hRl (by decide)) (Nat.le_of_ble_eq_true rfl) (Nat.le_add_right _ _) (Nat.le_add_right _ _) ?_
      refine jpc (b := 120) rfl ?_
      refine j_iconst hX dX0_findWords_120 ic_0 ?_
      obtain ⟨v18, i19, hh20, hf⟩ := bd2 hf
      refine j_cV3i hX lk_X0_154 kX0 dX0_findWords_121 (sh_35 hG) (okX0_chooseDigits 12 hG hh20) rfl rfl (rmm (by omega) hRf hRl (by decide)) (Nat.le_of_ble_eq_true rfl) (Nat.le_add_right _ _) (Nat.le_add_right _ _) ?_
      obtain ⟨hg, hf⟩ := gd hf
      cases hf
      exact j_ret hX hr hlk hg dX0_findWords_124
    · have hf := ifn hc hf
      refine j_aload_n hX dX0_findWords_77 rfl ?_
      refine j_iload_n hX dX0_findWords_78 rfl ?_
      obtain ⟨i21, hh22, hf⟩ := bd1 hf
      refine j_cV1v hX lk_X0_147 kX0 dX0_findWords_79 (sh_35 hG) (okX0_layOutWaits hG hh22) rfl rfl (rmm (by omega) hRf hRl (by decide)) (Nat.le_of_ble_eq_true rfl) (Nat.le_add_right _ _) (Nat.le_add_right _ _) ?_
      refine j_iinc hX dX0_findWords_82 rfl (congrArg (_ + ·) ic_1) (by decide) rfl ?_
      refine j_goto (tgt := 66) hX dX0_findWords_85 (by decide) ?_
      exact aJx (ih _ _ hG  hf) (And.intro rfl (And.intro rfl (rfl)))
def fX0_findWords_7 : Nat → Int32 → (Nat → Nat → Int32) → Option ((Int32) × (Nat → Nat → Int32))
  | 0, _, _ => none
  | n + 1, x1, i => bn1 (fX1_sleepers 15 i) fun v2 =>
    if v2 ≤ x1 then (if (i 35 12) = 0 then (some (0, i)) else (fX0_findWords_66 fuel 0 i)) else (bn1 (fX1_isLacking 15 x1 i) fun v4 =>
    if v4 = 0 then (fX0_findWords_49 (fX0_findWords_7 n) x1 i) else (if aIn (i 35 12) 9 = true then
    (lt (u2 i 41 ((i 35 12) : Int32).toNatClampNeg x1) fun i6 => lt (u2 i6 35 12 ((i6 35 12) + (1 : Int32))) fun i7 =>
    fX0_findWords_49 (fX0_findWords_7 n) x1 i7) else none))
theorem kX0_findWords_7  {vR : Int32} {iR : Nat → Nat → Int32} (hX : aX p s m args c RX0 cX0_findWords 2 D cA A ad0) (hr : meth.sig.returnType = (some .boolean)) (hlk : meth.locks = false) (hRf : 25 ≤ R.frames) (hRl : 64 * 25 ≤ R.locals) : ∀ (n : Nat) (x1 : Int32) (i : Nat → Nat → Int32), aGood sh rv → fX0_findWords_7 n x1 i = some (vR, iR) → aJ p l e R s m args below meth c (MQ below (aPost D cA ad0 A (sh, i0, lo0, rv0) (some (.int vR)) (sh, iR, lo, rv)) args s (sh.length - sh.length) (aSn sh - aSn sh) A) D cA A ad0 2 sh.length (aSn sh) 7 [some (.ref (100 + 35)), some (.int x1)] [] (sh, i, lo, rv) := by
  intro n
  induction n with
  | zero => intros; rename_i hf; cases hf
  | succ n ih =>
    intro x1 i hG hf
    rw [fX0_findWords_7] at hf
    refine j_iload_n hX dX0_findWords_7 rfl ?_
    refine j_aload_n hX dX0_findWords_8 rfl ?_
    refine j_getR (k := 0) hX kX0 (by decide) fk_X0_41 (rf_35_0 hG) dX0_findWords_9 (sh_35 hG) rfl ?_
    obtain ⟨v2, hh3, hf⟩ := bd1 hf
    refine j_cV0i hX lk_X0_98 kX1 dX0_findWords_12 (sh_15 hG) (okX1_sleepers hG (cr_15 hG) hh3) rfl rfl (rmm (by omega) hRf hRl (by decide)) (Nat.le_of_ble_eq_true rfl) (Nat.le_add_right _ _) (Nat.le_add_right _ _) ?_
    refine j_icmp_ge (tgt := 55) hX dX0_findWords_15 (by decide) (fun hc => ?_) (fun hc => ?_)
    · have hf := ifp hc hf
      refine j_aload_n hX dX0_findWords_55 rfl ?_
      refine j_getI (k := 12) hX kX0 (by decide) fk_X0_141 dX0_findWords_56 (sh_35 hG) rfl ?_
      refine j_if_ne (tgt := 64) hX dX0_findWords_59 (by decide) (fun hc => ?_) (fun hc => ?_)
      · have hf := ifn hc hf
        refine j_iconst hX dX0_findWords_64 ic_0 ?_
        refine j_istore_n hX dX0_findWords_65 (by decide) rfl ?_
        exact aJx (kX0_findWords_66 hX hr hlk hRf hRl fuel _ _ hG  hf) (And.intro rfl (And.intro rfl (rfl)))
      · have hf := ifp hc hf
        refine j_iconst hX dX0_findWords_62 ic_0 ?_
        cases hf
        exact j_ret hX hr hlk rfl dX0_findWords_63
    · have hf := ifn hc hf
      refine j_aload_n hX dX0_findWords_18 rfl ?_
      refine j_getR (k := 0) hX kX0 (by decide) fk_X0_41 (rf_35_0 hG) dX0_findWords_19 (sh_35 hG) rfl ?_
      refine j_iload_n hX dX0_findWords_22 rfl ?_
      obtain ⟨v4, hh5, hf⟩ := bd1 hf
      refine j_cV1i hX lk_X0_144 kX1 dX0_findWords_23 (sh_15 hG) (okX1_isLacking hG (cr_15 hG) hh5) rfl rfl (rmm (by omega) hRf hRl (by decide)) (Nat.le_of_ble_eq_true rfl) (Nat.le_add_right _ _) (Nat.le_add_right _ _) ?_
      refine j_if_eq (tgt := 49) hX dX0_findWords_26 (by decide) (fun hc => ?_) (fun hc => ?_)
      · have hf := ifp hc hf
        exact aJx (kX0_findWords_49 hX hr hlk hRf hRl ih hG  hf) (And.intro rfl (And.intro rfl (rfl)))
      · have hf := ifn hc hf
        refine j_aload_n hX dX0_findWords_29 rfl ?_
        refine j_getR (k := 8) hX kX0 (by decide) fk_X0_29 (rf_35_8 hG) dX0_findWords_30 (sh_35 hG) rfl ?_
        refine j_aload_n hX dX0_findWords_33 rfl ?_
        refine j_getI (k := 12) hX kX0 (by decide) fk_X0_141 dX0_findWords_34 (sh_35 hG) rfl ?_
        refine j_iload_n hX dX0_findWords_37 rfl ?_
        refine jpc (b := 38) rfl ?_
        obtain ⟨hg, hf⟩ := gd hf
        have hf := ltd hf
        refine j_iast hX (sh_41 hG) hg dX0_findWords_38 ?_
        refine j_aload_n hX dX0_findWords_39 rfl ?_
        refine j_dup hX dX0_findWords_40 rfl ?_
        refine j_getI (k := 12) hX kX0 (by decide) fk_X0_141 dX0_findWords_41 (sh_35 hG) rfl ?_
        refine j_iconst hX dX0_findWords_44 ic_1 ?_
        refine j_iadd hX dX0_findWords_45 ?_
        refine jpc (b := 46) rfl ?_
        have hf := ltd hf
        refine j_putI (k := 12) hX kX0 (by decide) fk_X0_141 dX0_findWords_46 (sh_35 hG) rfl rfl rfl rfl ?_
        exact aJx (kX0_findWords_49 hX hr hlk hRf hRl ih hG  hf) (And.intro rfl (And.intro rfl (rfl)))
def fX0_findWords (i : Nat → Nat → Int32) : Option ((Int32) × (Nat → Nat → Int32)) := lt (u2 i 35 12 0) fun i1 =>
    fX0_findWords_7 fuel 0 i1
theorem kX0_findWords  {vR : Int32} {iR : Nat → Nat → Int32} (hX : aX p s m args c RX0 cX0_findWords 2 D cA A ad0) (hr : meth.sig.returnType = (some .boolean)) (hlk : meth.locks = false) (hRf : 25 ≤ R.frames) (hRl : 64 * 25 ≤ R.locals) (hG : aGood sh rv) (hf : fX0_findWords i = some (vR, iR)) : aJ p l e R s m args below meth c (MQ below (aPost D cA ad0 A (sh, i0, lo0, rv0) (some (.int vR)) (sh, iR, lo, rv)) args s (sh.length - sh.length) (aSn sh - aSn sh) A) D cA A ad0 2 sh.length (aSn sh) 0 [some (.ref (100 + 35)), none] [] (sh, i, lo, rv) := by
  unfold fX0_findWords at hf
  refine j_aload_n hX dX0_findWords_0 rfl ?_
  refine j_iconst hX dX0_findWords_1 ic_0 ?_
  have hf := ltd hf
  refine j_putI (k := 12) hX kX0 (by decide) fk_X0_141 dX0_findWords_2 (sh_35 hG) rfl rfl rfl rfl ?_
  refine j_iconst hX dX0_findWords_5 ic_0 ?_
  refine j_istore_n hX dX0_findWords_6 (by decide) rfl ?_
  exact aJx (kX0_findWords_7 hX hr hlk hRf hRl fuel _ _ hG  hf) (And.intro rfl (And.intro rfl (rfl)))
theorem okX0_findWords {l : Launch} {sh : List aSh} {i : Nat → Nat → Int32} {lo : Nat → Nat → Int64} {rv : Nat → Nat → Option Nat}  {vR : Int32} {iR : Nat → Nat → Int32} (hG : aGood sh rv) (hf : fX0_findWords i = some (vR, iR)) : aM l yX0_findWords cX0_findWords 2 (some .boolean) 25 [.ref (100 + 35)] (sh, i, lo, rv) (some (.int vR)) (sh, iR, lo, rv) :=
  aM_of (by decide) (Nat.le_of_ble_eq_true rfl) (Nat.le_refl _) (Nat.le_refl _) (fun p e s m args below meth c D cA A ad0 hX hr hlk hnm => kX0_findWords hX hr hlk (Nat.le_refl _) (Nat.le_refl _) hG hf)
def fX11_words (a1 : Int32) (i : Nat → Nat → Int32) : Option ((Int32) × (Nat → Nat → Int32)) := bn1 (fX11_noCar i) fun v1 =>
    if v1 = 0 then (if a1 < 0 then (some ((-1), i)) else (if 1 < a1 then (some ((-1), i)) else (bn2 (fX0_findWords i) fun v3 i4 =>
    if v3 = 0 then (some ((-1), i4)) else (if a1 = 0 then (bn1 (fX0_answer i4) fun v8 =>
    some (v8, i4)) else (bn1 (fX0_worth i4) fun v6 =>
    some (v6, i4)))))) else (some ((-1), i))
theorem kX11_words  {vR : Int32} {iR : Nat → Nat → Int32} (hX : aX p s m args c RX11 cX11_words 2 D cA A ad0) (hr : meth.sig.returnType = (some .int)) (hlk : meth.locks = false) (hRf : 26 ≤ R.frames) (hRl : 64 * 26 ≤ R.locals) {a1 : Int32} (hG : aGood sh rv) (hf : fX11_words a1 i = some (vR, iR)) : aJ p l e R s m args below meth c (MQ below (aPost D cA ad0 A (sh, i0, lo0, rv0) (some (.int vR)) (sh, iR, lo, rv)) args s (sh.length - sh.length) (aSn sh - aSn sh) A) D cA A ad0 2 sh.length (aSn sh) 0 [some (.ref (100 + 0)), some (.int a1)] [] (sh, i, lo, rv) := by
  unfold fX11_words at hf
  refine j_aload_n hX dX11_words_0 rfl ?_
  obtain ⟨v1, hh2, hf⟩ := bd1 hf
  refine j_cV0i hX lk_X11_120 kX11 dX11_words_1 (sh_0 hG) (okX11_noCar hG hh2) rfl rfl (rmm (by omega) hRf hRl (by decide)) (Nat.le_of_ble_eq_true rfl) (Nat.le_add_right _ _) (Nat.le_add_right _ _) ?_
  refine j_if_ne (tgt := 26) hX dX11_words_4 (by decide) (fun hc => ?_) (fun hc => ?_)
  · have hf := ifn hc hf
    refine j_iconst hX dX11_words_26 ic_m1 ?_
    cases hf
    exact j_ret hX hr hlk rfl dX11_words_27
  · have hf := ifp hc hf
    refine j_iload_n hX dX11_words_7 rfl ?_
    refine j_if_lt (tgt := 26) hX dX11_words_8 (by decide) (fun hc => ?_) (fun hc => ?_)
    · have hf := ifp hc hf
      refine j_iconst hX dX11_words_26 ic_m1 ?_
      cases hf
      exact j_ret hX hr hlk rfl dX11_words_27
    · have hf := ifn hc hf
      refine j_iload_n hX dX11_words_11 rfl ?_
      refine j_iconst hX dX11_words_12 ic_1 ?_
      refine j_icmp_gt (tgt := 26) hX dX11_words_13 (by decide) (fun hc => ?_) (fun hc => ?_)
      · have hf := ifp hc hf
        refine j_iconst hX dX11_words_26 ic_m1 ?_
        cases hf
        exact j_ret hX hr hlk rfl dX11_words_27
      · have hf := ifn hc hf
        refine j_aload_n hX dX11_words_16 rfl ?_
        refine j_getR (k := 9) hX kX11 (by decide) fk_X11_71 (rf_0_9 hG) dX11_words_17 (sh_0 hG) rfl ?_
        obtain ⟨v3, i4, hh5, hf⟩ := bd2 hf
        refine j_cV0i hX lk_X11_259 kX0 dX11_words_20 (sh_35 hG) (okX0_findWords hG hh5) rfl rfl (rmm (by omega) hRf hRl (by decide)) (Nat.le_of_ble_eq_true rfl) (Nat.le_add_right _ _) (Nat.le_add_right _ _) ?_
        refine j_if_ne (tgt := 28) hX dX11_words_23 (by decide) (fun hc => ?_) (fun hc => ?_)
        · have hf := ifn hc hf
          refine j_iload_n hX dX11_words_28 rfl ?_
          refine j_if_ne (tgt := 42) hX dX11_words_29 (by decide) (fun hc => ?_) (fun hc => ?_)
          · have hf := ifn hc hf
            refine j_aload_n hX dX11_words_42 rfl ?_
            refine j_getR (k := 9) hX kX11 (by decide) fk_X11_71 (rf_0_9 hG) dX11_words_43 (sh_0 hG) rfl ?_
            obtain ⟨v6, hh7, hf⟩ := bd1 hf
            refine j_cV0i hX lk_X11_258 kX0 dX11_words_46 (sh_35 hG) (okX0_worth hG hh7) rfl rfl (rmm (by omega) hRf hRl (by decide)) (Nat.le_of_ble_eq_true rfl) (Nat.le_add_right _ _) (Nat.le_add_right _ _) ?_
            cases hf
            exact j_ret hX hr hlk rfl dX11_words_49
          · have hf := ifp hc hf
            refine j_aload_n hX dX11_words_32 rfl ?_
            refine j_getR (k := 9) hX kX11 (by decide) fk_X11_71 (rf_0_9 hG) dX11_words_33 (sh_0 hG) rfl ?_
            obtain ⟨v8, hh9, hf⟩ := bd1 hf
            refine j_cV0i hX lk_X11_255 kX0 dX11_words_36 (sh_35 hG) (okX0_answer hG hh9) rfl rfl (rmm (by omega) hRf hRl (by decide)) (Nat.le_of_ble_eq_true rfl) (Nat.le_add_right _ _) (Nat.le_add_right _ _) ?_
            refine j_goto (tgt := 49) hX dX11_words_39 (by decide) ?_
            cases hf
            exact j_ret hX hr hlk rfl dX11_words_49
        · have hf := ifp hc hf
          refine j_iconst hX dX11_words_26 ic_m1 ?_
          cases hf
          exact j_ret hX hr hlk rfl dX11_words_27
theorem okX11_words {l : Launch} {sh : List aSh} {i : Nat → Nat → Int32} {lo : Nat → Nat → Int64} {rv : Nat → Nat → Option Nat}  {a1 : Int32} {vR : Int32} {iR : Nat → Nat → Int32} (hG : aGood sh rv) (hf : fX11_words a1 i = some (vR, iR)) : aM l yX11_words cX11_words 2 (some .int) 26 [.ref (100 + 0), .int a1] (sh, i, lo, rv) (some (.int vR)) (sh, iR, lo, rv) :=
  aM_of (by decide) (Nat.le_of_ble_eq_true rfl) (Nat.le_refl _) (Nat.le_refl _) (fun p e s m args below meth c D cA A ad0 hX hr hlk hnm => kX11_words hX hr hlk (Nat.le_refl _) (Nat.le_refl _) hG hf)
def fX2_couldBe_16 : Nat → Int32 → Int32 → Int32 → (Nat → Nat → Int32) → (Nat → Nat → Option Nat) → Option ((Int32) × (Nat → Nat → Int32))
  | 0, _, _, _, _, _ => none
  | n + 1, x1, x2, x3, i, rv => if (i 45 7) ≤ x3 then (some (1, i)) else (if aIn x3 8 = true then
    (bn1 (fX1_looksAtFaces 15 x1 i) fun v4 =>
    if (i 46 (x3 : Int32).toNatClampNeg) = v4 then (if aIn x3 8 = true then
    (if (i 47 (x3 : Int32).toNatClampNeg) ≤ x2 then (fX2_couldBe_16 n x1 x2 (x3 + 1) i rv) else (some (0, i))) else none) else (some (0, i))) else none)
theorem kX2_couldBe_16  {vR : Int32} {iR : Nat → Nat → Int32} (hX : aX p s m args c RX2 cX2_couldBe 4 D cA A ad0) (hr : meth.sig.returnType = (some .boolean)) (hlk : meth.locks = false) (hRf : 5 ≤ R.frames) (hRl : 64 * 5 ≤ R.locals) : ∀ (n : Nat) (x1 : Int32) (x2 : Int32) (x3 : Int32) (i : Nat → Nat → Int32), aGood sh rv → fX2_couldBe_16 n x1 x2 x3 i rv = some (vR, iR) → aJ p l e R s m args below meth c (MQ below (aPost D cA ad0 A (sh, i0, lo0, rv0) (some (.int vR)) (sh, iR, lo, rv)) args s (sh.length - sh.length) (aSn sh - aSn sh) A) D cA A ad0 4 sh.length (aSn sh) 16 [some (.ref (100 + 45)), some (.int x1), some (.int x2), some (.int x3)] [] (sh, i, lo, rv) := by
  intro n
  induction n with
  | zero => intros; rename_i hf; cases hf
  | succ n ih =>
    intro x1 x2 x3 i hG hf
    rw [fX2_couldBe_16] at hf
    refine j_iload_n hX dX2_couldBe_16 rfl ?_
    refine j_aload_n hX dX2_couldBe_17 rfl ?_
    refine j_getI (k := 7) hX kX2 (by decide) fk_X2_37 dX2_couldBe_18 (sh_45 hG) rfl ?_
    refine j_icmp_ge (tgt := 59) hX dX2_couldBe_21 (by decide) (fun hc => ?_) (fun hc => ?_)
    · have hf := ifp hc hf
      refine j_iconst hX dX2_couldBe_59 ic_1 ?_
      cases hf
      exact j_ret hX hr hlk rfl dX2_couldBe_60
    · have hf := ifn hc hf
      refine j_aload_n hX dX2_couldBe_24 rfl ?_
      refine j_getR (k := 3) hX kX2 (by decide) fk_X2_11 (rf_45_3 hG) dX2_couldBe_25 (sh_45 hG) rfl ?_
      refine j_iload_n hX dX2_couldBe_28 rfl ?_
      obtain ⟨hg, hf⟩ := gd hf
      refine j_zald hX (sh_46 hG) hg dX2_couldBe_29 ?_
      refine j_aload_n hX dX2_couldBe_30 rfl ?_
      refine j_getR (k := 0) hX kX2 (by decide) fk_X2_25 (rf_45_0 hG) dX2_couldBe_31 (sh_45 hG) rfl ?_
      refine j_iload_n hX dX2_couldBe_34 rfl ?_
      obtain ⟨v4, hh5, hf⟩ := bd1 hf
      refine j_cV1i hX lk_X2_65 kX1 dX2_couldBe_35 (sh_15 hG) (okX1_looksAtFaces hG (cr_15 hG) hh5) rfl rfl (rmm (by omega) hRf hRl (by decide)) (Nat.le_of_ble_eq_true rfl) (Nat.le_add_right _ _) (Nat.le_add_right _ _) ?_
      refine j_icmp_ne (tgt := 51) hX dX2_couldBe_38 (by decide) (fun hc => ?_) (fun hc => ?_)
      · have hf := ifn hc hf
        refine j_iconst hX dX2_couldBe_51 ic_0 ?_
        cases hf
        exact j_ret hX hr hlk rfl dX2_couldBe_52
      · have hf := ifp hc hf
        refine j_iload_n hX dX2_couldBe_41 rfl ?_
        refine j_aload_n hX dX2_couldBe_42 rfl ?_
        refine j_getR (k := 4) hX kX2 (by decide) fk_X2_15 (rf_45_4 hG) dX2_couldBe_43 (sh_45 hG) rfl ?_
        refine j_iload_n hX dX2_couldBe_46 rfl ?_
        obtain ⟨hg, hf⟩ := gd hf
        refine j_iald hX (sh_47 hG) hg dX2_couldBe_47 ?_
        refine j_icmp_ge (tgt := 53) hX dX2_couldBe_48 (by decide) (fun hc => ?_) (fun hc => ?_)
        · have hf := ifp hc hf
          refine j_iinc hX dX2_couldBe_53 rfl (congrArg (_ + ·) ic_1) (by decide) rfl ?_
          refine j_goto (tgt := 16) hX dX2_couldBe_56 (by decide) ?_
          exact aJx (ih _ _ _ _ hG  hf) (And.intro rfl (And.intro rfl (And.intro rfl (And.intro rfl (rfl)))))
        · have hf := ifn hc hf
          refine j_iconst hX dX2_couldBe_51 ic_0 ?_
          cases hf
          exact j_ret hX hr hlk rfl dX2_couldBe_52
def fX2_couldBe (a1 : Int32) (i : Nat → Nat → Int32) (rv : Nat → Nat → Option Nat) : Option ((Int32) × (Nat → Nat → Int32)) := bn2 (fX3_pass 19 a1 0 i rv) fun v1 i2 =>
    fX2_couldBe_16 fuel a1 v1 0 i2 rv
theorem kX2_couldBe  {vR : Int32} {iR : Nat → Nat → Int32} (hX : aX p s m args c RX2 cX2_couldBe 4 D cA A ad0) (hr : meth.sig.returnType = (some .boolean)) (hlk : meth.locks = false) (hRf : 5 ≤ R.frames) (hRl : 64 * 5 ≤ R.locals) {a1 : Int32} (hG : aGood sh rv) (hf : fX2_couldBe a1 i rv = some (vR, iR)) : aJ p l e R s m args below meth c (MQ below (aPost D cA ad0 A (sh, i0, lo0, rv0) (some (.int vR)) (sh, iR, lo, rv)) args s (sh.length - sh.length) (aSn sh - aSn sh) A) D cA A ad0 4 sh.length (aSn sh) 0 [some (.ref (100 + 45)), some (.int a1), none, none] [] (sh, i, lo, rv) := by
  unfold fX2_couldBe at hf
  refine j_aload_n hX dX2_couldBe_0 rfl ?_
  refine j_getR (k := 1) hX kX2 (by decide) fk_X2_29 (rf_45_1 hG) dX2_couldBe_1 (sh_45 hG) rfl ?_
  refine j_aload_n hX dX2_couldBe_4 rfl ?_
  refine j_getR (k := 2) hX kX2 (by decide) fk_X2_33 (rf_45_2 hG) dX2_couldBe_5 (sh_45 hG) rfl ?_
  refine j_iload_n hX dX2_couldBe_8 rfl ?_
  refine jpc (b := 9) rfl ?_
  refine j_iconst hX dX2_couldBe_9 ic_0 ?_
  obtain ⟨v1, i2, hh3, hf⟩ := bd2 hf
  refine j_cV3i hX lk_X2_59 kX3 dX2_couldBe_10 (sh_23 hG) (okX3_pass hG (sc_19 hG) hh3) rfl rfl (rmm (by omega) hRf hRl (by decide)) (Nat.le_of_ble_eq_true rfl) (Nat.le_add_right _ _) (Nat.le_add_right _ _) ?_
  refine j_istore_n hX dX2_couldBe_13 (by decide) rfl ?_
  refine j_iconst hX dX2_couldBe_14 ic_0 ?_
  refine j_istore_n hX dX2_couldBe_15 (by decide) rfl ?_
  exact aJx (kX2_couldBe_16 hX hr hlk hRf hRl fuel _ _ _ _ hG  hf) (And.intro rfl (And.intro rfl (And.intro rfl (And.intro rfl (rfl)))))
theorem okX2_couldBe {l : Launch} {sh : List aSh} {i : Nat → Nat → Int32} {lo : Nat → Nat → Int64} {rv : Nat → Nat → Option Nat}  {a1 : Int32} {vR : Int32} {iR : Nat → Nat → Int32} (hG : aGood sh rv) (hf : fX2_couldBe a1 i rv = some (vR, iR)) : aM l yX2_couldBe cX2_couldBe 4 (some .boolean) 5 [.ref (100 + 45), .int a1] (sh, i, lo, rv) (some (.int vR)) (sh, iR, lo, rv) :=
  aM_of (by decide) (Nat.le_of_ble_eq_true rfl) (Nat.le_refl _) (Nat.le_refl _) (fun p e s m args below meth c D cA A ad0 hX hr hlk hnm => kX2_couldBe hX hr hlk (Nat.le_refl _) (Nat.le_refl _) hG hf)
def fX2_chanceOf_45 (kh14 : Int32 → Int32 → Int32 → (Nat → Nat → Int32) → (Nat → Nat → Option Nat) → Option ((Int32) × (Nat → Nat → Int32))) (x1 : Int32) (x2 : Int32) (x3 : Int32) (i : Nat → Nat → Int32) (rv : Nat → Nat → Option Nat) : Option ((Int32) × (Nat → Nat → Int32)) := kh14 x1 x2 (x3 + 1) i rv
theorem kX2_chanceOf_45  {vR : Int32} {iR : Nat → Nat → Int32} (hX : aX p s m args c RX2 cX2_chanceOf 4 D cA A ad0) (hr : meth.sig.returnType = (some .int)) (hlk : meth.locks = false) (hRf : 6 ≤ R.frames) (hRl : 64 * 6 ≤ R.locals) {kh14 : Int32 → Int32 → Int32 → (Nat → Nat → Int32) → (Nat → Nat → Option Nat) → Option ((Int32) × (Nat → Nat → Int32))} (Hkh14 : ∀ (x1 : Int32) (x2 : Int32) (x3 : Int32) (i : Nat → Nat → Int32), aGood sh rv → kh14 x1 x2 x3 i rv = some (vR, iR) → aJ p l e R s m args below meth c (MQ below (aPost D cA ad0 A (sh, i0, lo0, rv0) (some (.int vR)) (sh, iR, lo, rv)) args s (sh.length - sh.length) (aSn sh - aSn sh) A) D cA A ad0 4 sh.length (aSn sh) 14 [some (.ref (100 + 45)), some (.int x1), some (.int x2), some (.int x3)] [] (sh, i, lo, rv)) {x1 : Int32} {x2 : Int32} {x3 : Int32} (hG : aGood sh rv) (hf : fX2_chanceOf_45 kh14 x1 x2 x3 i rv = some (vR, iR)) : aJ p l e R s m args below meth c (MQ below (aPost D cA ad0 A (sh, i0, lo0, rv0) (some (.int vR)) (sh, iR, lo, rv)) args s (sh.length - sh.length) (aSn sh - aSn sh) A) D cA A ad0 4 sh.length (aSn sh) 45 [some (.ref (100 + 45)), some (.int x1), some (.int x2), some (.int x3)] [] (sh, i, lo, rv) := by
  unfold fX2_chanceOf_45 at hf
  refine j_iinc hX dX2_chanceOf_45 rfl (congrArg (_ + ·) ic_1) (by decide) rfl ?_
  refine j_goto (tgt := 14) hX dX2_chanceOf_48 (by decide) ?_
  exact aJx (Hkh14 _ _ _ _ hG  hf) (And.intro rfl (And.intro rfl (And.intro rfl (And.intro rfl (rfl)))))
def fX2_chanceOf_14 : Nat → Int32 → Int32 → Int32 → (Nat → Nat → Int32) → (Nat → Nat → Option Nat) → Option ((Int32) × (Nat → Nat → Int32))
  | 0, _, _, _, _, _ => none
  | n + 1, x1, x2, x3, i, rv => bn1 (fX1_officers 15 i) fun v4 =>
    if v4 ≤ x3 then (if x2 = 0 then (some (0, i)) else (bn1 (fX1_ofOfficer 15 x1 0 i) fun v6 =>
    if x2 = 0 then none else
    some ((((1000000 : Int32) * v6) / x2), i))) else (bn2 (fX2_couldBe x3 i rv) fun v8 i9 =>
    if v8 = 0 then (fX2_chanceOf_45 (fX2_chanceOf_14 n) x1 x2 x3 i9 rv) else (bn1 (fX1_ofOfficer 15 x3 0 i9) fun v11 =>
    fX2_chanceOf_45 (fX2_chanceOf_14 n) x1 (x2 + v11) x3 i9 rv))
theorem kX2_chanceOf_14  {vR : Int32} {iR : Nat → Nat → Int32} (hX : aX p s m args c RX2 cX2_chanceOf 4 D cA A ad0) (hr : meth.sig.returnType = (some .int)) (hlk : meth.locks = false) (hRf : 6 ≤ R.frames) (hRl : 64 * 6 ≤ R.locals) : ∀ (n : Nat) (x1 : Int32) (x2 : Int32) (x3 : Int32) (i : Nat → Nat → Int32), aGood sh rv → fX2_chanceOf_14 n x1 x2 x3 i rv = some (vR, iR) → aJ p l e R s m args below meth c (MQ below (aPost D cA ad0 A (sh, i0, lo0, rv0) (some (.int vR)) (sh, iR, lo, rv)) args s (sh.length - sh.length) (aSn sh - aSn sh) A) D cA A ad0 4 sh.length (aSn sh) 14 [some (.ref (100 + 45)), some (.int x1), some (.int x2), some (.int x3)] [] (sh, i, lo, rv) := by
  intro n
  induction n with
  | zero => intros; rename_i hf; cases hf
  | succ n ih =>
    intro x1 x2 x3 i hG hf
    rw [fX2_chanceOf_14] at hf
    refine j_iload_n hX dX2_chanceOf_14 rfl ?_
    refine j_aload_n hX dX2_chanceOf_15 rfl ?_
    refine j_getR (k := 0) hX kX2 (by decide) fk_X2_25 (rf_45_0 hG) dX2_chanceOf_16 (sh_45 hG) rfl ?_
    obtain ⟨v4, hh5, hf⟩ := bd1 hf
    refine j_cV0i hX lk_X2_48 kX1 dX2_chanceOf_19 (sh_15 hG) (okX1_officers hG (cr_15 hG) hh5) rfl rfl (rmm (by omega) hRf hRl (by decide)) (Nat.le_of_ble_eq_true rfl) (Nat.le_add_right _ _) (Nat.le_add_right _ _) ?_
    refine j_icmp_ge (tgt := 51) hX dX2_chanceOf_22 (by decide) (fun hc => ?_) (fun hc => ?_)
    · have hf := ifp hc hf
      refine j_iload_n hX dX2_chanceOf_51 rfl ?_
      refine j_if_ne (tgt := 59) hX dX2_chanceOf_52 (by decide) (fun hc => ?_) (fun hc => ?_)
      · have hf := ifn hc hf
        refine j_ldc hX kc_X2_58 dX2_chanceOf_59 ?_
        refine j_aload_n hX dX2_chanceOf_61 rfl ?_
        refine j_getR (k := 0) hX kX2 (by decide) fk_X2_25 (rf_45_0 hG) dX2_chanceOf_62 (sh_45 hG) rfl ?_
        refine j_iload_n hX dX2_chanceOf_65 rfl ?_
        refine j_iconst hX dX2_chanceOf_66 ic_0 ?_
        refine jpc (b := 67) rfl ?_
        obtain ⟨v6, hh7, hf⟩ := bd1 hf
        refine j_cV2i hX lk_X2_54 kX1 dX2_chanceOf_67 (sh_15 hG) (okX1_ofOfficer hG (cr_15 hG) hh7) rfl rfl (rmm (by omega) hRf hRl (by decide)) (Nat.le_of_ble_eq_true rfl) (Nat.le_add_right _ _) (Nat.le_add_right _ _) ?_
        refine j_imul hX dX2_chanceOf_70 ?_
        refine j_iload_n hX dX2_chanceOf_71 rfl ?_
        obtain ⟨hz, hf⟩ := gdn hf
        refine j_idiv hX dX2_chanceOf_72 hz ?_
        cases hf
        exact j_ret hX hr hlk rfl dX2_chanceOf_73
      · have hf := ifp hc hf
        refine j_iconst hX dX2_chanceOf_55 ic_0 ?_
        refine j_goto (tgt := 73) hX dX2_chanceOf_56 (by decide) ?_
        cases hf
        exact j_ret hX hr hlk rfl dX2_chanceOf_73
    · have hf := ifn hc hf
      refine j_aload_n hX dX2_chanceOf_25 rfl ?_
      refine j_iload_n hX dX2_chanceOf_26 rfl ?_
      obtain ⟨v8, i9, hh10, hf⟩ := bd2 hf
      refine j_cV1i hX lk_X2_44 kX2 dX2_chanceOf_27 (sh_45 hG) (okX2_couldBe hG hh10) rfl rfl (rmm (by omega) hRf hRl (by decide)) (Nat.le_of_ble_eq_true rfl) (Nat.le_add_right _ _) (Nat.le_add_right _ _) ?_
      refine j_if_eq (tgt := 45) hX dX2_chanceOf_30 (by decide) (fun hc => ?_) (fun hc => ?_)
      · have hf := ifp hc hf
        exact aJx (kX2_chanceOf_45 hX hr hlk hRf hRl ih hG  hf) (And.intro rfl (And.intro rfl (And.intro rfl (And.intro rfl (rfl)))))
      · have hf := ifn hc hf
        refine j_iload_n hX dX2_chanceOf_33 rfl ?_
        refine j_aload_n hX dX2_chanceOf_34 rfl ?_
        refine j_getR (k := 0) hX kX2 (by decide) fk_X2_25 (rf_45_0 hG) dX2_chanceOf_35 (sh_45 hG) rfl ?_
        refine j_iload_n hX dX2_chanceOf_38 rfl ?_
        refine j_iconst hX dX2_chanceOf_39 ic_0 ?_
        refine jpc (b := 40) rfl ?_
        obtain ⟨v11, hh12, hf⟩ := bd1 hf
        refine j_cV2i hX lk_X2_54 kX1 dX2_chanceOf_40 (sh_15 hG) (okX1_ofOfficer hG (cr_15 hG) hh12) rfl rfl (rmm (by omega) hRf hRl (by decide)) (Nat.le_of_ble_eq_true rfl) (Nat.le_add_right _ _) (Nat.le_add_right _ _) ?_
        refine j_iadd hX dX2_chanceOf_43 ?_
        refine j_istore_n hX dX2_chanceOf_44 (by decide) rfl ?_
        exact aJx (kX2_chanceOf_45 hX hr hlk hRf hRl ih hG  hf) (And.intro rfl (And.intro rfl (And.intro rfl (And.intro rfl (rfl)))))
def fX2_chanceOf (a1 : Int32) (i : Nat → Nat → Int32) (rv : Nat → Nat → Option Nat) : Option ((Int32) × (Nat → Nat → Int32)) := bn2 (fX2_couldBe a1 i rv) fun v1 i2 =>
    if v1 = 0 then (some (0, i2)) else (fX2_chanceOf_14 fuel a1 0 0 i2 rv)
theorem kX2_chanceOf  {vR : Int32} {iR : Nat → Nat → Int32} (hX : aX p s m args c RX2 cX2_chanceOf 4 D cA A ad0) (hr : meth.sig.returnType = (some .int)) (hlk : meth.locks = false) (hRf : 6 ≤ R.frames) (hRl : 64 * 6 ≤ R.locals) {a1 : Int32} (hG : aGood sh rv) (hf : fX2_chanceOf a1 i rv = some (vR, iR)) : aJ p l e R s m args below meth c (MQ below (aPost D cA ad0 A (sh, i0, lo0, rv0) (some (.int vR)) (sh, iR, lo, rv)) args s (sh.length - sh.length) (aSn sh - aSn sh) A) D cA A ad0 4 sh.length (aSn sh) 0 [some (.ref (100 + 45)), some (.int a1), none, none] [] (sh, i, lo, rv) := by
  unfold fX2_chanceOf at hf
  refine j_aload_n hX dX2_chanceOf_0 rfl ?_
  refine j_iload_n hX dX2_chanceOf_1 rfl ?_
  obtain ⟨v1, i2, hh3, hf⟩ := bd2 hf
  refine j_cV1i hX lk_X2_44 kX2 dX2_chanceOf_2 (sh_45 hG) (okX2_couldBe hG hh3) rfl rfl (rmm (by omega) hRf hRl (by decide)) (Nat.le_of_ble_eq_true rfl) (Nat.le_add_right _ _) (Nat.le_add_right _ _) ?_
  refine j_if_ne (tgt := 10) hX dX2_chanceOf_5 (by decide) (fun hc => ?_) (fun hc => ?_)
  · have hf := ifn hc hf
    refine j_iconst hX dX2_chanceOf_10 ic_0 ?_
    refine j_istore_n hX dX2_chanceOf_11 (by decide) rfl ?_
    refine j_iconst hX dX2_chanceOf_12 ic_0 ?_
    refine j_istore_n hX dX2_chanceOf_13 (by decide) rfl ?_
    exact aJx (kX2_chanceOf_14 hX hr hlk hRf hRl fuel _ _ _ _ hG  hf) (And.intro rfl (And.intro rfl (And.intro rfl (And.intro rfl (rfl)))))
  · have hf := ifp hc hf
    refine j_iconst hX dX2_chanceOf_8 ic_0 ?_
    cases hf
    exact j_ret hX hr hlk rfl dX2_chanceOf_9
theorem okX2_chanceOf {l : Launch} {sh : List aSh} {i : Nat → Nat → Int32} {lo : Nat → Nat → Int64} {rv : Nat → Nat → Option Nat}  {a1 : Int32} {vR : Int32} {iR : Nat → Nat → Int32} (hG : aGood sh rv) (hf : fX2_chanceOf a1 i rv = some (vR, iR)) : aM l yX2_chanceOf cX2_chanceOf 4 (some .int) 6 [.ref (100 + 45), .int a1] (sh, i, lo, rv) (some (.int vR)) (sh, iR, lo, rv) :=
  aM_of (by decide) (Nat.le_of_ble_eq_true rfl) (Nat.le_refl _) (Nat.le_refl _) (fun p e s m args below meth c D cA A ad0 hX hr hlk hnm => kX2_chanceOf hX hr hlk (Nat.le_refl _) (Nat.le_refl _) hG hf)
def fX11_tonight (a1 : Int32) (i : Nat → Nat → Int32) (rv : Nat → Nat → Option Nat) : Option ((Int32) × (Nat → Nat → Int32)) := bn1 (fX1_hasOfficer 15 a1 i) fun v1 =>
    if v1 = 0 then (some ((-1), i)) else (bn2 (fX2_chanceOf a1 i rv) fun v3 i4 =>
    some (v3, i4))
theorem kX11_tonight  {vR : Int32} {iR : Nat → Nat → Int32} (hX : aX p s m args c RX11 cX11_tonight 2 D cA A ad0) (hr : meth.sig.returnType = (some .int)) (hlk : meth.locks = false) (hRf : 7 ≤ R.frames) (hRl : 64 * 7 ≤ R.locals) {a1 : Int32} (hG : aGood sh rv) (hf : fX11_tonight a1 i rv = some (vR, iR)) : aJ p l e R s m args below meth c (MQ below (aPost D cA ad0 A (sh, i0, lo0, rv0) (some (.int vR)) (sh, iR, lo, rv)) args s (sh.length - sh.length) (aSn sh - aSn sh) A) D cA A ad0 2 sh.length (aSn sh) 0 [some (.ref (100 + 0)), some (.int a1)] [] (sh, i, lo, rv) := by
  unfold fX11_tonight at hf
  refine j_aload_n hX dX11_tonight_0 rfl ?_
  refine j_getR (k := 3) hX kX11 (by decide) fk_X11_30 (rf_0_3 hG) dX11_tonight_1 (sh_0 hG) rfl ?_
  refine j_iload_n hX dX11_tonight_4 rfl ?_
  obtain ⟨v1, hh2, hf⟩ := bd1 hf
  refine j_cV1i hX lk_X11_162 kX1 dX11_tonight_5 (sh_15 hG) (okX1_hasOfficer hG (cr_15 hG) hh2) rfl rfl (rmm (by omega) hRf hRl (by decide)) (Nat.le_of_ble_eq_true rfl) (Nat.le_add_right _ _) (Nat.le_add_right _ _) ?_
  refine j_if_eq (tgt := 22) hX dX11_tonight_8 (by decide) (fun hc => ?_) (fun hc => ?_)
  · have hf := ifp hc hf
    refine j_iconst hX dX11_tonight_22 ic_m1 ?_
    cases hf
    exact j_ret hX hr hlk rfl dX11_tonight_23
  · have hf := ifn hc hf
    refine j_aload_n hX dX11_tonight_11 rfl ?_
    refine j_getR (k := 10) hX kX11 (by decide) fk_X11_78 (rf_0_10 hG) dX11_tonight_12 (sh_0 hG) rfl ?_
    refine j_iload_n hX dX11_tonight_15 rfl ?_
    obtain ⟨v3, i4, hh5, hf⟩ := bd2 hf
    refine j_cV1i hX lk_X11_262 kX2 dX11_tonight_16 (sh_45 hG) (okX2_chanceOf hG hh5) rfl rfl (rmm (by omega) hRf hRl (by decide)) (Nat.le_of_ble_eq_true rfl) (Nat.le_add_right _ _) (Nat.le_add_right _ _) ?_
    refine j_goto (tgt := 23) hX dX11_tonight_19 (by decide) ?_
    refine jpc (b := 23) rfl ?_
    cases hf
    exact j_ret hX hr hlk rfl dX11_tonight_23
theorem okX11_tonight {l : Launch} {sh : List aSh} {i : Nat → Nat → Int32} {lo : Nat → Nat → Int64} {rv : Nat → Nat → Option Nat}  {a1 : Int32} {vR : Int32} {iR : Nat → Nat → Int32} (hG : aGood sh rv) (hf : fX11_tonight a1 i rv = some (vR, iR)) : aM l yX11_tonight cX11_tonight 2 (some .int) 7 [.ref (100 + 0), .int a1] (sh, i, lo, rv) (some (.int vR)) (sh, iR, lo, rv) :=
  aM_of (by decide) (Nat.le_of_ble_eq_true rfl) (Nat.le_refl _) (Nat.le_refl _) (fun p e s m args below meth c D cA A ad0 hX hr hlk hnm => kX11_tonight hX hr hlk (Nat.le_refl _) (Nat.le_refl _) hG hf)
def fX2_addHeard (a1 : Int32) (a2 : Int32) (i : Nat → Nat → Int32) : Option ((Int32) × (Nat → Nat → Int32)) := if (i 45 7) = 8 then (some ((-1), i)) else (if aIn (i 45 7) 8 = true then
    (lt (u2 i 46 ((i 45 7) : Int32).toNatClampNeg (vp_nar .boolean a1)) fun i1 => if aIn (i1 45 7) 8 = true then
    (lt (u2 i1 47 ((i1 45 7) : Int32).toNatClampNeg a2) fun i2 => lt (u2 i2 45 7 ((i2 45 7) + (1 : Int32))) fun i3 =>
    some ((i3 45 7), i3)) else none) else none)
theorem kX2_addHeard  {vR : Int32} {iR : Nat → Nat → Int32} (hX : aX p s m args c RX2 cX2_addHeard 3 D cA A ad0) (hr : meth.sig.returnType = (some .int)) (hlk : meth.locks = false) (hRf : 0 ≤ R.frames) (hRl : 64 * 0 ≤ R.locals) {a1 : Int32} {a2 : Int32} (hG : aGood sh rv) (hf : fX2_addHeard a1 a2 i = some (vR, iR)) : aJ p l e R s m args below meth c (MQ below (aPost D cA ad0 A (sh, i0, lo0, rv0) (some (.int vR)) (sh, iR, lo, rv)) args s (sh.length - sh.length) (aSn sh - aSn sh) A) D cA A ad0 3 sh.length (aSn sh) 0 [some (.ref (100 + 45)), some (.int a1), some (.int a2)] [] (sh, i, lo, rv) := by
  unfold fX2_addHeard at hf
  refine j_aload_n hX dX2_addHeard_0 rfl ?_
  refine j_getI (k := 7) hX kX2 (by decide) fk_X2_37 dX2_addHeard_1 (sh_45 hG) rfl ?_
  refine j_bipush hX dX2_addHeard_4 bp_8 ?_
  refine j_icmp_ne (tgt := 11) hX dX2_addHeard_6 (by decide) (fun hc => ?_) (fun hc => ?_)
  · have hf := ifn hc hf
    refine j_aload_n hX dX2_addHeard_11 rfl ?_
    refine j_getR (k := 3) hX kX2 (by decide) fk_X2_11 (rf_45_3 hG) dX2_addHeard_12 (sh_45 hG) rfl ?_
    refine j_aload_n hX dX2_addHeard_15 rfl ?_
    refine j_getI (k := 7) hX kX2 (by decide) fk_X2_37 dX2_addHeard_16 (sh_45 hG) rfl ?_
    refine j_iload_n hX dX2_addHeard_19 rfl ?_
    refine jpc (b := 20) rfl ?_
    obtain ⟨hg, hf⟩ := gd hf
    have hf := ltd hf
    refine j_zast hX (sh_46 hG) hg dX2_addHeard_20 ?_
    refine j_aload_n hX dX2_addHeard_21 rfl ?_
    refine j_getR (k := 4) hX kX2 (by decide) fk_X2_15 (rf_45_4 hG) dX2_addHeard_22 (sh_45 hG) rfl ?_
    refine j_aload_n hX dX2_addHeard_25 rfl ?_
    refine j_getI (k := 7) hX kX2 (by decide) fk_X2_37 dX2_addHeard_26 (sh_45 hG) rfl ?_
    refine j_iload_n hX dX2_addHeard_29 rfl ?_
    refine jpc (b := 30) rfl ?_
    obtain ⟨hg, hf⟩ := gd hf
    have hf := ltd hf
    refine j_iast hX (sh_47 hG) hg dX2_addHeard_30 ?_
    refine j_aload_n hX dX2_addHeard_31 rfl ?_
    refine j_dup hX dX2_addHeard_32 rfl ?_
    refine j_getI (k := 7) hX kX2 (by decide) fk_X2_37 dX2_addHeard_33 (sh_45 hG) rfl ?_
    refine j_iconst hX dX2_addHeard_36 ic_1 ?_
    refine j_iadd hX dX2_addHeard_37 ?_
    refine jpc (b := 38) rfl ?_
    have hf := ltd hf
    refine j_putI (k := 7) hX kX2 (by decide) fk_X2_37 dX2_addHeard_38 (sh_45 hG) rfl rfl rfl rfl ?_
    refine j_aload_n hX dX2_addHeard_41 rfl ?_
    refine j_getI (k := 7) hX kX2 (by decide) fk_X2_37 dX2_addHeard_42 (sh_45 hG) rfl ?_
    cases hf
    exact j_ret hX hr hlk rfl dX2_addHeard_45
  · have hf := ifp hc hf
    refine j_iconst hX dX2_addHeard_9 ic_m1 ?_
    cases hf
    exact j_ret hX hr hlk rfl dX2_addHeard_10
theorem okX2_addHeard {l : Launch} {sh : List aSh} {i : Nat → Nat → Int32} {lo : Nat → Nat → Int64} {rv : Nat → Nat → Option Nat}  {a1 : Int32} {a2 : Int32} {vR : Int32} {iR : Nat → Nat → Int32} (hG : aGood sh rv) (hf : fX2_addHeard a1 a2 i = some (vR, iR)) : aM l yX2_addHeard cX2_addHeard 3 (some .int) 0 [.ref (100 + 45), .int a1, .int a2] (sh, i, lo, rv) (some (.int vR)) (sh, iR, lo, rv) :=
  aM_of (by decide) (Nat.le_of_ble_eq_true rfl) (Nat.le_refl _) (Nat.le_refl _) (fun p e s m args below meth c D cA A ad0 hX hr hlk hnm => kX2_addHeard hX hr hlk (Nat.le_refl _) (Nat.le_refl _) hG hf)
def fX11_hear (a1 : Int32) (a2 : Int32) (i : Nat → Nat → Int32) : Option ((Int32) × (Nat → Nat → Int32)) := bn1 (fX11_noCar i) fun v1 =>
    if v1 = 0 then (if a2 < 0 then (some ((-1), i)) else (if a2 ≤ 999 then (bn2 (fX2_addHeard a1 a2 i) fun v3 i4 =>
    some (v3, i4)) else (some ((-1), i)))) else (some ((-1), i))
theorem kX11_hear  {vR : Int32} {iR : Nat → Nat → Int32} (hX : aX p s m args c RX11 cX11_hear 3 D cA A ad0) (hr : meth.sig.returnType = (some .int)) (hlk : meth.locks = false) (hRf : 2 ≤ R.frames) (hRl : 64 * 2 ≤ R.locals) {a1 : Int32} {a2 : Int32} (hG : aGood sh rv) (hf : fX11_hear a1 a2 i = some (vR, iR)) : aJ p l e R s m args below meth c (MQ below (aPost D cA ad0 A (sh, i0, lo0, rv0) (some (.int vR)) (sh, iR, lo, rv)) args s (sh.length - sh.length) (aSn sh - aSn sh) A) D cA A ad0 3 sh.length (aSn sh) 0 [some (.ref (100 + 0)), some (.int a1), some (.int a2)] [] (sh, i, lo, rv) := by
  unfold fX11_hear at hf
  refine j_aload_n hX dX11_hear_0 rfl ?_
  obtain ⟨v1, hh2, hf⟩ := bd1 hf
  refine j_cV0i hX lk_X11_120 kX11 dX11_hear_1 (sh_0 hG) (okX11_noCar hG hh2) rfl rfl (rmm (by omega) hRf hRl (by decide)) (Nat.le_of_ble_eq_true rfl) (Nat.le_add_right _ _) (Nat.le_add_right _ _) ?_
  refine j_if_ne (tgt := 18) hX dX11_hear_4 (by decide) (fun hc => ?_) (fun hc => ?_)
  · have hf := ifn hc hf
    refine j_iconst hX dX11_hear_18 ic_m1 ?_
    cases hf
    exact j_ret hX hr hlk rfl dX11_hear_19
  · have hf := ifp hc hf
    refine j_iload_n hX dX11_hear_7 rfl ?_
    refine j_if_lt (tgt := 18) hX dX11_hear_8 (by decide) (fun hc => ?_) (fun hc => ?_)
    · have hf := ifp hc hf
      refine j_iconst hX dX11_hear_18 ic_m1 ?_
      cases hf
      exact j_ret hX hr hlk rfl dX11_hear_19
    · have hf := ifn hc hf
      refine j_iload_n hX dX11_hear_11 rfl ?_
      refine j_sipush hX dX11_hear_12 sp_999 ?_
      refine j_icmp_le (tgt := 20) hX dX11_hear_15 (by decide) (fun hc => ?_) (fun hc => ?_)
      · have hf := ifp hc hf
        refine j_aload_n hX dX11_hear_20 rfl ?_
        refine j_getR (k := 10) hX kX11 (by decide) fk_X11_78 (rf_0_10 hG) dX11_hear_21 (sh_0 hG) rfl ?_
        refine j_iload_n hX dX11_hear_24 rfl ?_
        refine j_iload_n hX dX11_hear_25 rfl ?_
        obtain ⟨v3, i4, hh5, hf⟩ := bd2 hf
        refine j_cV2i hX lk_X11_265 kX2 dX11_hear_26 (sh_45 hG) (okX2_addHeard hG hh5) rfl rfl (rmm (by omega) hRf hRl (by decide)) (Nat.le_of_ble_eq_true rfl) (Nat.le_add_right _ _) (Nat.le_add_right _ _) ?_
        refine jpc (b := 29) rfl ?_
        cases hf
        exact j_ret hX hr hlk rfl dX11_hear_29
      · have hf := ifn hc hf
        refine j_iconst hX dX11_hear_18 ic_m1 ?_
        cases hf
        exact j_ret hX hr hlk rfl dX11_hear_19
theorem okX11_hear {l : Launch} {sh : List aSh} {i : Nat → Nat → Int32} {lo : Nat → Nat → Int64} {rv : Nat → Nat → Option Nat}  {a1 : Int32} {a2 : Int32} {vR : Int32} {iR : Nat → Nat → Int32} (hG : aGood sh rv) (hf : fX11_hear a1 a2 i = some (vR, iR)) : aM l yX11_hear cX11_hear 3 (some .int) 2 [.ref (100 + 0), .int a1, .int a2] (sh, i, lo, rv) (some (.int vR)) (sh, iR, lo, rv) :=
  aM_of (by decide) (Nat.le_of_ble_eq_true rfl) (Nat.le_refl _) (Nat.le_refl _) (fun p e s m args below meth c D cA A ad0 hX hr hlk hnm => kX11_hear hX hr hlk (Nat.le_refl _) (Nat.le_refl _) hG hf)
def fX2_addLook (a1 : Int32) (a2 : Int32) (i : Nat → Nat → Int32) : Option ((Int32) × (Nat → Nat → Int32)) := if (i 45 8) = 10 then (some ((-1), i)) else (if aIn (i 45 8) 10 = true then
    (lt (u2 i 48 ((i 45 8) : Int32).toNatClampNeg a1) fun i1 => if aIn (i1 45 8) 10 = true then
    (lt (u2 i1 49 ((i1 45 8) : Int32).toNatClampNeg (vp_nar .boolean a2)) fun i2 => lt (u2 i2 45 8 ((i2 45 8) + (1 : Int32))) fun i3 =>
    some ((i3 45 8), i3)) else none) else none)
theorem kX2_addLook  {vR : Int32} {iR : Nat → Nat → Int32} (hX : aX p s m args c RX2 cX2_addLook 3 D cA A ad0) (hr : meth.sig.returnType = (some .int)) (hlk : meth.locks = false) (hRf : 0 ≤ R.frames) (hRl : 64 * 0 ≤ R.locals) {a1 : Int32} {a2 : Int32} (hG : aGood sh rv) (hf : fX2_addLook a1 a2 i = some (vR, iR)) : aJ p l e R s m args below meth c (MQ below (aPost D cA ad0 A (sh, i0, lo0, rv0) (some (.int vR)) (sh, iR, lo, rv)) args s (sh.length - sh.length) (aSn sh - aSn sh) A) D cA A ad0 3 sh.length (aSn sh) 0 [some (.ref (100 + 45)), some (.int a1), some (.int a2)] [] (sh, i, lo, rv) := by
  unfold fX2_addLook at hf
  refine j_aload_n hX dX2_addLook_0 rfl ?_
  refine j_getI (k := 8) hX kX2 (by decide) fk_X2_41 dX2_addLook_1 (sh_45 hG) rfl ?_
  refine j_bipush hX dX2_addLook_4 bp_10 ?_
  refine j_icmp_ne (tgt := 11) hX dX2_addLook_6 (by decide) (fun hc => ?_) (fun hc => ?_)
  · have hf := ifn hc hf
    refine j_aload_n hX dX2_addLook_11 rfl ?_
    refine j_getR (k := 5) hX kX2 (by decide) fk_X2_19 (rf_45_5 hG) dX2_addLook_12 (sh_45 hG) rfl ?_
    refine j_aload_n hX dX2_addLook_15 rfl ?_
    refine j_getI (k := 8) hX kX2 (by decide) fk_X2_41 dX2_addLook_16 (sh_45 hG) rfl ?_
    refine j_iload_n hX dX2_addLook_19 rfl ?_
    refine jpc (b := 20) rfl ?_
    obtain ⟨hg, hf⟩ := gd hf
    have hf := ltd hf
    refine j_iast hX (sh_48 hG) hg dX2_addLook_20 ?_
    refine j_aload_n hX dX2_addLook_21 rfl ?_
    refine j_getR (k := 6) hX kX2 (by decide) fk_X2_22 (rf_45_6 hG) dX2_addLook_22 (sh_45 hG) rfl ?_
    refine j_aload_n hX dX2_addLook_25 rfl ?_
    refine j_getI (k := 8) hX kX2 (by decide) fk_X2_41 dX2_addLook_26 (sh_45 hG) rfl ?_
    refine j_iload_n hX dX2_addLook_29 rfl ?_
    refine jpc (b := 30) rfl ?_
    obtain ⟨hg, hf⟩ := gd hf
    have hf := ltd hf
    refine j_zast hX (sh_49 hG) hg dX2_addLook_30 ?_
    refine j_aload_n hX dX2_addLook_31 rfl ?_
    refine j_dup hX dX2_addLook_32 rfl ?_
    refine j_getI (k := 8) hX kX2 (by decide) fk_X2_41 dX2_addLook_33 (sh_45 hG) rfl ?_
    refine j_iconst hX dX2_addLook_36 ic_1 ?_
    refine j_iadd hX dX2_addLook_37 ?_
    refine jpc (b := 38) rfl ?_
    have hf := ltd hf
    refine j_putI (k := 8) hX kX2 (by decide) fk_X2_41 dX2_addLook_38 (sh_45 hG) rfl rfl rfl rfl ?_
    refine j_aload_n hX dX2_addLook_41 rfl ?_
    refine j_getI (k := 8) hX kX2 (by decide) fk_X2_41 dX2_addLook_42 (sh_45 hG) rfl ?_
    cases hf
    exact j_ret hX hr hlk rfl dX2_addLook_45
  · have hf := ifp hc hf
    refine j_iconst hX dX2_addLook_9 ic_m1 ?_
    cases hf
    exact j_ret hX hr hlk rfl dX2_addLook_10
theorem okX2_addLook {l : Launch} {sh : List aSh} {i : Nat → Nat → Int32} {lo : Nat → Nat → Int64} {rv : Nat → Nat → Option Nat}  {a1 : Int32} {a2 : Int32} {vR : Int32} {iR : Nat → Nat → Int32} (hG : aGood sh rv) (hf : fX2_addLook a1 a2 i = some (vR, iR)) : aM l yX2_addLook cX2_addLook 3 (some .int) 0 [.ref (100 + 45), .int a1, .int a2] (sh, i, lo, rv) (some (.int vR)) (sh, iR, lo, rv) :=
  aM_of (by decide) (Nat.le_of_ble_eq_true rfl) (Nat.le_refl _) (Nat.le_refl _) (fun p e s m args below meth c D cA A ad0 hX hr hlk hnm => kX2_addLook hX hr hlk (Nat.le_refl _) (Nat.le_refl _) hG hf)
def fX11_lookAt (a1 : Int32) (a2 : Int32) (i : Nat → Nat → Int32) : Option ((Int32) × (Nat → Nat → Int32)) := bn1 (fX1_hasSleeper 15 a1 i) fun v1 =>
    if v1 = 0 then (some ((-1), i)) else (bn2 (fX2_addLook a1 a2 i) fun v3 i4 =>
    some (v3, i4))
theorem kX11_lookAt  {vR : Int32} {iR : Nat → Nat → Int32} (hX : aX p s m args c RX11 cX11_lookAt 3 D cA A ad0) (hr : meth.sig.returnType = (some .int)) (hlk : meth.locks = false) (hRf : 1 ≤ R.frames) (hRl : 64 * 1 ≤ R.locals) {a1 : Int32} {a2 : Int32} (hG : aGood sh rv) (hf : fX11_lookAt a1 a2 i = some (vR, iR)) : aJ p l e R s m args below meth c (MQ below (aPost D cA ad0 A (sh, i0, lo0, rv0) (some (.int vR)) (sh, iR, lo, rv)) args s (sh.length - sh.length) (aSn sh - aSn sh) A) D cA A ad0 3 sh.length (aSn sh) 0 [some (.ref (100 + 0)), some (.int a1), some (.int a2)] [] (sh, i, lo, rv) := by
  unfold fX11_lookAt at hf
  refine j_aload_n hX dX11_lookAt_0 rfl ?_
  refine j_getR (k := 3) hX kX11 (by decide) fk_X11_30 (rf_0_3 hG) dX11_lookAt_1 (sh_0 hG) rfl ?_
  refine j_iload_n hX dX11_lookAt_4 rfl ?_
  obtain ⟨v1, hh2, hf⟩ := bd1 hf
  refine j_cV1i hX lk_X11_130 kX1 dX11_lookAt_5 (sh_15 hG) (okX1_hasSleeper hG (cr_15 hG) hh2) rfl rfl (rmm (by omega) hRf hRl (by decide)) (Nat.le_of_ble_eq_true rfl) (Nat.le_add_right _ _) (Nat.le_add_right _ _) ?_
  refine j_if_eq (tgt := 23) hX dX11_lookAt_8 (by decide) (fun hc => ?_) (fun hc => ?_)
  · have hf := ifp hc hf
    refine j_iconst hX dX11_lookAt_23 ic_m1 ?_
    cases hf
    exact j_ret hX hr hlk rfl dX11_lookAt_24
  · have hf := ifn hc hf
    refine j_aload_n hX dX11_lookAt_11 rfl ?_
    refine j_getR (k := 10) hX kX11 (by decide) fk_X11_78 (rf_0_10 hG) dX11_lookAt_12 (sh_0 hG) rfl ?_
    refine j_iload_n hX dX11_lookAt_15 rfl ?_
    refine j_iload_n hX dX11_lookAt_16 rfl ?_
    obtain ⟨v3, i4, hh5, hf⟩ := bd2 hf
    refine j_cV2i hX lk_X11_269 kX2 dX11_lookAt_17 (sh_45 hG) (okX2_addLook hG hh5) rfl rfl (rmm (by omega) hRf hRl (by decide)) (Nat.le_of_ble_eq_true rfl) (Nat.le_add_right _ _) (Nat.le_add_right _ _) ?_
    refine jpc (b := 20) rfl ?_
    refine j_goto (tgt := 24) hX dX11_lookAt_20 (by decide) ?_
    cases hf
    exact j_ret hX hr hlk rfl dX11_lookAt_24
theorem okX11_lookAt {l : Launch} {sh : List aSh} {i : Nat → Nat → Int32} {lo : Nat → Nat → Int64} {rv : Nat → Nat → Option Nat}  {a1 : Int32} {a2 : Int32} {vR : Int32} {iR : Nat → Nat → Int32} (hG : aGood sh rv) (hf : fX11_lookAt a1 a2 i = some (vR, iR)) : aM l yX11_lookAt cX11_lookAt 3 (some .int) 1 [.ref (100 + 0), .int a1, .int a2] (sh, i, lo, rv) (some (.int vR)) (sh, iR, lo, rv) :=
  aM_of (by decide) (Nat.le_of_ble_eq_true rfl) (Nat.le_refl _) (Nat.le_refl _) (fun p e s m args below meth c D cA A ad0 hX hr hlk hnm => kX11_lookAt hX hr hlk (Nat.le_refl _) (Nat.le_refl _) hG hf)
def fX2_fits_63 (kh30 : Int32 → Int32 → Int32 → (Nat → Nat → Int32) → Option ((Int32))) (x1 : Int32) (x2 : Int32) (x3 : Int32) (s0 : Int32) (i : Nat → Nat → Int32) : Option ((Int32)) := if aIn x3 10 = true then
    (if s0 = (i 49 (x3 : Int32).toNatClampNeg) then (kh30 x1 x2 (x3 + 1) i) else (some (0))) else none
theorem kX2_fits_63  {vR : Int32} (hX : aX p s m args c RX2 cX2_fits 5 D cA A ad0) (hr : meth.sig.returnType = (some .boolean)) (hlk : meth.locks = false) (hRf : 1 ≤ R.frames) (hRl : 64 * 1 ≤ R.locals) {kh30 : Int32 → Int32 → Int32 → (Nat → Nat → Int32) → Option ((Int32))} (Hkh30 : ∀ (x1 : Int32) (x2 : Int32) (x3 : Int32), aGood sh rv → kh30 x1 x2 x3 i = some (vR) → aJ p l e R s m args below meth c (MQ below (aPost D cA ad0 A (sh, i0, lo0, rv0) (some (.int vR)) (sh, i, lo, rv)) args s (sh.length - sh.length) (aSn sh - aSn sh) A) D cA A ad0 5 sh.length (aSn sh) 30 [some (.ref (100 + 45)), some (.int x1), some (.int x2), some (.int x3), none] [] (sh, i, lo, rv)) {x1 : Int32} {x2 : Int32} {x3 : Int32} {s0 : Int32} (hG : aGood sh rv) (hf : fX2_fits_63 kh30 x1 x2 x3 s0 i = some (vR)) : aJ p l e R s m args below meth c (MQ below (aPost D cA ad0 A (sh, i0, lo0, rv0) (some (.int vR)) (sh, i, lo, rv)) args s (sh.length - sh.length) (aSn sh - aSn sh) A) D cA A ad0 5 sh.length (aSn sh) 63 [some (.ref (100 + 45)), some (.int x1), some (.int x2), some (.int x3), none] [.int s0] (sh, i, lo, rv) := by
  unfold fX2_fits_63 at hf
  refine j_istore hX dX2_fits_63 (by decide) rfl ?_
  refine j_iload hX dX2_fits_65 rfl ?_
  refine j_aload_n hX dX2_fits_67 rfl ?_
  refine j_getR (k := 6) hX kX2 (by decide) fk_X2_22 (rf_45_6 hG) dX2_fits_68 (sh_45 hG) rfl ?_
  refine j_iload_n hX dX2_fits_71 rfl ?_
  refine jpc (b := 72) rfl ?_
  obtain ⟨hg, hf⟩ := gd hf
  refine j_zald hX (sh_49 hG) hg dX2_fits_72 ?_
  refine j_icmp_eq (tgt := 78) hX dX2_fits_73 (by decide) (fun hc => ?_) (fun hc => ?_)
  · have hf := ifp hc hf
    refine j_iinc hX dX2_fits_78 rfl (congrArg (_ + ·) ic_1) (by decide) rfl ?_
    refine j_goto (tgt := 30) hX dX2_fits_81 (by decide) ?_
    exact aJx (Hkh30 _ _ _ hG  hf) (And.intro rfl (And.intro rfl (And.intro rfl (And.intro rfl (rfl)))))
  · have hf := ifn hc hf
    refine j_iconst hX dX2_fits_76 ic_0 ?_
    cases hf
    exact j_ret hX hr hlk rfl dX2_fits_77
def fX2_fits_62 (kh30 : Int32 → Int32 → Int32 → (Nat → Nat → Int32) → Option ((Int32))) (x1 : Int32) (x2 : Int32) (x3 : Int32) (i : Nat → Nat → Int32) : Option ((Int32)) := fX2_fits_63 kh30 x1 x2 x3 0 i
theorem kX2_fits_62  {vR : Int32} (hX : aX p s m args c RX2 cX2_fits 5 D cA A ad0) (hr : meth.sig.returnType = (some .boolean)) (hlk : meth.locks = false) (hRf : 1 ≤ R.frames) (hRl : 64 * 1 ≤ R.locals) {kh30 : Int32 → Int32 → Int32 → (Nat → Nat → Int32) → Option ((Int32))} (Hkh30 : ∀ (x1 : Int32) (x2 : Int32) (x3 : Int32), aGood sh rv → kh30 x1 x2 x3 i = some (vR) → aJ p l e R s m args below meth c (MQ below (aPost D cA ad0 A (sh, i0, lo0, rv0) (some (.int vR)) (sh, i, lo, rv)) args s (sh.length - sh.length) (aSn sh - aSn sh) A) D cA A ad0 5 sh.length (aSn sh) 30 [some (.ref (100 + 45)), some (.int x1), some (.int x2), some (.int x3), none] [] (sh, i, lo, rv)) {x1 : Int32} {x2 : Int32} {x3 : Int32} (hG : aGood sh rv) (hf : fX2_fits_62 kh30 x1 x2 x3 i = some (vR)) : aJ p l e R s m args below meth c (MQ below (aPost D cA ad0 A (sh, i0, lo0, rv0) (some (.int vR)) (sh, i, lo, rv)) args s (sh.length - sh.length) (aSn sh - aSn sh) A) D cA A ad0 5 sh.length (aSn sh) 62 [some (.ref (100 + 45)), some (.int x1), some (.int x2), some (.int x3), none] [] (sh, i, lo, rv) := by
  unfold fX2_fits_62 at hf
  refine j_iconst hX dX2_fits_62 ic_0 ?_
  exact aJx (kX2_fits_63 hX hr hlk hRf hRl Hkh30 hG  hf) (And.intro rfl (And.intro rfl (And.intro rfl (And.intro rfl (rfl)))))
def fX2_fits_30 : Nat → Int32 → Int32 → Int32 → (Nat → Nat → Int32) → Option ((Int32))
  | 0, _, _, _, _ => none
  | n + 1, x1, x2, x3, i => if (i 45 8) ≤ x3 then (some (1)) else (if aIn x3 10 = true then
    (if (i 48 (x3 : Int32).toNatClampNeg) = x1 then (fX2_fits_62 (fX2_fits_30 n) x1 x2 x3 i) else (if aIn x3 10 = true then
    (if (i 48 (x3 : Int32).toNatClampNeg) = x2 then (fX2_fits_62 (fX2_fits_30 n) x1 x2 x3 i) else (fX2_fits_63 (fX2_fits_30 n) x1 x2 x3 1 i)) else none)) else none)
theorem kX2_fits_30  {vR : Int32} (hX : aX p s m args c RX2 cX2_fits 5 D cA A ad0) (hr : meth.sig.returnType = (some .boolean)) (hlk : meth.locks = false) (hRf : 1 ≤ R.frames) (hRl : 64 * 1 ≤ R.locals) : ∀ (n : Nat) (x1 : Int32) (x2 : Int32) (x3 : Int32), aGood sh rv → fX2_fits_30 n x1 x2 x3 i = some (vR) → aJ p l e R s m args below meth c (MQ below (aPost D cA ad0 A (sh, i0, lo0, rv0) (some (.int vR)) (sh, i, lo, rv)) args s (sh.length - sh.length) (aSn sh - aSn sh) A) D cA A ad0 5 sh.length (aSn sh) 30 [some (.ref (100 + 45)), some (.int x1), some (.int x2), some (.int x3), none] [] (sh, i, lo, rv) := by
  intro n
  induction n with
  | zero => intros; rename_i hf; cases hf
  | succ n ih =>
    intro x1 x2 x3 hG hf
    rw [fX2_fits_30] at hf
    refine j_iload_n hX dX2_fits_30 rfl ?_
    refine j_aload_n hX dX2_fits_31 rfl ?_
    refine j_getI (k := 8) hX kX2 (by decide) fk_X2_41 dX2_fits_32 (sh_45 hG) rfl ?_
    refine j_icmp_ge (tgt := 84) hX dX2_fits_35 (by decide) (fun hc => ?_) (fun hc => ?_)
    · have hf := ifp hc hf
      refine j_iconst hX dX2_fits_84 ic_1 ?_
      cases hf
      exact j_ret hX hr hlk rfl dX2_fits_85
    · have hf := ifn hc hf
      refine j_aload_n hX dX2_fits_38 rfl ?_
      refine j_getR (k := 5) hX kX2 (by decide) fk_X2_19 (rf_45_5 hG) dX2_fits_39 (sh_45 hG) rfl ?_
      refine j_iload_n hX dX2_fits_42 rfl ?_
      obtain ⟨hg, hf⟩ := gd hf
      refine j_iald hX (sh_48 hG) hg dX2_fits_43 ?_
      refine j_iload_n hX dX2_fits_44 rfl ?_
      refine j_icmp_eq (tgt := 62) hX dX2_fits_45 (by decide) (fun hc => ?_) (fun hc => ?_)
      · have hf := ifp hc hf
        exact aJx (kX2_fits_62 hX hr hlk hRf hRl ih hG  hf) (And.intro rfl (And.intro rfl (And.intro rfl (And.intro rfl (rfl)))))
      · have hf := ifn hc hf
        refine j_aload_n hX dX2_fits_48 rfl ?_
        refine j_getR (k := 5) hX kX2 (by decide) fk_X2_19 (rf_45_5 hG) dX2_fits_49 (sh_45 hG) rfl ?_
        refine j_iload_n hX dX2_fits_52 rfl ?_
        obtain ⟨hg, hf⟩ := gd hf
        refine j_iald hX (sh_48 hG) hg dX2_fits_53 ?_
        refine j_iload_n hX dX2_fits_54 rfl ?_
        refine j_icmp_eq (tgt := 62) hX dX2_fits_55 (by decide) (fun hc => ?_) (fun hc => ?_)
        · have hf := ifp hc hf
          exact aJx (kX2_fits_62 hX hr hlk hRf hRl ih hG  hf) (And.intro rfl (And.intro rfl (And.intro rfl (And.intro rfl (rfl)))))
        · have hf := ifn hc hf
          refine j_iconst hX dX2_fits_58 ic_1 ?_
          refine j_goto (tgt := 63) hX dX2_fits_59 (by decide) ?_
          exact aJx (kX2_fits_63 hX hr hlk hRf hRl ih hG  hf) (And.intro rfl (And.intro rfl (And.intro rfl (And.intro rfl (rfl)))))
def fX2_fits_28 (x1 : Int32) (x2 : Int32) (i : Nat → Nat → Int32) : Option ((Int32)) := fX2_fits_30 fuel x1 x2 0 i
theorem kX2_fits_28  {vR : Int32} (hX : aX p s m args c RX2 cX2_fits 5 D cA A ad0) (hr : meth.sig.returnType = (some .boolean)) (hlk : meth.locks = false) (hRf : 1 ≤ R.frames) (hRl : 64 * 1 ≤ R.locals) {x1 : Int32} {x2 : Int32} (hG : aGood sh rv) (hf : fX2_fits_28 x1 x2 i = some (vR)) : aJ p l e R s m args below meth c (MQ below (aPost D cA ad0 A (sh, i0, lo0, rv0) (some (.int vR)) (sh, i, lo, rv)) args s (sh.length - sh.length) (aSn sh - aSn sh) A) D cA A ad0 5 sh.length (aSn sh) 28 [some (.ref (100 + 45)), some (.int x1), some (.int x2), none, none] [] (sh, i, lo, rv) := by
  unfold fX2_fits_28 at hf
  refine j_iconst hX dX2_fits_28 ic_0 ?_
  refine j_istore_n hX dX2_fits_29 (by decide) rfl ?_
  exact aJx (kX2_fits_30 hX hr hlk hRf hRl fuel _ _ _ hG  hf) (And.intro rfl (And.intro rfl (And.intro rfl (And.intro rfl (rfl)))))
def fX2_fits (a1 : Int32) (a2 : Int32) (i : Nat → Nat → Int32) : Option ((Int32)) := if a1 = (-1) then (fX2_fits_28 a1 a2 i) else (bn1 (fX1_ofSleeper 15 a1 4 i) fun v1 =>
    bn1 (fX1_ofSleeper 15 a2 4 i) fun v3 =>
    if v1 = v3 then (some (0)) else (fX2_fits_28 a1 a2 i))
theorem kX2_fits  {vR : Int32} (hX : aX p s m args c RX2 cX2_fits 5 D cA A ad0) (hr : meth.sig.returnType = (some .boolean)) (hlk : meth.locks = false) (hRf : 1 ≤ R.frames) (hRl : 64 * 1 ≤ R.locals) {a1 : Int32} {a2 : Int32} (hG : aGood sh rv) (hf : fX2_fits a1 a2 i = some (vR)) : aJ p l e R s m args below meth c (MQ below (aPost D cA ad0 A (sh, i0, lo0, rv0) (some (.int vR)) (sh, i, lo, rv)) args s (sh.length - sh.length) (aSn sh - aSn sh) A) D cA A ad0 5 sh.length (aSn sh) 0 [some (.ref (100 + 45)), some (.int a1), some (.int a2), none, none] [] (sh, i, lo, rv) := by
  unfold fX2_fits at hf
  refine j_iload_n hX dX2_fits_0 rfl ?_
  refine j_iconst hX dX2_fits_1 ic_m1 ?_
  refine j_icmp_eq (tgt := 28) hX dX2_fits_2 (by decide) (fun hc => ?_) (fun hc => ?_)
  · have hf := ifp hc hf
    exact aJx (kX2_fits_28 hX hr hlk hRf hRl hG  hf) (And.intro rfl (And.intro rfl (And.intro rfl (rfl))))
  · have hf := ifn hc hf
    refine j_aload_n hX dX2_fits_5 rfl ?_
    refine j_getR (k := 0) hX kX2 (by decide) fk_X2_25 (rf_45_0 hG) dX2_fits_6 (sh_45 hG) rfl ?_
    refine j_iload_n hX dX2_fits_9 rfl ?_
    refine j_iconst hX dX2_fits_10 ic_4 ?_
    obtain ⟨v1, hh2, hf⟩ := bd1 hf
    refine j_cV2i hX lk_X2_75 kX1 dX2_fits_11 (sh_15 hG) (okX1_ofSleeper hG (cr_15 hG) hh2) rfl rfl (rmm (by omega) hRf hRl (by decide)) (Nat.le_of_ble_eq_true rfl) (Nat.le_add_right _ _) (Nat.le_add_right _ _) ?_
    refine jpc (b := 14) rfl ?_
    refine j_aload_n hX dX2_fits_14 rfl ?_
    refine j_getR (k := 0) hX kX2 (by decide) fk_X2_25 (rf_45_0 hG) dX2_fits_15 (sh_45 hG) rfl ?_
    refine j_iload_n hX dX2_fits_18 rfl ?_
    refine j_iconst hX dX2_fits_19 ic_4 ?_
    obtain ⟨v3, hh4, hf⟩ := bd1 hf
    refine j_cV2i hX lk_X2_75 kX1 dX2_fits_20 (sh_15 hG) (okX1_ofSleeper hG (cr_15 hG) hh4) rfl rfl (rmm (by omega) hRf hRl (by decide)) (Nat.le_of_ble_eq_true rfl) (Nat.le_add_right _ _) (Nat.le_add_right _ _) ?_
    refine j_icmp_ne (tgt := 28) hX dX2_fits_23 (by decide) (fun hc => ?_) (fun hc => ?_)
    · have hf := ifn hc hf
      exact aJx (kX2_fits_28 hX hr hlk hRf hRl hG  hf) (And.intro rfl (And.intro rfl (And.intro rfl (rfl))))
    · have hf := ifp hc hf
      refine j_iconst hX dX2_fits_26 ic_0 ?_
      cases hf
      exact j_ret hX hr hlk rfl dX2_fits_27
theorem okX2_fits {l : Launch} {sh : List aSh} {i : Nat → Nat → Int32} {lo : Nat → Nat → Int64} {rv : Nat → Nat → Option Nat}  {a1 : Int32} {a2 : Int32} {vR : Int32} (hG : aGood sh rv) (hf : fX2_fits a1 a2 i = some (vR)) : aM l yX2_fits cX2_fits 5 (some .boolean) 1 [.ref (100 + 45), .int a1, .int a2] (sh, i, lo, rv) (some (.int vR)) (sh, i, lo, rv) :=
  aM_of (by decide) (Nat.le_of_ble_eq_true rfl) (Nat.le_refl _) (Nat.le_refl _) (fun p e s m args below meth c D cA A ad0 hX hr hlk hnm => kX2_fits hX hr hlk (Nat.le_refl _) (Nat.le_refl _) hG hf)
def fX2_fitting_79 (kh22 : Int32 → Int32 → Int32 → (Nat → Nat → Int32) → Option ((Int32))) (kh38 : Int32 → Int32 → Int32 → Int32 → (Nat → Nat → Int32) → Option ((Int32))) (x1 : Int32) (x2 : Int32) (x3 : Int32) (x4 : Int32) (i : Nat → Nat → Int32) : Option ((Int32)) := kh38 x1 x2 x3 (x4 + 1) i
theorem kX2_fitting_79  {vR : Int32} (hX : aX p s m args c RX2 cX2_fitting 5 D cA A ad0) (hr : meth.sig.returnType = (some .int)) (hlk : meth.locks = false) (hRf : 2 ≤ R.frames) (hRl : 64 * 2 ≤ R.locals) {kh22 : Int32 → Int32 → Int32 → (Nat → Nat → Int32) → Option ((Int32))} {kh38 : Int32 → Int32 → Int32 → Int32 → (Nat → Nat → Int32) → Option ((Int32))} (Hkh22 : ∀ (x1 : Int32) (x2 : Int32) (x3 : Int32), aGood sh rv → kh22 x1 x2 x3 i = some (vR) → aJ p l e R s m args below meth c (MQ below (aPost D cA ad0 A (sh, i0, lo0, rv0) (some (.int vR)) (sh, i, lo, rv)) args s (sh.length - sh.length) (aSn sh - aSn sh) A) D cA A ad0 5 sh.length (aSn sh) 22 [some (.ref (100 + 45)), some (.int x1), some (.int x2), some (.int x3), none] [] (sh, i, lo, rv)) (Hkh38 : ∀ (x1 : Int32) (x2 : Int32) (x3 : Int32) (x4 : Int32), aGood sh rv → kh38 x1 x2 x3 x4 i = some (vR) → aJ p l e R s m args below meth c (MQ below (aPost D cA ad0 A (sh, i0, lo0, rv0) (some (.int vR)) (sh, i, lo, rv)) args s (sh.length - sh.length) (aSn sh - aSn sh) A) D cA A ad0 5 sh.length (aSn sh) 38 [some (.ref (100 + 45)), some (.int x1), some (.int x2), some (.int x3), some (.int x4)] [] (sh, i, lo, rv)) {x1 : Int32} {x2 : Int32} {x3 : Int32} {x4 : Int32} (hG : aGood sh rv) (hf : fX2_fitting_79 kh22 kh38 x1 x2 x3 x4 i = some (vR)) : aJ p l e R s m args below meth c (MQ below (aPost D cA ad0 A (sh, i0, lo0, rv0) (some (.int vR)) (sh, i, lo, rv)) args s (sh.length - sh.length) (aSn sh - aSn sh) A) D cA A ad0 5 sh.length (aSn sh) 79 [some (.ref (100 + 45)), some (.int x1), some (.int x2), some (.int x3), some (.int x4)] [] (sh, i, lo, rv) := by
  unfold fX2_fitting_79 at hf
  refine j_iinc hX dX2_fitting_79 rfl (congrArg (_ + ·) ic_1) (by decide) rfl ?_
  refine j_goto (tgt := 38) hX dX2_fitting_82 (by decide) ?_
  exact aJx (Hkh38 _ _ _ _ hG  hf) (And.intro rfl (And.intro rfl (And.intro rfl (And.intro rfl (And.intro rfl (rfl))))))
def fX2_fitting_38 (kh22 : Int32 → Int32 → Int32 → (Nat → Nat → Int32) → Option ((Int32))) : Nat → Int32 → Int32 → Int32 → Int32 → (Nat → Nat → Int32) → Option ((Int32))
  | 0, _, _, _, _, _ => none
  | n + 1, x1, x2, x3, x4, i => bn1 (fX1_sleepers 15 i) fun v5 =>
    if v5 ≤ x4 then (kh22 x1 x2 (x3 + 1) i) else (bn1 (fX2_fits x3 x4 i) fun v7 =>
    if v7 = 0 then (fX2_fitting_79 kh22 (fX2_fitting_38 kh22 n) x1 x2 x3 x4 i) else (if x2 = x1 then (some ((((101 : Int32) + ((10 : Int32) * x3)) + x4))) else (fX2_fitting_79 kh22 (fX2_fitting_38 kh22 n) x1 (x2 + 1) x3 x4 i)))
theorem kX2_fitting_38  {vR : Int32} (hX : aX p s m args c RX2 cX2_fitting 5 D cA A ad0) (hr : meth.sig.returnType = (some .int)) (hlk : meth.locks = false) (hRf : 2 ≤ R.frames) (hRl : 64 * 2 ≤ R.locals) {kh22 : Int32 → Int32 → Int32 → (Nat → Nat → Int32) → Option ((Int32))} (Hkh22 : ∀ (x1 : Int32) (x2 : Int32) (x3 : Int32), aGood sh rv → kh22 x1 x2 x3 i = some (vR) → aJ p l e R s m args below meth c (MQ below (aPost D cA ad0 A (sh, i0, lo0, rv0) (some (.int vR)) (sh, i, lo, rv)) args s (sh.length - sh.length) (aSn sh - aSn sh) A) D cA A ad0 5 sh.length (aSn sh) 22 [some (.ref (100 + 45)), some (.int x1), some (.int x2), some (.int x3), none] [] (sh, i, lo, rv)) : ∀ (n : Nat) (x1 : Int32) (x2 : Int32) (x3 : Int32) (x4 : Int32), aGood sh rv → fX2_fitting_38 kh22 n x1 x2 x3 x4 i = some (vR) → aJ p l e R s m args below meth c (MQ below (aPost D cA ad0 A (sh, i0, lo0, rv0) (some (.int vR)) (sh, i, lo, rv)) args s (sh.length - sh.length) (aSn sh - aSn sh) A) D cA A ad0 5 sh.length (aSn sh) 38 [some (.ref (100 + 45)), some (.int x1), some (.int x2), some (.int x3), some (.int x4)] [] (sh, i, lo, rv) := by
  intro n
  induction n with
  | zero => intros; rename_i hf; cases hf
  | succ n ih =>
    intro x1 x2 x3 x4 hG hf
    rw [fX2_fitting_38] at hf
    refine j_iload hX dX2_fitting_38 rfl ?_
    refine j_aload_n hX dX2_fitting_40 rfl ?_
    refine j_getR (k := 0) hX kX2 (by decide) fk_X2_25 (rf_45_0 hG) dX2_fitting_41 (sh_45 hG) rfl ?_
    obtain ⟨v5, hh6, hf⟩ := bd1 hf
    refine j_cV0i hX lk_X2_72 kX1 dX2_fitting_44 (sh_15 hG) (okX1_sleepers hG (cr_15 hG) hh6) rfl rfl (rmm (by omega) hRf hRl (by decide)) (Nat.le_of_ble_eq_true rfl) (Nat.le_add_right _ _) (Nat.le_add_right _ _) ?_
    refine j_icmp_ge (tgt := 85) hX dX2_fitting_47 (by decide) (fun hc => ?_) (fun hc => ?_)
    · have hf := ifp hc hf
      refine j_iinc hX dX2_fitting_85 rfl (congrArg (_ + ·) ic_1) (by decide) rfl ?_
      refine j_goto (tgt := 22) hX dX2_fitting_88 (by decide) ?_
      exact aJx (Hkh22 _ _ _ hG  hf) (And.intro rfl (And.intro rfl (And.intro rfl (And.intro rfl (rfl)))))
    · have hf := ifn hc hf
      refine j_aload_n hX dX2_fitting_50 rfl ?_
      refine j_iload_n hX dX2_fitting_51 rfl ?_
      refine j_iload hX dX2_fitting_52 rfl ?_
      obtain ⟨v7, hh8, hf⟩ := bd1 hf
      refine j_cV2i hX lk_X2_68 kX2 dX2_fitting_54 (sh_45 hG) (okX2_fits hG hh8) rfl rfl (rmm (by omega) hRf hRl (by decide)) (Nat.le_of_ble_eq_true rfl) (Nat.le_add_right _ _) (Nat.le_add_right _ _) ?_
      refine j_if_eq (tgt := 79) hX dX2_fitting_57 (by decide) (fun hc => ?_) (fun hc => ?_)
      · have hf := ifp hc hf
        exact aJx (kX2_fitting_79 hX hr hlk hRf hRl Hkh22 ih hG  hf) (And.intro rfl (And.intro rfl (And.intro rfl (And.intro rfl (And.intro rfl (rfl))))))
      · have hf := ifn hc hf
        refine j_iload_n hX dX2_fitting_60 rfl ?_
        refine j_iload_n hX dX2_fitting_61 rfl ?_
        refine j_icmp_ne (tgt := 76) hX dX2_fitting_62 (by decide) (fun hc => ?_) (fun hc => ?_)
        · have hf := ifn hc hf
          refine j_iinc hX dX2_fitting_76 rfl (congrArg (_ + ·) ic_1) (by decide) rfl ?_
          exact aJx (kX2_fitting_79 hX hr hlk hRf hRl Hkh22 ih hG  hf) (And.intro rfl (And.intro rfl (And.intro rfl (And.intro rfl (And.intro rfl (rfl))))))
        · have hf := ifp hc hf
          refine j_bipush hX dX2_fitting_65 bp_101 ?_
          refine j_bipush hX dX2_fitting_67 bp_10 ?_
          refine j_iload_n hX dX2_fitting_69 rfl ?_
          refine j_imul hX dX2_fitting_70 ?_
          refine j_iadd hX dX2_fitting_71 ?_
          refine jpc (b := 72) rfl ?_
          refine j_iload hX dX2_fitting_72 rfl ?_
          refine j_iadd hX dX2_fitting_74 ?_
          cases hf
          exact j_ret hX hr hlk rfl dX2_fitting_75
def fX2_fitting_22 : Nat → Int32 → Int32 → Int32 → (Nat → Nat → Int32) → Option ((Int32))
  | 0, _, _, _, _ => none
  | n + 1, x1, x2, x3, i => bn1 (fX1_sleepers 15 i) fun v3 =>
    if v3 ≤ x3 then (if x1 = (-1) then (some (x2)) else (some ((-1)))) else (fX2_fitting_38 (fX2_fitting_22 n) fuel x1 x2 x3 (x3 + (1 : Int32)) i)
theorem kX2_fitting_22  {vR : Int32} (hX : aX p s m args c RX2 cX2_fitting 5 D cA A ad0) (hr : meth.sig.returnType = (some .int)) (hlk : meth.locks = false) (hRf : 2 ≤ R.frames) (hRl : 64 * 2 ≤ R.locals) : ∀ (n : Nat) (x1 : Int32) (x2 : Int32) (x3 : Int32), aGood sh rv → fX2_fitting_22 n x1 x2 x3 i = some (vR) → aJ p l e R s m args below meth c (MQ below (aPost D cA ad0 A (sh, i0, lo0, rv0) (some (.int vR)) (sh, i, lo, rv)) args s (sh.length - sh.length) (aSn sh - aSn sh) A) D cA A ad0 5 sh.length (aSn sh) 22 [some (.ref (100 + 45)), some (.int x1), some (.int x2), some (.int x3), none] [] (sh, i, lo, rv) := by
  intro n
  induction n with
  | zero => intros; rename_i hf; cases hf
  | succ n ih =>
    intro x1 x2 x3 hG hf
    rw [fX2_fitting_22] at hf
    refine j_iload_n hX dX2_fitting_22 rfl ?_
    refine j_aload_n hX dX2_fitting_23 rfl ?_
    refine j_getR (k := 0) hX kX2 (by decide) fk_X2_25 (rf_45_0 hG) dX2_fitting_24 (sh_45 hG) rfl ?_
    obtain ⟨v3, hh4, hf⟩ := bd1 hf
    refine j_cV0i hX lk_X2_72 kX1 dX2_fitting_27 (sh_15 hG) (okX1_sleepers hG (cr_15 hG) hh4) rfl rfl (rmm (by omega) hRf hRl (by decide)) (Nat.le_of_ble_eq_true rfl) (Nat.le_add_right _ _) (Nat.le_add_right _ _) ?_
    refine j_icmp_ge (tgt := 91) hX dX2_fitting_30 (by decide) (fun hc => ?_) (fun hc => ?_)
    · have hf := ifp hc hf
      refine j_iload_n hX dX2_fitting_91 rfl ?_
      refine j_iconst hX dX2_fitting_92 ic_m1 ?_
      refine j_icmp_ne (tgt := 100) hX dX2_fitting_93 (by decide) (fun hc => ?_) (fun hc => ?_)
      · have hf := ifn hc hf
        refine j_iconst hX dX2_fitting_100 ic_m1 ?_
        cases hf
        exact j_ret hX hr hlk rfl dX2_fitting_101
      · have hf := ifp hc hf
        refine j_iload_n hX dX2_fitting_96 rfl ?_
        refine j_goto (tgt := 101) hX dX2_fitting_97 (by decide) ?_
        cases hf
        exact j_ret hX hr hlk rfl dX2_fitting_101
    · have hf := ifn hc hf
      refine j_iload_n hX dX2_fitting_33 rfl ?_
      refine j_iconst hX dX2_fitting_34 ic_1 ?_
      refine j_iadd hX dX2_fitting_35 ?_
      refine j_istore hX dX2_fitting_36 (by decide) rfl ?_
      exact aJx (kX2_fitting_38 hX hr hlk hRf hRl ih fuel _ _ _ _ hG  hf) (And.intro rfl (And.intro rfl (And.intro rfl (And.intro rfl (And.intro rfl (rfl))))))
def fX2_fitting_20 (x1 : Int32) (x2 : Int32) (i : Nat → Nat → Int32) : Option ((Int32)) := fX2_fitting_22 fuel x1 x2 0 i
theorem kX2_fitting_20  {vR : Int32} (hX : aX p s m args c RX2 cX2_fitting 5 D cA A ad0) (hr : meth.sig.returnType = (some .int)) (hlk : meth.locks = false) (hRf : 2 ≤ R.frames) (hRl : 64 * 2 ≤ R.locals) {x1 : Int32} {x2 : Int32} (hG : aGood sh rv) (hf : fX2_fitting_20 x1 x2 i = some (vR)) : aJ p l e R s m args below meth c (MQ below (aPost D cA ad0 A (sh, i0, lo0, rv0) (some (.int vR)) (sh, i, lo, rv)) args s (sh.length - sh.length) (aSn sh - aSn sh) A) D cA A ad0 5 sh.length (aSn sh) 20 [some (.ref (100 + 45)), some (.int x1), some (.int x2), none, none] [] (sh, i, lo, rv) := by
  unfold fX2_fitting_20 at hf
  refine j_iconst hX dX2_fitting_20 ic_0 ?_
  refine j_istore_n hX dX2_fitting_21 (by decide) rfl ?_
  exact aJx (kX2_fitting_22 hX hr hlk hRf hRl fuel _ _ _ hG  hf) (And.intro rfl (And.intro rfl (And.intro rfl (And.intro rfl (rfl)))))
def fX2_fitting (a1 : Int32) (i : Nat → Nat → Int32) : Option ((Int32)) := bn1 (fX2_fits (-1) (-1) i) fun v1 =>
    if v1 = 0 then (fX2_fitting_20 a1 0 i) else (if a1 = 0 then (some (0)) else (fX2_fitting_20 a1 (0 + 1) i))
theorem kX2_fitting  {vR : Int32} (hX : aX p s m args c RX2 cX2_fitting 5 D cA A ad0) (hr : meth.sig.returnType = (some .int)) (hlk : meth.locks = false) (hRf : 2 ≤ R.frames) (hRl : 64 * 2 ≤ R.locals) {a1 : Int32} (hG : aGood sh rv) (hf : fX2_fitting a1 i = some (vR)) : aJ p l e R s m args below meth c (MQ below (aPost D cA ad0 A (sh, i0, lo0, rv0) (some (.int vR)) (sh, i, lo, rv)) args s (sh.length - sh.length) (aSn sh - aSn sh) A) D cA A ad0 5 sh.length (aSn sh) 0 [some (.ref (100 + 45)), some (.int a1), none, none, none] [] (sh, i, lo, rv) := by
  unfold fX2_fitting at hf
  refine j_iconst hX dX2_fitting_0 ic_0 ?_
  refine j_istore_n hX dX2_fitting_1 (by decide) rfl ?_
  refine j_aload_n hX dX2_fitting_2 rfl ?_
  refine j_iconst hX dX2_fitting_3 ic_m1 ?_
  refine j_iconst hX dX2_fitting_4 ic_m1 ?_
  refine jpc (b := 5) rfl ?_
  obtain ⟨v1, hh2, hf⟩ := bd1 hf
  refine j_cV2i hX lk_X2_68 kX2 dX2_fitting_5 (sh_45 hG) (okX2_fits hG hh2) rfl rfl (rmm (by omega) hRf hRl (by decide)) (Nat.le_of_ble_eq_true rfl) (Nat.le_add_right _ _) (Nat.le_add_right _ _) ?_
  refine j_if_eq (tgt := 20) hX dX2_fitting_8 (by decide) (fun hc => ?_) (fun hc => ?_)
  · have hf := ifp hc hf
    exact aJx (kX2_fitting_20 hX hr hlk hRf hRl hG  hf) (And.intro rfl (And.intro rfl (And.intro rfl (rfl))))
  · have hf := ifn hc hf
    refine j_iload_n hX dX2_fitting_11 rfl ?_
    refine j_if_ne (tgt := 17) hX dX2_fitting_12 (by decide) (fun hc => ?_) (fun hc => ?_)
    · have hf := ifn hc hf
      refine j_iinc hX dX2_fitting_17 rfl (congrArg (_ + ·) ic_1) (by decide) rfl ?_
      exact aJx (kX2_fitting_20 hX hr hlk hRf hRl hG  hf) (And.intro rfl (And.intro rfl (And.intro rfl (rfl))))
    · have hf := ifp hc hf
      refine j_iconst hX dX2_fitting_15 ic_0 ?_
      cases hf
      exact j_ret hX hr hlk rfl dX2_fitting_16
theorem okX2_fitting {l : Launch} {sh : List aSh} {i : Nat → Nat → Int32} {lo : Nat → Nat → Int64} {rv : Nat → Nat → Option Nat}  {a1 : Int32} {vR : Int32} (hG : aGood sh rv) (hf : fX2_fitting a1 i = some (vR)) : aM l yX2_fitting cX2_fitting 5 (some .int) 2 [.ref (100 + 45), .int a1] (sh, i, lo, rv) (some (.int vR)) (sh, i, lo, rv) :=
  aM_of (by decide) (Nat.le_of_ble_eq_true rfl) (Nat.le_refl _) (Nat.le_refl _) (fun p e s m args below meth c D cA A ad0 hX hr hlk hnm => kX2_fitting hX hr hlk (Nat.le_refl _) (Nat.le_refl _) hG hf)
def fX11_fit (a1 : Int32) (i : Nat → Nat → Int32) : Option ((Int32)) := bn1 (fX11_noCar i) fun v1 =>
    if v1 = 0 then (bn1 (fX2_fitting a1 i) fun v3 =>
    some (v3)) else (some ((-1)))
theorem kX11_fit  {vR : Int32} (hX : aX p s m args c RX11 cX11_fit 2 D cA A ad0) (hr : meth.sig.returnType = (some .int)) (hlk : meth.locks = false) (hRf : 3 ≤ R.frames) (hRl : 64 * 3 ≤ R.locals) {a1 : Int32} (hG : aGood sh rv) (hf : fX11_fit a1 i = some (vR)) : aJ p l e R s m args below meth c (MQ below (aPost D cA ad0 A (sh, i0, lo0, rv0) (some (.int vR)) (sh, i, lo, rv)) args s (sh.length - sh.length) (aSn sh - aSn sh) A) D cA A ad0 2 sh.length (aSn sh) 0 [some (.ref (100 + 0)), some (.int a1)] [] (sh, i, lo, rv) := by
  unfold fX11_fit at hf
  refine j_aload_n hX dX11_fit_0 rfl ?_
  obtain ⟨v1, hh2, hf⟩ := bd1 hf
  refine j_cV0i hX lk_X11_120 kX11 dX11_fit_1 (sh_0 hG) (okX11_noCar hG hh2) rfl rfl (rmm (by omega) hRf hRl (by decide)) (Nat.le_of_ble_eq_true rfl) (Nat.le_add_right _ _) (Nat.le_add_right _ _) ?_
  refine j_if_eq (tgt := 11) hX dX11_fit_4 (by decide) (fun hc => ?_) (fun hc => ?_)
  · have hf := ifp hc hf
    refine j_aload_n hX dX11_fit_11 rfl ?_
    refine j_getR (k := 10) hX kX11 (by decide) fk_X11_78 (rf_0_10 hG) dX11_fit_12 (sh_0 hG) rfl ?_
    refine j_iload_n hX dX11_fit_15 rfl ?_
    obtain ⟨v3, hh4, hf⟩ := bd1 hf
    refine j_cV1i hX lk_X11_273 kX2 dX11_fit_16 (sh_45 hG) (okX2_fitting hG hh4) rfl rfl (rmm (by omega) hRf hRl (by decide)) (Nat.le_of_ble_eq_true rfl) (Nat.le_add_right _ _) (Nat.le_add_right _ _) ?_
    cases hf
    exact j_ret hX hr hlk rfl dX11_fit_19
  · have hf := ifn hc hf
    refine j_iconst hX dX11_fit_7 ic_m1 ?_
    refine j_goto (tgt := 19) hX dX11_fit_8 (by decide) ?_
    cases hf
    exact j_ret hX hr hlk rfl dX11_fit_19
theorem okX11_fit {l : Launch} {sh : List aSh} {i : Nat → Nat → Int32} {lo : Nat → Nat → Int64} {rv : Nat → Nat → Option Nat}  {a1 : Int32} {vR : Int32} (hG : aGood sh rv) (hf : fX11_fit a1 i = some (vR)) : aM l yX11_fit cX11_fit 2 (some .int) 3 [.ref (100 + 0), .int a1] (sh, i, lo, rv) (some (.int vR)) (sh, i, lo, rv) :=
  aM_of (by decide) (Nat.le_of_ble_eq_true rfl) (Nat.le_refl _) (Nat.le_refl _) (fun p e s m args below meth c D cA A ad0 hX hr hlk hnm => kX11_fit hX hr hlk (Nat.le_refl _) (Nat.le_refl _) hG hf)
def fX2_apartAt_74 (kh17 : Int32 → Int32 → Int32 → (Nat → Nat → Int32) → Option ((Int32))) (kh33 : Int32 → Int32 → Int32 → Int32 → (Nat → Nat → Int32) → Option ((Int32))) (x1 : Int32) (x2 : Int32) (x3 : Int32) (x4 : Int32) (i : Nat → Nat → Int32) : Option ((Int32)) := kh33 x1 x2 x3 (x4 + 1) i
theorem kX2_apartAt_74  {vR : Int32} (hX : aX p s m args c RX2 cX2_apartAt 5 D cA A ad0) (hr : meth.sig.returnType = (some .int)) (hlk : meth.locks = false) (hRf : 2 ≤ R.frames) (hRl : 64 * 2 ≤ R.locals) {kh17 : Int32 → Int32 → Int32 → (Nat → Nat → Int32) → Option ((Int32))} {kh33 : Int32 → Int32 → Int32 → Int32 → (Nat → Nat → Int32) → Option ((Int32))} (Hkh17 : ∀ (x1 : Int32) (x2 : Int32) (x3 : Int32), aGood sh rv → kh17 x1 x2 x3 i = some (vR) → aJ p l e R s m args below meth c (MQ below (aPost D cA ad0 A (sh, i0, lo0, rv0) (some (.int vR)) (sh, i, lo, rv)) args s (sh.length - sh.length) (aSn sh - aSn sh) A) D cA A ad0 5 sh.length (aSn sh) 17 [some (.ref (100 + 45)), some (.int x1), some (.int x2), some (.int x3), none] [] (sh, i, lo, rv)) (Hkh33 : ∀ (x1 : Int32) (x2 : Int32) (x3 : Int32) (x4 : Int32), aGood sh rv → kh33 x1 x2 x3 x4 i = some (vR) → aJ p l e R s m args below meth c (MQ below (aPost D cA ad0 A (sh, i0, lo0, rv0) (some (.int vR)) (sh, i, lo, rv)) args s (sh.length - sh.length) (aSn sh - aSn sh) A) D cA A ad0 5 sh.length (aSn sh) 33 [some (.ref (100 + 45)), some (.int x1), some (.int x2), some (.int x3), some (.int x4)] [] (sh, i, lo, rv)) {x1 : Int32} {x2 : Int32} {x3 : Int32} {x4 : Int32} (hG : aGood sh rv) (hf : fX2_apartAt_74 kh17 kh33 x1 x2 x3 x4 i = some (vR)) : aJ p l e R s m args below meth c (MQ below (aPost D cA ad0 A (sh, i0, lo0, rv0) (some (.int vR)) (sh, i, lo, rv)) args s (sh.length - sh.length) (aSn sh - aSn sh) A) D cA A ad0 5 sh.length (aSn sh) 74 [some (.ref (100 + 45)), some (.int x1), some (.int x2), some (.int x3), some (.int x4)] [] (sh, i, lo, rv) := by
  unfold fX2_apartAt_74 at hf
  refine j_iinc hX dX2_apartAt_74 rfl (congrArg (_ + ·) ic_1) (by decide) rfl ?_
  refine j_goto (tgt := 33) hX dX2_apartAt_77 (by decide) ?_
  exact aJx (Hkh33 _ _ _ _ hG  hf) (And.intro rfl (And.intro rfl (And.intro rfl (And.intro rfl (And.intro rfl (rfl))))))
def fX2_apartAt_72 (kh17 : Int32 → Int32 → Int32 → (Nat → Nat → Int32) → Option ((Int32))) (kh33 : Int32 → Int32 → Int32 → Int32 → (Nat → Nat → Int32) → Option ((Int32))) (x1 : Int32) (x3 : Int32) (x4 : Int32) (s0 : Int32) (s1 : Int32) (i : Nat → Nat → Int32) : Option ((Int32)) := fX2_apartAt_74 kh17 kh33 x1 (s0 + s1) x3 x4 i
theorem kX2_apartAt_72  {vR : Int32} (hX : aX p s m args c RX2 cX2_apartAt 5 D cA A ad0) (hr : meth.sig.returnType = (some .int)) (hlk : meth.locks = false) (hRf : 2 ≤ R.frames) (hRl : 64 * 2 ≤ R.locals) {kh17 : Int32 → Int32 → Int32 → (Nat → Nat → Int32) → Option ((Int32))} {kh33 : Int32 → Int32 → Int32 → Int32 → (Nat → Nat → Int32) → Option ((Int32))} (Hkh17 : ∀ (x1 : Int32) (x2 : Int32) (x3 : Int32), aGood sh rv → kh17 x1 x2 x3 i = some (vR) → aJ p l e R s m args below meth c (MQ below (aPost D cA ad0 A (sh, i0, lo0, rv0) (some (.int vR)) (sh, i, lo, rv)) args s (sh.length - sh.length) (aSn sh - aSn sh) A) D cA A ad0 5 sh.length (aSn sh) 17 [some (.ref (100 + 45)), some (.int x1), some (.int x2), some (.int x3), none] [] (sh, i, lo, rv)) (Hkh33 : ∀ (x1 : Int32) (x2 : Int32) (x3 : Int32) (x4 : Int32), aGood sh rv → kh33 x1 x2 x3 x4 i = some (vR) → aJ p l e R s m args below meth c (MQ below (aPost D cA ad0 A (sh, i0, lo0, rv0) (some (.int vR)) (sh, i, lo, rv)) args s (sh.length - sh.length) (aSn sh - aSn sh) A) D cA A ad0 5 sh.length (aSn sh) 33 [some (.ref (100 + 45)), some (.int x1), some (.int x2), some (.int x3), some (.int x4)] [] (sh, i, lo, rv)) {x1 : Int32} {x3 : Int32} {x4 : Int32} {s0 : Int32} {s1 : Int32} (hG : aGood sh rv) (hf : fX2_apartAt_72 kh17 kh33 x1 x3 x4 s0 s1 i = some (vR)) : aJ p l e R s m args below meth c (MQ below (aPost D cA ad0 A (sh, i0, lo0, rv0) (some (.int vR)) (sh, i, lo, rv)) args s (sh.length - sh.length) (aSn sh - aSn sh) A) D cA A ad0 5 sh.length (aSn sh) 72 [some (.ref (100 + 45)), some (.int x1), none, some (.int x3), some (.int x4)] [.int s1, .int s0] (sh, i, lo, rv) := by
  unfold fX2_apartAt_72 at hf
  refine j_iadd hX dX2_apartAt_72 ?_
  refine j_istore_n hX dX2_apartAt_73 (by decide) rfl ?_
  exact aJx (kX2_apartAt_74 hX hr hlk hRf hRl Hkh17 Hkh33 hG  hf) (And.intro rfl (And.intro rfl (And.intro rfl (And.intro rfl (And.intro rfl (rfl))))))
def fX2_apartAt_67 (kh17 : Int32 → Int32 → Int32 → (Nat → Nat → Int32) → Option ((Int32))) (kh33 : Int32 → Int32 → Int32 → Int32 → (Nat → Nat → Int32) → Option ((Int32))) (x1 : Int32) (x3 : Int32) (x4 : Int32) (s0 : Int32) (i : Nat → Nat → Int32) : Option ((Int32)) := fX2_apartAt_72 kh17 kh33 x1 x3 x4 s0 (-1) i
theorem kX2_apartAt_67  {vR : Int32} (hX : aX p s m args c RX2 cX2_apartAt 5 D cA A ad0) (hr : meth.sig.returnType = (some .int)) (hlk : meth.locks = false) (hRf : 2 ≤ R.frames) (hRl : 64 * 2 ≤ R.locals) {kh17 : Int32 → Int32 → Int32 → (Nat → Nat → Int32) → Option ((Int32))} {kh33 : Int32 → Int32 → Int32 → Int32 → (Nat → Nat → Int32) → Option ((Int32))} (Hkh17 : ∀ (x1 : Int32) (x2 : Int32) (x3 : Int32), aGood sh rv → kh17 x1 x2 x3 i = some (vR) → aJ p l e R s m args below meth c (MQ below (aPost D cA ad0 A (sh, i0, lo0, rv0) (some (.int vR)) (sh, i, lo, rv)) args s (sh.length - sh.length) (aSn sh - aSn sh) A) D cA A ad0 5 sh.length (aSn sh) 17 [some (.ref (100 + 45)), some (.int x1), some (.int x2), some (.int x3), none] [] (sh, i, lo, rv)) (Hkh33 : ∀ (x1 : Int32) (x2 : Int32) (x3 : Int32) (x4 : Int32), aGood sh rv → kh33 x1 x2 x3 x4 i = some (vR) → aJ p l e R s m args below meth c (MQ below (aPost D cA ad0 A (sh, i0, lo0, rv0) (some (.int vR)) (sh, i, lo, rv)) args s (sh.length - sh.length) (aSn sh - aSn sh) A) D cA A ad0 5 sh.length (aSn sh) 33 [some (.ref (100 + 45)), some (.int x1), some (.int x2), some (.int x3), some (.int x4)] [] (sh, i, lo, rv)) {x1 : Int32} {x3 : Int32} {x4 : Int32} {s0 : Int32} (hG : aGood sh rv) (hf : fX2_apartAt_67 kh17 kh33 x1 x3 x4 s0 i = some (vR)) : aJ p l e R s m args below meth c (MQ below (aPost D cA ad0 A (sh, i0, lo0, rv0) (some (.int vR)) (sh, i, lo, rv)) args s (sh.length - sh.length) (aSn sh - aSn sh) A) D cA A ad0 5 sh.length (aSn sh) 67 [some (.ref (100 + 45)), some (.int x1), none, some (.int x3), some (.int x4)] [.int s0] (sh, i, lo, rv) := by
  unfold fX2_apartAt_67 at hf
  refine j_iconst hX dX2_apartAt_67 ic_m1 ?_
  refine j_goto (tgt := 72) hX dX2_apartAt_68 (by decide) ?_
  exact aJx (kX2_apartAt_72 hX hr hlk hRf hRl Hkh17 Hkh33 hG  hf) (And.intro rfl (And.intro rfl (And.intro rfl (And.intro rfl (rfl)))))
def fX2_apartAt_33 (kh17 : Int32 → Int32 → Int32 → (Nat → Nat → Int32) → Option ((Int32))) : Nat → Int32 → Int32 → Int32 → Int32 → (Nat → Nat → Int32) → Option ((Int32))
  | 0, _, _, _, _, _ => none
  | n + 1, x1, x2, x3, x4, i => bn1 (fX1_sleepers 15 i) fun v5 =>
    if v5 ≤ x4 then (kh17 x1 x2 (x3 + 1) i) else (bn1 (fX2_fits x3 x4 i) fun v7 =>
    if v7 = 0 then (fX2_apartAt_74 kh17 (fX2_apartAt_33 kh17 n) x1 x2 x3 x4 i) else (if x1 = x3 then (fX2_apartAt_67 kh17 (fX2_apartAt_33 kh17 n) x1 x3 x4 x2 i) else (if x1 = x4 then (fX2_apartAt_67 kh17 (fX2_apartAt_33 kh17 n) x1 x3 x4 x2 i) else (fX2_apartAt_72 kh17 (fX2_apartAt_33 kh17 n) x1 x3 x4 x2 1 i))))
theorem kX2_apartAt_33  {vR : Int32} (hX : aX p s m args c RX2 cX2_apartAt 5 D cA A ad0) (hr : meth.sig.returnType = (some .int)) (hlk : meth.locks = false) (hRf : 2 ≤ R.frames) (hRl : 64 * 2 ≤ R.locals) {kh17 : Int32 → Int32 → Int32 → (Nat → Nat → Int32) → Option ((Int32))} (Hkh17 : ∀ (x1 : Int32) (x2 : Int32) (x3 : Int32), aGood sh rv → kh17 x1 x2 x3 i = some (vR) → aJ p l e R s m args below meth c (MQ below (aPost D cA ad0 A (sh, i0, lo0, rv0) (some (.int vR)) (sh, i, lo, rv)) args s (sh.length - sh.length) (aSn sh - aSn sh) A) D cA A ad0 5 sh.length (aSn sh) 17 [some (.ref (100 + 45)), some (.int x1), some (.int x2), some (.int x3), none] [] (sh, i, lo, rv)) : ∀ (n : Nat) (x1 : Int32) (x2 : Int32) (x3 : Int32) (x4 : Int32), aGood sh rv → fX2_apartAt_33 kh17 n x1 x2 x3 x4 i = some (vR) → aJ p l e R s m args below meth c (MQ below (aPost D cA ad0 A (sh, i0, lo0, rv0) (some (.int vR)) (sh, i, lo, rv)) args s (sh.length - sh.length) (aSn sh - aSn sh) A) D cA A ad0 5 sh.length (aSn sh) 33 [some (.ref (100 + 45)), some (.int x1), some (.int x2), some (.int x3), some (.int x4)] [] (sh, i, lo, rv) := by
  intro n
  induction n with
  | zero => intros; rename_i hf; cases hf
  | succ n ih =>
    intro x1 x2 x3 x4 hG hf
    rw [fX2_apartAt_33] at hf
    refine j_iload hX dX2_apartAt_33 rfl ?_
    refine j_aload_n hX dX2_apartAt_35 rfl ?_
    refine j_getR (k := 0) hX kX2 (by decide) fk_X2_25 (rf_45_0 hG) dX2_apartAt_36 (sh_45 hG) rfl ?_
    obtain ⟨v5, hh6, hf⟩ := bd1 hf
    refine j_cV0i hX lk_X2_72 kX1 dX2_apartAt_39 (sh_15 hG) (okX1_sleepers hG (cr_15 hG) hh6) rfl rfl (rmm (by omega) hRf hRl (by decide)) (Nat.le_of_ble_eq_true rfl) (Nat.le_add_right _ _) (Nat.le_add_right _ _) ?_
    refine j_icmp_ge (tgt := 80) hX dX2_apartAt_42 (by decide) (fun hc => ?_) (fun hc => ?_)
    · have hf := ifp hc hf
      refine j_iinc hX dX2_apartAt_80 rfl (congrArg (_ + ·) ic_1) (by decide) rfl ?_
      refine j_goto (tgt := 17) hX dX2_apartAt_83 (by decide) ?_
      exact aJx (Hkh17 _ _ _ hG  hf) (And.intro rfl (And.intro rfl (And.intro rfl (And.intro rfl (rfl)))))
    · have hf := ifn hc hf
      refine j_aload_n hX dX2_apartAt_45 rfl ?_
      refine j_iload_n hX dX2_apartAt_46 rfl ?_
      refine j_iload hX dX2_apartAt_47 rfl ?_
      obtain ⟨v7, hh8, hf⟩ := bd1 hf
      refine j_cV2i hX lk_X2_68 kX2 dX2_apartAt_49 (sh_45 hG) (okX2_fits hG hh8) rfl rfl (rmm (by omega) hRf hRl (by decide)) (Nat.le_of_ble_eq_true rfl) (Nat.le_add_right _ _) (Nat.le_add_right _ _) ?_
      refine j_if_eq (tgt := 74) hX dX2_apartAt_52 (by decide) (fun hc => ?_) (fun hc => ?_)
      · have hf := ifp hc hf
        exact aJx (kX2_apartAt_74 hX hr hlk hRf hRl Hkh17 ih hG  hf) (And.intro rfl (And.intro rfl (And.intro rfl (And.intro rfl (And.intro rfl (rfl))))))
      · have hf := ifn hc hf
        refine j_iload_n hX dX2_apartAt_55 rfl ?_
        refine j_iload_n hX dX2_apartAt_56 rfl ?_
        refine j_iload_n hX dX2_apartAt_57 rfl ?_
        refine j_icmp_eq (tgt := 67) hX dX2_apartAt_58 (by decide) (fun hc => ?_) (fun hc => ?_)
        · have hf := ifp hc hf
          exact aJx (kX2_apartAt_67 hX hr hlk hRf hRl Hkh17 ih hG  hf) (And.intro rfl (And.intro rfl (And.intro rfl (And.intro rfl (rfl)))))
        · have hf := ifn hc hf
          refine j_iload_n hX dX2_apartAt_61 rfl ?_
          refine j_iload hX dX2_apartAt_62 rfl ?_
          refine j_icmp_ne (tgt := 71) hX dX2_apartAt_64 (by decide) (fun hc => ?_) (fun hc => ?_)
          · have hf := ifn hc hf
            refine j_iconst hX dX2_apartAt_71 ic_1 ?_
            exact aJx (kX2_apartAt_72 hX hr hlk hRf hRl Hkh17 ih hG  hf) (And.intro rfl (And.intro rfl (And.intro rfl (And.intro rfl (rfl)))))
          · have hf := ifp hc hf
            exact aJx (kX2_apartAt_67 hX hr hlk hRf hRl Hkh17 ih hG  hf) (And.intro rfl (And.intro rfl (And.intro rfl (And.intro rfl (rfl)))))
def fX2_apartAt_17 : Nat → Int32 → Int32 → Int32 → (Nat → Nat → Int32) → Option ((Int32))
  | 0, _, _, _, _ => none
  | n + 1, x1, x2, x3, i => bn1 (fX1_sleepers 15 i) fun v3 =>
    if v3 ≤ x3 then (some ((if 0 ≤ x2 then x2 else 0 - x2))) else (fX2_apartAt_33 (fX2_apartAt_17 n) fuel x1 x2 x3 (x3 + (1 : Int32)) i)
theorem kX2_apartAt_17  {vR : Int32} (hX : aX p s m args c RX2 cX2_apartAt 5 D cA A ad0) (hr : meth.sig.returnType = (some .int)) (hlk : meth.locks = false) (hRf : 2 ≤ R.frames) (hRl : 64 * 2 ≤ R.locals) : ∀ (n : Nat) (x1 : Int32) (x2 : Int32) (x3 : Int32), aGood sh rv → fX2_apartAt_17 n x1 x2 x3 i = some (vR) → aJ p l e R s m args below meth c (MQ below (aPost D cA ad0 A (sh, i0, lo0, rv0) (some (.int vR)) (sh, i, lo, rv)) args s (sh.length - sh.length) (aSn sh - aSn sh) A) D cA A ad0 5 sh.length (aSn sh) 17 [some (.ref (100 + 45)), some (.int x1), some (.int x2), some (.int x3), none] [] (sh, i, lo, rv) := by
  intro n
  induction n with
  | zero => intros; rename_i hf; cases hf
  | succ n ih =>
    intro x1 x2 x3 hG hf
    rw [fX2_apartAt_17] at hf
    refine j_iload_n hX dX2_apartAt_17 rfl ?_
    refine j_aload_n hX dX2_apartAt_18 rfl ?_
    refine j_getR (k := 0) hX kX2 (by decide) fk_X2_25 (rf_45_0 hG) dX2_apartAt_19 (sh_45 hG) rfl ?_
    obtain ⟨v3, hh4, hf⟩ := bd1 hf
    refine j_cV0i hX lk_X2_72 kX1 dX2_apartAt_22 (sh_15 hG) (okX1_sleepers hG (cr_15 hG) hh4) rfl rfl (rmm (by omega) hRf hRl (by decide)) (Nat.le_of_ble_eq_true rfl) (Nat.le_add_right _ _) (Nat.le_add_right _ _) ?_
    refine j_icmp_ge (tgt := 86) hX dX2_apartAt_25 (by decide) (fun hc => ?_) (fun hc => ?_)
    · have hf := ifp hc hf
      refine j_iload_n hX dX2_apartAt_86 rfl ?_
      refine j_abs hX lk_X2_85 dX2_apartAt_87 ⟨by omega, Nat.le_trans (Nat.le_of_ble_eq_true rfl) hRl⟩ (Nat.le_add_right _ _) (Nat.le_add_right _ _) ?_
      cases hf
      exact j_ret hX hr hlk rfl dX2_apartAt_90
    · have hf := ifn hc hf
      refine j_iload_n hX dX2_apartAt_28 rfl ?_
      refine j_iconst hX dX2_apartAt_29 ic_1 ?_
      refine j_iadd hX dX2_apartAt_30 ?_
      refine j_istore hX dX2_apartAt_31 (by decide) rfl ?_
      exact aJx (kX2_apartAt_33 hX hr hlk hRf hRl ih fuel _ _ _ _ hG  hf) (And.intro rfl (And.intro rfl (And.intro rfl (And.intro rfl (And.intro rfl (rfl))))))
def fX2_apartAt_14 (x1 : Int32) (s0 : Int32) (i : Nat → Nat → Int32) : Option ((Int32)) := fX2_apartAt_17 fuel x1 s0 0 i
theorem kX2_apartAt_14  {vR : Int32} (hX : aX p s m args c RX2 cX2_apartAt 5 D cA A ad0) (hr : meth.sig.returnType = (some .int)) (hlk : meth.locks = false) (hRf : 2 ≤ R.frames) (hRl : 64 * 2 ≤ R.locals) {x1 : Int32} {s0 : Int32} (hG : aGood sh rv) (hf : fX2_apartAt_14 x1 s0 i = some (vR)) : aJ p l e R s m args below meth c (MQ below (aPost D cA ad0 A (sh, i0, lo0, rv0) (some (.int vR)) (sh, i, lo, rv)) args s (sh.length - sh.length) (aSn sh - aSn sh) A) D cA A ad0 5 sh.length (aSn sh) 14 [some (.ref (100 + 45)), some (.int x1), none, none, none] [.int s0] (sh, i, lo, rv) := by
  unfold fX2_apartAt_14 at hf
  refine j_istore_n hX dX2_apartAt_14 (by decide) rfl ?_
  refine j_iconst hX dX2_apartAt_15 ic_0 ?_
  refine j_istore_n hX dX2_apartAt_16 (by decide) rfl ?_
  exact aJx (kX2_apartAt_17 hX hr hlk hRf hRl fuel _ _ _ hG  hf) (And.intro rfl (And.intro rfl (And.intro rfl (And.intro rfl (rfl)))))
def fX2_apartAt (a1 : Int32) (i : Nat → Nat → Int32) : Option ((Int32)) := bn1 (fX2_fits (-1) (-1) i) fun v1 =>
    if v1 = 0 then (fX2_apartAt_14 a1 0 i) else (fX2_apartAt_14 a1 1 i)
theorem kX2_apartAt  {vR : Int32} (hX : aX p s m args c RX2 cX2_apartAt 5 D cA A ad0) (hr : meth.sig.returnType = (some .int)) (hlk : meth.locks = false) (hRf : 2 ≤ R.frames) (hRl : 64 * 2 ≤ R.locals) {a1 : Int32} (hG : aGood sh rv) (hf : fX2_apartAt a1 i = some (vR)) : aJ p l e R s m args below meth c (MQ below (aPost D cA ad0 A (sh, i0, lo0, rv0) (some (.int vR)) (sh, i, lo, rv)) args s (sh.length - sh.length) (aSn sh - aSn sh) A) D cA A ad0 5 sh.length (aSn sh) 0 [some (.ref (100 + 45)), some (.int a1), none, none, none] [] (sh, i, lo, rv) := by
  unfold fX2_apartAt at hf
  refine j_aload_n hX dX2_apartAt_0 rfl ?_
  refine j_iconst hX dX2_apartAt_1 ic_m1 ?_
  refine j_iconst hX dX2_apartAt_2 ic_m1 ?_
  obtain ⟨v1, hh2, hf⟩ := bd1 hf
  refine j_cV2i hX lk_X2_68 kX2 dX2_apartAt_3 (sh_45 hG) (okX2_fits hG hh2) rfl rfl (rmm (by omega) hRf hRl (by decide)) (Nat.le_of_ble_eq_true rfl) (Nat.le_add_right _ _) (Nat.le_add_right _ _) ?_
  refine j_if_eq (tgt := 13) hX dX2_apartAt_6 (by decide) (fun hc => ?_) (fun hc => ?_)
  · have hf := ifp hc hf
    refine j_iconst hX dX2_apartAt_13 ic_0 ?_
    exact aJx (kX2_apartAt_14 hX hr hlk hRf hRl hG  hf) (And.intro rfl (And.intro rfl (rfl)))
  · have hf := ifn hc hf
    refine j_iconst hX dX2_apartAt_9 ic_1 ?_
    refine j_goto (tgt := 14) hX dX2_apartAt_10 (by decide) ?_
    exact aJx (kX2_apartAt_14 hX hr hlk hRf hRl hG  hf) (And.intro rfl (And.intro rfl (rfl)))
theorem okX2_apartAt {l : Launch} {sh : List aSh} {i : Nat → Nat → Int32} {lo : Nat → Nat → Int64} {rv : Nat → Nat → Option Nat}  {a1 : Int32} {vR : Int32} (hG : aGood sh rv) (hf : fX2_apartAt a1 i = some (vR)) : aM l yX2_apartAt cX2_apartAt 5 (some .int) 2 [.ref (100 + 45), .int a1] (sh, i, lo, rv) (some (.int vR)) (sh, i, lo, rv) :=
  aM_of (by decide) (Nat.le_of_ble_eq_true rfl) (Nat.le_refl _) (Nat.le_refl _) (fun p e s m args below meth c D cA A ad0 hX hr hlk hnm => kX2_apartAt hX hr hlk (Nat.le_refl _) (Nat.le_refl _) hG hf)
def fX2_bestBerth_50 (kh16 : Int32 → Int32 → Int32 → (Nat → Nat → Int32) → Option ((Int32))) (x1 : Int32) (x2 : Int32) (x3 : Int32) (i : Nat → Nat → Int32) : Option ((Int32)) := kh16 x1 x2 (x3 + 1) i
theorem kX2_bestBerth_50  {vR : Int32} (hX : aX p s m args c RX2 cX2_bestBerth 5 D cA A ad0) (hr : meth.sig.returnType = (some .int)) (hlk : meth.locks = false) (hRf : 3 ≤ R.frames) (hRl : 64 * 3 ≤ R.locals) {kh16 : Int32 → Int32 → Int32 → (Nat → Nat → Int32) → Option ((Int32))} (Hkh16 : ∀ (x1 : Int32) (x2 : Int32) (x3 : Int32), aGood sh rv → kh16 x1 x2 x3 i = some (vR) → aJ p l e R s m args below meth c (MQ below (aPost D cA ad0 A (sh, i0, lo0, rv0) (some (.int vR)) (sh, i, lo, rv)) args s (sh.length - sh.length) (aSn sh - aSn sh) A) D cA A ad0 5 sh.length (aSn sh) 16 [some (.ref (100 + 45)), some (.int x1), some (.int x2), some (.int x3), none] [] (sh, i, lo, rv)) {x1 : Int32} {x2 : Int32} {x3 : Int32} (hG : aGood sh rv) (hf : fX2_bestBerth_50 kh16 x1 x2 x3 i = some (vR)) : aJ p l e R s m args below meth c (MQ below (aPost D cA ad0 A (sh, i0, lo0, rv0) (some (.int vR)) (sh, i, lo, rv)) args s (sh.length - sh.length) (aSn sh - aSn sh) A) D cA A ad0 5 sh.length (aSn sh) 50 [some (.ref (100 + 45)), some (.int x1), some (.int x2), some (.int x3), none] [] (sh, i, lo, rv) := by
  unfold fX2_bestBerth_50 at hf
  refine j_iinc hX dX2_bestBerth_50 rfl (congrArg (_ + ·) ic_1) (by decide) rfl ?_
  refine j_goto (tgt := 16) hX dX2_bestBerth_53 (by decide) ?_
  exact aJx (Hkh16 _ _ _ hG  hf) (And.intro rfl (And.intro rfl (And.intro rfl (And.intro rfl (rfl)))))
def fX2_bestBerth_45 (kh16 : Int32 → Int32 → Int32 → (Nat → Nat → Int32) → Option ((Int32))) (x3 : Int32) (x4 : Int32) (i : Nat → Nat → Int32) : Option ((Int32)) := fX2_bestBerth_50 kh16 x3 x4 x3 i
theorem kX2_bestBerth_45  {vR : Int32} (hX : aX p s m args c RX2 cX2_bestBerth 5 D cA A ad0) (hr : meth.sig.returnType = (some .int)) (hlk : meth.locks = false) (hRf : 3 ≤ R.frames) (hRl : 64 * 3 ≤ R.locals) {kh16 : Int32 → Int32 → Int32 → (Nat → Nat → Int32) → Option ((Int32))} (Hkh16 : ∀ (x1 : Int32) (x2 : Int32) (x3 : Int32), aGood sh rv → kh16 x1 x2 x3 i = some (vR) → aJ p l e R s m args below meth c (MQ below (aPost D cA ad0 A (sh, i0, lo0, rv0) (some (.int vR)) (sh, i, lo, rv)) args s (sh.length - sh.length) (aSn sh - aSn sh) A) D cA A ad0 5 sh.length (aSn sh) 16 [some (.ref (100 + 45)), some (.int x1), some (.int x2), some (.int x3), none] [] (sh, i, lo, rv)) {x3 : Int32} {x4 : Int32} (hG : aGood sh rv) (hf : fX2_bestBerth_45 kh16 x3 x4 i = some (vR)) : aJ p l e R s m args below meth c (MQ below (aPost D cA ad0 A (sh, i0, lo0, rv0) (some (.int vR)) (sh, i, lo, rv)) args s (sh.length - sh.length) (aSn sh - aSn sh) A) D cA A ad0 5 sh.length (aSn sh) 45 [some (.ref (100 + 45)), none, none, some (.int x3), some (.int x4)] [] (sh, i, lo, rv) := by
  unfold fX2_bestBerth_45 at hf
  refine j_iload_n hX dX2_bestBerth_45 rfl ?_
  refine j_istore_n hX dX2_bestBerth_46 (by decide) rfl ?_
  refine j_iload hX dX2_bestBerth_47 rfl ?_
  refine j_istore_n hX dX2_bestBerth_49 (by decide) rfl ?_
  exact aJx (kX2_bestBerth_50 hX hr hlk hRf hRl Hkh16 hG  hf) (And.intro rfl (And.intro rfl (And.intro rfl (And.intro rfl (rfl)))))
def fX2_bestBerth_16 : Nat → Int32 → Int32 → Int32 → (Nat → Nat → Int32) → Option ((Int32))
  | 0, _, _, _, _ => none
  | n + 1, x1, x2, x3, i => bn1 (fX1_sleepers 15 i) fun v3 =>
    if v3 ≤ x3 then (some (x1)) else (bn1 (fX2_apartAt x3 i) fun v5 =>
    if x1 = (-1) then (fX2_bestBerth_45 (fX2_bestBerth_16 n) x3 v5 i) else (if x2 ≤ v5 then (fX2_bestBerth_50 (fX2_bestBerth_16 n) x1 x2 x3 i) else (fX2_bestBerth_45 (fX2_bestBerth_16 n) x3 v5 i)))
theorem kX2_bestBerth_16  {vR : Int32} (hX : aX p s m args c RX2 cX2_bestBerth 5 D cA A ad0) (hr : meth.sig.returnType = (some .int)) (hlk : meth.locks = false) (hRf : 3 ≤ R.frames) (hRl : 64 * 3 ≤ R.locals) : ∀ (n : Nat) (x1 : Int32) (x2 : Int32) (x3 : Int32), aGood sh rv → fX2_bestBerth_16 n x1 x2 x3 i = some (vR) → aJ p l e R s m args below meth c (MQ below (aPost D cA ad0 A (sh, i0, lo0, rv0) (some (.int vR)) (sh, i, lo, rv)) args s (sh.length - sh.length) (aSn sh - aSn sh) A) D cA A ad0 5 sh.length (aSn sh) 16 [some (.ref (100 + 45)), some (.int x1), some (.int x2), some (.int x3), none] [] (sh, i, lo, rv) := by
  intro n
  induction n with
  | zero => intros; rename_i hf; cases hf
  | succ n ih =>
    intro x1 x2 x3 hG hf
    rw [fX2_bestBerth_16] at hf
    refine j_iload_n hX dX2_bestBerth_16 rfl ?_
    refine j_aload_n hX dX2_bestBerth_17 rfl ?_
    refine j_getR (k := 0) hX kX2 (by decide) fk_X2_25 (rf_45_0 hG) dX2_bestBerth_18 (sh_45 hG) rfl ?_
    obtain ⟨v3, hh4, hf⟩ := bd1 hf
    refine j_cV0i hX lk_X2_72 kX1 dX2_bestBerth_21 (sh_15 hG) (okX1_sleepers hG (cr_15 hG) hh4) rfl rfl (rmm (by omega) hRf hRl (by decide)) (Nat.le_of_ble_eq_true rfl) (Nat.le_add_right _ _) (Nat.le_add_right _ _) ?_
    refine j_icmp_ge (tgt := 56) hX dX2_bestBerth_24 (by decide) (fun hc => ?_) (fun hc => ?_)
    · have hf := ifp hc hf
      refine j_iload_n hX dX2_bestBerth_56 rfl ?_
      cases hf
      exact j_ret hX hr hlk rfl dX2_bestBerth_57
    · have hf := ifn hc hf
      refine j_aload_n hX dX2_bestBerth_27 rfl ?_
      refine j_iload_n hX dX2_bestBerth_28 rfl ?_
      obtain ⟨v5, hh6, hf⟩ := bd1 hf
      refine j_cV1i hX lk_X2_82 kX2 dX2_bestBerth_29 (sh_45 hG) (okX2_apartAt hG hh6) rfl rfl (rmm (by omega) hRf hRl (by decide)) (Nat.le_of_ble_eq_true rfl) (Nat.le_add_right _ _) (Nat.le_add_right _ _) ?_
      refine j_istore hX dX2_bestBerth_32 (by decide) rfl ?_
      refine j_iload_n hX dX2_bestBerth_34 rfl ?_
      refine jpc (b := 35) rfl ?_
      refine j_iconst hX dX2_bestBerth_35 ic_m1 ?_
      refine j_icmp_eq (tgt := 45) hX dX2_bestBerth_36 (by decide) (fun hc => ?_) (fun hc => ?_)
      · have hf := ifp hc hf
        exact aJx (kX2_bestBerth_45 hX hr hlk hRf hRl ih hG  hf) (And.intro rfl (And.intro rfl (And.intro rfl (rfl))))
      · have hf := ifn hc hf
        refine j_iload hX dX2_bestBerth_39 rfl ?_
        refine j_iload_n hX dX2_bestBerth_41 rfl ?_
        refine j_icmp_ge (tgt := 50) hX dX2_bestBerth_42 (by decide) (fun hc => ?_) (fun hc => ?_)
        · have hf := ifp hc hf
          exact aJx (kX2_bestBerth_50 hX hr hlk hRf hRl ih hG  hf) (And.intro rfl (And.intro rfl (And.intro rfl (And.intro rfl (rfl)))))
        · have hf := ifn hc hf
          exact aJx (kX2_bestBerth_45 hX hr hlk hRf hRl ih hG  hf) (And.intro rfl (And.intro rfl (And.intro rfl (rfl))))
def fX2_bestBerth (i : Nat → Nat → Int32) : Option ((Int32)) := bn1 (fX2_fitting (-1) i) fun v1 =>
    if v1 = 0 then (some ((-1))) else (fX2_bestBerth_16 fuel (-1) 0 0 i)
theorem kX2_bestBerth  {vR : Int32} (hX : aX p s m args c RX2 cX2_bestBerth 5 D cA A ad0) (hr : meth.sig.returnType = (some .int)) (hlk : meth.locks = false) (hRf : 3 ≤ R.frames) (hRl : 64 * 3 ≤ R.locals) (hG : aGood sh rv) (hf : fX2_bestBerth i = some (vR)) : aJ p l e R s m args below meth c (MQ below (aPost D cA ad0 A (sh, i0, lo0, rv0) (some (.int vR)) (sh, i, lo, rv)) args s (sh.length - sh.length) (aSn sh - aSn sh) A) D cA A ad0 5 sh.length (aSn sh) 0 [some (.ref (100 + 45)), none, none, none, none] [] (sh, i, lo, rv) := by
  unfold fX2_bestBerth at hf
  refine j_aload_n hX dX2_bestBerth_0 rfl ?_
  refine j_iconst hX dX2_bestBerth_1 ic_m1 ?_
  obtain ⟨v1, hh2, hf⟩ := bd1 hf
  refine j_cV1i hX lk_X2_78 kX2 dX2_bestBerth_2 (sh_45 hG) (okX2_fitting hG hh2) rfl rfl (rmm (by omega) hRf hRl (by decide)) (Nat.le_of_ble_eq_true rfl) (Nat.le_add_right _ _) (Nat.le_add_right _ _) ?_
  refine j_if_ne (tgt := 10) hX dX2_bestBerth_5 (by decide) (fun hc => ?_) (fun hc => ?_)
  · have hf := ifn hc hf
    refine j_iconst hX dX2_bestBerth_10 ic_m1 ?_
    refine j_istore_n hX dX2_bestBerth_11 (by decide) rfl ?_
    refine j_iconst hX dX2_bestBerth_12 ic_0 ?_
    refine j_istore_n hX dX2_bestBerth_13 (by decide) rfl ?_
    refine j_iconst hX dX2_bestBerth_14 ic_0 ?_
    refine jpc (b := 15) rfl ?_
    refine j_istore_n hX dX2_bestBerth_15 (by decide) rfl ?_
    exact aJx (kX2_bestBerth_16 hX hr hlk hRf hRl fuel _ _ _ hG  hf) (And.intro rfl (And.intro rfl (And.intro rfl (And.intro rfl (rfl)))))
  · have hf := ifp hc hf
    refine j_iconst hX dX2_bestBerth_8 ic_m1 ?_
    cases hf
    exact j_ret hX hr hlk rfl dX2_bestBerth_9
theorem okX2_bestBerth {l : Launch} {sh : List aSh} {i : Nat → Nat → Int32} {lo : Nat → Nat → Int64} {rv : Nat → Nat → Option Nat}  {vR : Int32} (hG : aGood sh rv) (hf : fX2_bestBerth i = some (vR)) : aM l yX2_bestBerth cX2_bestBerth 5 (some .int) 3 [.ref (100 + 45)] (sh, i, lo, rv) (some (.int vR)) (sh, i, lo, rv) :=
  aM_of (by decide) (Nat.le_of_ble_eq_true rfl) (Nat.le_refl _) (Nat.le_refl _) (fun p e s m args below meth c D cA A ad0 hX hr hlk hnm => kX2_bestBerth hX hr hlk (Nat.le_refl _) (Nat.le_refl _) hG hf)
def fX11_best (i : Nat → Nat → Int32) : Option ((Int32)) := bn1 (fX11_noCar i) fun v1 =>
    if v1 = 0 then (bn1 (fX2_bestBerth i) fun v3 =>
    some (v3)) else (some ((-1)))
theorem kX11_best  {vR : Int32} (hX : aX p s m args c RX11 cX11_best 1 D cA A ad0) (hr : meth.sig.returnType = (some .int)) (hlk : meth.locks = false) (hRf : 4 ≤ R.frames) (hRl : 64 * 4 ≤ R.locals) (hG : aGood sh rv) (hf : fX11_best i = some (vR)) : aJ p l e R s m args below meth c (MQ below (aPost D cA ad0 A (sh, i0, lo0, rv0) (some (.int vR)) (sh, i, lo, rv)) args s (sh.length - sh.length) (aSn sh - aSn sh) A) D cA A ad0 1 sh.length (aSn sh) 0 [some (.ref (100 + 0))] [] (sh, i, lo, rv) := by
  unfold fX11_best at hf
  refine j_aload_n hX dX11_best_0 rfl ?_
  obtain ⟨v1, hh2, hf⟩ := bd1 hf
  refine j_cV0i hX lk_X11_120 kX11 dX11_best_1 (sh_0 hG) (okX11_noCar hG hh2) rfl rfl (rmm (by omega) hRf hRl (by decide)) (Nat.le_of_ble_eq_true rfl) (Nat.le_add_right _ _) (Nat.le_add_right _ _) ?_
  refine j_if_eq (tgt := 11) hX dX11_best_4 (by decide) (fun hc => ?_) (fun hc => ?_)
  · have hf := ifp hc hf
    refine j_aload_n hX dX11_best_11 rfl ?_
    refine j_getR (k := 10) hX kX11 (by decide) fk_X11_78 (rf_0_10 hG) dX11_best_12 (sh_0 hG) rfl ?_
    obtain ⟨v3, hh4, hf⟩ := bd1 hf
    refine j_cV0i hX lk_X11_276 kX2 dX11_best_15 (sh_45 hG) (okX2_bestBerth hG hh4) rfl rfl (rmm (by omega) hRf hRl (by decide)) (Nat.le_of_ble_eq_true rfl) (Nat.le_add_right _ _) (Nat.le_add_right _ _) ?_
    cases hf
    exact j_ret hX hr hlk rfl dX11_best_18
  · have hf := ifn hc hf
    refine j_iconst hX dX11_best_7 ic_m1 ?_
    refine j_goto (tgt := 18) hX dX11_best_8 (by decide) ?_
    cases hf
    exact j_ret hX hr hlk rfl dX11_best_18
theorem okX11_best {l : Launch} {sh : List aSh} {i : Nat → Nat → Int32} {lo : Nat → Nat → Int64} {rv : Nat → Nat → Option Nat}  {vR : Int32} (hG : aGood sh rv) (hf : fX11_best i = some (vR)) : aM l yX11_best cX11_best 1 (some .int) 4 [.ref (100 + 0)] (sh, i, lo, rv) (some (.int vR)) (sh, i, lo, rv) :=
  aM_of (by decide) (Nat.le_of_ble_eq_true rfl) (Nat.le_refl _) (Nat.le_refl _) (fun p e s m args below meth c D cA A ad0 hX hr hlk hnm => kX11_best hX hr hlk (Nat.le_refl _) (Nat.le_refl _) hG hf)
end DC
