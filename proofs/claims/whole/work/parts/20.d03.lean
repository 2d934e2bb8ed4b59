/-! decompiled: X3_done X6_keepAct X1_allowedTens X3_sleepLost X8_borders X8_addBorder X6_write X11_writeLog X11_act X11_move X11_say X11_wake X11_lie X6_acts X11_swap X11_border X1_allWeights X11_draw X1_officers X11_drawOfficer X11_spendNight X6_logged X11_nights X8_copyBack X6_takeBack X11_undo X6_logEntry X11_log X9_linesAt X5_size X5_part X11_step X8_copyFrom X8_lostInAll X11_run X11_perform X11_time X7_layOutPapers J6_bitCount_0f7a4 -/
section DC
variable {p : Program} {l : Launch} {e : Env} {R : Room} {s : State} {m : MethodId} {args : Array Value} {below : List Frame} {meth : Method} {c : Code} {D : va_G} {cA : FieldType → ClassId} {A : Nat → Prop} {ad0 : Nat → Nat} {sh : List aSh} {i i0 : Nat → Nat → Int32} {lo lo0 : Nat → Nat → Int64} {rv rv0 : Nat → Nat → Option Nat}
def fX3_done (p1 : Nat) (a2 : Int32) (a3 : Int32) (a4 : Int32) (i : Nat → Nat → Int32) (rv : Nat → Nat → Option Nat) : Option ((Int32) × (Nat → Nat → Int32)) := if a2 = 0 then (bn2 (fX3_movePaper p1 a3 a4 i) fun v1 i2 =>
    some (v1, i2)) else
    if a2 = 1 then (bn2 (fX3_sayAnother p1 a3 a4 i) fun v4 i5 =>
    some (v4, i5)) else
    if a2 = 2 then (bn2 (fX3_wakeByHand p1 a3 i rv) fun v7 i8 =>
    some (v7, i8)) else
    if a2 = 3 then (bn2 (fX3_lieDown p1 a3 i) fun v10 i11 =>
    some (v10, i11)) else
    if a2 = 4 then (bn2 (fX3_swapBerths p1 a3 a4 i) fun v13 i14 =>
    some (v13, i14)) else
    if a2 = 5 then (bn1 (fX1_hasOfficer 15 a3 i) fun v16 =>
    if v16 = 0 then (some ((-1), i)) else (bn2 (fX3_pass p1 a3 1 i rv) fun v18 i19 =>
    some (v18, i19))) else
    (some ((-1), i))
theorem kX3_done  {p1 : Nat} {vR : Int32} {iR : Nat → Nat → Int32} (hX : aX p s m args c RX3 cX3_done 5 D cA A ad0) (hr : meth.sig.returnType = (some .int)) (hlk : meth.locks = false) (hRf : 6 ≤ R.frames) (hRl : 64 * 6 ≤ R.locals) (h1 : isScn sh rv p1) {a2 : Int32} {a3 : Int32} {a4 : Int32} (hG : aGood sh rv) (hf : fX3_done p1 a2 a3 a4 i rv = some (vR, iR)) : aJ p l e R s m args below meth c (MQ below (aPost D cA ad0 A (sh, i0, lo0, rv0) (some (.int vR)) (sh, iR, lo, rv)) args s (sh.length - sh.length) (aSn sh - aSn sh) A) D cA A ad0 5 sh.length (aSn sh) 0 [some (.ref (100 + 23)), some (.ref (100 + p1)), some (.int a2), some (.int a3), some (.int a4)] [] (sh, i, lo, rv) := by
  unfold fX3_done at hf
  refine j_iload_n hX dX3_done_0 rfl ?_
  refine sw2 (k := 0) hf (fun hc0 hf => ?_) (fun hc0 hf => ?_)
  · refine j_tabIn (off := 39) (tgt := 40) hX dX3_done_1 (by rw [hc0]; decide) (by rw [hc0]; decide) (by rw [hc0]; rfl) (by decide) ?_
    refine j_aload_n hX dX3_done_40 rfl ?_
    refine j_aload_n hX dX3_done_41 rfl ?_
    refine j_iload_n hX dX3_done_42 rfl ?_
    refine j_iload hX dX3_done_43 rfl ?_
    obtain ⟨v1, i2, hh3, hf⟩ := bd2 hf
    refine j_cV3i hX lk_X3_130 kX3 dX3_done_45 (sh_23 hG) (okX3_movePaper hG h1 hh3) rfl rfl (rmm (by omega) hRf hRl (by decide)) (Nat.le_of_ble_eq_true rfl) (Nat.le_add_right _ _) (Nat.le_add_right _ _) ?_
    refine jpc (b := 48) rfl ?_
    cases hf
    exact j_ret hX hr hlk rfl dX3_done_48
  refine sw2 (k := 1) hf (fun hc1 hf => ?_) (fun hc1 hf => ?_)
  · refine j_tabIn (off := 48) (tgt := 49) hX dX3_done_1 (by rw [hc1]; decide) (by rw [hc1]; decide) (by rw [hc1]; rfl) (by decide) ?_
    refine j_aload_n hX dX3_done_49 rfl ?_
    refine j_aload_n hX dX3_done_50 rfl ?_
    refine j_iload_n hX dX3_done_51 rfl ?_
    refine j_iload hX dX3_done_52 rfl ?_
    obtain ⟨v4, i5, hh6, hf⟩ := bd2 hf
    refine j_cV3i hX lk_X3_133 kX3 dX3_done_54 (sh_23 hG) (okX3_sayAnother hG h1 hh6) rfl rfl (rmm (by omega) hRf hRl (by decide)) (Nat.le_of_ble_eq_true rfl) (Nat.le_add_right _ _) (Nat.le_add_right _ _) ?_
    refine jpc (b := 57) rfl ?_
    cases hf
    exact j_ret hX hr hlk rfl dX3_done_57
  refine sw2 (k := 2) hf (fun hc2 hf => ?_) (fun hc2 hf => ?_)
  · refine j_tabIn (off := 57) (tgt := 58) hX dX3_done_1 (by rw [hc2]; decide) (by rw [hc2]; decide) (by rw [hc2]; rfl) (by decide) ?_
    refine j_aload_n hX dX3_done_58 rfl ?_
    refine j_aload_n hX dX3_done_59 rfl ?_
    refine j_iload_n hX dX3_done_60 rfl ?_
    obtain ⟨v7, i8, hh9, hf⟩ := bd2 hf
    refine j_cV2i hX lk_X3_136 kX3 dX3_done_61 (sh_23 hG) (okX3_wakeByHand hG h1 hh9) rfl rfl (rmm (by omega) hRf hRl (by decide)) (Nat.le_of_ble_eq_true rfl) (Nat.le_add_right _ _) (Nat.le_add_right _ _) ?_
    cases hf
    exact j_ret hX hr hlk rfl dX3_done_64
  refine sw2 (k := 3) hf (fun hc3 hf => ?_) (fun hc3 hf => ?_)
  · refine j_tabIn (off := 64) (tgt := 65) hX dX3_done_1 (by rw [hc3]; decide) (by rw [hc3]; decide) (by rw [hc3]; rfl) (by decide) ?_
    refine j_aload_n hX dX3_done_65 rfl ?_
    refine j_aload_n hX dX3_done_66 rfl ?_
    refine j_iload_n hX dX3_done_67 rfl ?_
    obtain ⟨v10, i11, hh12, hf⟩ := bd2 hf
    refine j_cV2i hX lk_X3_139 kX3 dX3_done_68 (sh_23 hG) (okX3_lieDown hG h1 hh12) rfl rfl (rmm (by omega) hRf hRl (by decide)) (Nat.le_of_ble_eq_true rfl) (Nat.le_add_right _ _) (Nat.le_add_right _ _) ?_
    cases hf
    exact j_ret hX hr hlk rfl dX3_done_71
  refine sw2 (k := 4) hf (fun hc4 hf => ?_) (fun hc4 hf => ?_)
  · refine j_tabIn (off := 71) (tgt := 72) hX dX3_done_1 (by rw [hc4]; decide) (by rw [hc4]; decide) (by rw [hc4]; rfl) (by decide) ?_
    refine j_aload_n hX dX3_done_72 rfl ?_
    refine j_aload_n hX dX3_done_73 rfl ?_
    refine j_iload_n hX dX3_done_74 rfl ?_
    refine j_iload hX dX3_done_75 rfl ?_
    obtain ⟨v13, i14, hh15, hf⟩ := bd2 hf
    refine j_cV3i hX lk_X3_142 kX3 dX3_done_77 (sh_23 hG) (okX3_swapBerths hG h1 hh15) rfl rfl (rmm (by omega) hRf hRl (by decide)) (Nat.le_of_ble_eq_true rfl) (Nat.le_add_right _ _) (Nat.le_add_right _ _) ?_
    refine jpc (b := 80) rfl ?_
    cases hf
    exact j_ret hX hr hlk rfl dX3_done_80
  refine sw2 (k := 5) hf (fun hc5 hf => ?_) (fun hc5 hf => ?_)
  · refine j_tabIn (off := 80) (tgt := 81) hX dX3_done_1 (by rw [hc5]; decide) (by rw [hc5]; decide) (by rw [hc5]; rfl) (by decide) ?_
    refine j_aload_n hX dX3_done_81 rfl ?_
    refine j_getR (k := 0) hX kX3 (by decide) fk_X3_17 (rf_23_0 hG) dX3_done_82 (sh_23 hG) rfl ?_
    refine j_iload_n hX dX3_done_85 rfl ?_
    obtain ⟨v16, hh17, hf⟩ := bd1 hf
    refine j_cV1i hX lk_X3_145 kX1 dX3_done_86 (sh_15 hG) (okX1_hasOfficer hG (cr_15 hG) hh17) rfl rfl (rmm (by omega) hRf hRl (by decide)) (Nat.le_of_ble_eq_true rfl) (Nat.le_add_right _ _) (Nat.le_add_right _ _) ?_
    refine j_if_eq (tgt := 102) hX dX3_done_89 (by decide) (fun hc => ?_) (fun hc => ?_)
    · have hf := ifp hc hf
      refine j_iconst hX dX3_done_102 ic_m1 ?_
      cases hf
      exact j_ret hX hr hlk rfl dX3_done_103
    · have hf := ifn hc hf
      refine j_aload_n hX dX3_done_92 rfl ?_
      refine j_aload_n hX dX3_done_93 rfl ?_
      refine j_iload_n hX dX3_done_94 rfl ?_
      refine j_iconst hX dX3_done_95 ic_1 ?_
      obtain ⟨v18, i19, hh20, hf⟩ := bd2 hf
      refine j_cV3i hX lk_X3_148 kX3 dX3_done_96 (sh_23 hG) (okX3_pass hG h1 hh20) rfl rfl (rmm (by omega) hRf hRl (by decide)) (Nat.le_of_ble_eq_true rfl) (Nat.le_add_right _ _) (Nat.le_add_right _ _) ?_
      refine jpc (b := 99) rfl ?_
      refine j_goto (tgt := 103) hX dX3_done_99 (by decide) ?_
      cases hf
      exact j_ret hX hr hlk rfl dX3_done_103
  refine j_tabOut (tgt := 104) hX dX3_done_1 (by have g0 := i32ne (z := 0) hc0 (by decide); have g1 := i32ne (z := 1) hc1 (by decide); have g2 := i32ne (z := 2) hc2 (by decide); have g3 := i32ne (z := 3) hc3 (by decide); have g4 := i32ne (z := 4) hc4 (by decide); have g5 := i32ne (z := 5) hc5 (by decide); omega) (by decide) ?_
  refine j_iconst hX dX3_done_104 ic_m1 ?_
  cases hf
  exact j_ret hX hr hlk rfl dX3_done_105
theorem okX3_done {l : Launch} {sh : List aSh} {i : Nat → Nat → Int32} {lo : Nat → Nat → Int64} {rv : Nat → Nat → Option Nat}  {p1 : Nat} {a2 : Int32} {a3 : Int32} {a4 : Int32} {vR : Int32} {iR : Nat → Nat → Int32} (hG : aGood sh rv) (h1 : isScn sh rv p1) (hf : fX3_done p1 a2 a3 a4 i rv = some (vR, iR)) : aM l yX3_done cX3_done 5 (some .int) 6 [.ref (100 + 23), .ref (100 + p1), .int a2, .int a3, .int a4] (sh, i, lo, rv) (some (.int vR)) (sh, iR, lo, rv) :=
  aM_of (by decide) (Nat.le_of_ble_eq_true rfl) (Nat.le_refl _) (Nat.le_refl _) (fun p e s m args below meth c D cA A ad0 hX hr hlk hnm => kX3_done hX hr hlk (Nat.le_refl _) (Nat.le_refl _) h1 hG hf)
def fX6_keepAct (i : Nat → Nat → Int32) : Option ((Nat → Nat → Int32)) := lt (u2 i 25 4 (((i 25 4) + (1 : Int32)) - ((i 25 4) + (1 : Int32)) / (41 : Int32) * (41 : Int32))) fun i1 =>
    lt (u2 i1 25 5 (if ((i1 25 5) + (1 : Int32)) < (40 : Int32) then ((i1 25 5) + (1 : Int32)) else (40 : Int32))) fun i2 =>
    some (i2)
theorem kX6_keepAct  {iR : Nat → Nat → Int32} (hX : aX p s m args c RX6 cX6_keepAct 1 D cA A ad0) (hr : meth.sig.returnType = none) (hlk : meth.locks = false) (hRf : 1 ≤ R.frames) (hRl : 64 * 1 ≤ R.locals) (hG : aGood sh rv) (hf : fX6_keepAct i = some (iR)) : aJ p l e R s m args below meth c (MQ below (aPost D cA ad0 A (sh, i0, lo0, rv0) none (sh, iR, lo, rv)) args s (sh.length - sh.length) (aSn sh - aSn sh) A) D cA A ad0 1 sh.length (aSn sh) 0 [some (.ref (100 + 25))] [] (sh, i, lo, rv) := by
  unfold fX6_keepAct at hf
  refine j_aload_n hX dX6_keepAct_0 rfl ?_
  refine j_aload_n hX dX6_keepAct_1 rfl ?_
  refine j_getI (k := 4) hX kX6 (by decide) fk_X6_32 dX6_keepAct_2 (sh_25 hG) rfl ?_
  refine j_iconst hX dX6_keepAct_5 ic_1 ?_
  refine j_iadd hX dX6_keepAct_6 ?_
  refine jpc (b := 7) rfl ?_
  refine j_bipush hX dX6_keepAct_7 bp_41 ?_
  refine j_irem hX dX6_keepAct_9 (by decide) ?_
  have hf := ltd hf
  refine j_putI (k := 4) hX kX6 (by decide) fk_X6_32 dX6_keepAct_10 (sh_25 hG) rfl rfl rfl rfl ?_
  refine j_aload_n hX dX6_keepAct_13 rfl ?_
  refine j_bipush hX dX6_keepAct_14 bp_40 ?_
  refine j_aload_n hX dX6_keepAct_16 rfl ?_
  refine jpc (b := 17) rfl ?_
  refine j_getI (k := 5) hX kX6 (by decide) fk_X6_24 dX6_keepAct_17 (sh_25 hG) rfl ?_
  refine j_iconst hX dX6_keepAct_20 ic_1 ?_
  refine j_iadd hX dX6_keepAct_21 ?_
  refine j_min hX lk_X6_39 dX6_keepAct_22 ⟨by omega, Nat.le_trans (Nat.le_of_ble_eq_true rfl) hRl⟩ (Nat.le_add_right _ _) (Nat.le_add_right _ _) ?_
  have hf := ltd hf
  refine j_putI (k := 5) hX kX6 (by decide) fk_X6_24 dX6_keepAct_25 (sh_25 hG) rfl rfl rfl rfl ?_
  cases hf
  exact j_vret hX hr hlk dX6_keepAct_28
theorem okX6_keepAct {l : Launch} {sh : List aSh} {i : Nat → Nat → Int32} {lo : Nat → Nat → Int64} {rv : Nat → Nat → Option Nat}  {iR : Nat → Nat → Int32} (hG : aGood sh rv) (hf : fX6_keepAct i = some (iR)) : aM l yX6_keepAct cX6_keepAct 1 none 1 [.ref (100 + 25)] (sh, i, lo, rv) none (sh, iR, lo, rv) :=
  aM_of (by decide) (Nat.le_of_ble_eq_true rfl) (Nat.le_refl _) (Nat.le_refl _) (fun p e s m args below meth c D cA A ad0 hX hr hlk hnm => kX6_keepAct hX hr hlk (Nat.le_refl _) (Nat.le_refl _) hG hf)
def fX1_allowedTens (p0 : Nat) (i : Nat → Nat → Int32) : Option ((Int32)) := if aIn 0 4 = true then
    (some (((6 : Int32) * (i (p0 + 1) (0 : Int32).toNatClampNeg)))) else none
theorem kX1_allowedTens  {p0 : Nat} {vR : Int32} (hX : aX p s m args c RX1 cX1_allowedTens 1 D cA A ad0) (hr : meth.sig.returnType = (some .int)) (hlk : meth.locks = false) (hRf : 0 ≤ R.frames) (hRl : 64 * 0 ≤ R.locals) (h0 : isCar sh rv p0) (hG : aGood sh rv) (hf : fX1_allowedTens p0 i = some (vR)) : aJ p l e R s m args below meth c (MQ below (aPost D cA ad0 A (sh, i0, lo0, rv0) (some (.int vR)) (sh, i, lo, rv)) args s (sh.length - sh.length) (aSn sh - aSn sh) A) D cA A ad0 1 sh.length (aSn sh) 0 [some (.ref (100 + p0))] [] (sh, i, lo, rv) := by
  unfold fX1_allowedTens at hf
  refine j_bipush hX dX1_allowedTens_0 bp_6 ?_
  refine j_aload_n hX dX1_allowedTens_2 rfl ?_
  refine j_getR (k := 0) hX kX1 (by decide) fk_X1_11 h0.2.2.2.2.1 dX1_allowedTens_3 h0.1 rfl ?_
  refine j_iconst hX dX1_allowedTens_6 ic_0 ?_
  obtain ⟨hg, hf⟩ := gd hf
  refine j_iald hX h0.2.1 hg dX1_allowedTens_7 ?_
  refine j_imul hX dX1_allowedTens_8 ?_
  cases hf
  exact j_ret hX hr hlk rfl dX1_allowedTens_9
theorem okX1_allowedTens {l : Launch} {sh : List aSh} {i : Nat → Nat → Int32} {lo : Nat → Nat → Int64} {rv : Nat → Nat → Option Nat}  {p0 : Nat} {vR : Int32} (hG : aGood sh rv) (h0 : isCar sh rv p0) (hf : fX1_allowedTens p0 i = some (vR)) : aM l yX1_allowedTens cX1_allowedTens 1 (some .int) 0 [.ref (100 + p0)] (sh, i, lo, rv) (some (.int vR)) (sh, i, lo, rv) :=
  aM_of (by decide) (Nat.le_of_ble_eq_true rfl) (Nat.le_refl _) (Nat.le_refl _) (fun p e s m args below meth c D cA A ad0 hX hr hlk hnm => kX1_allowedTens hX hr hlk (Nat.le_refl _) (Nat.le_refl _) h0 hG hf)
def fX3_sleepLost (i : Nat → Nat → Int32) : Option ((Int32)) := some ((i 23 3))
theorem kX3_sleepLost  {vR : Int32} (hX : aX p s m args c RX3 cX3_sleepLost 1 D cA A ad0) (hr : meth.sig.returnType = (some .int)) (hlk : meth.locks = false) (hRf : 0 ≤ R.frames) (hRl : 64 * 0 ≤ R.locals) (hG : aGood sh rv) (hf : fX3_sleepLost i = some (vR)) : aJ p l e R s m args below meth c (MQ below (aPost D cA ad0 A (sh, i0, lo0, rv0) (some (.int vR)) (sh, i, lo, rv)) args s (sh.length - sh.length) (aSn sh - aSn sh) A) D cA A ad0 1 sh.length (aSn sh) 0 [some (.ref (100 + 23))] [] (sh, i, lo, rv) := by
  unfold fX3_sleepLost at hf
  refine j_aload_n hX dX3_sleepLost_0 rfl ?_
  refine j_getI (k := 3) hX kX3 (by decide) fk_X3_25 dX3_sleepLost_1 (sh_23 hG) rfl ?_
  cases hf
  exact j_ret hX hr hlk rfl dX3_sleepLost_4
theorem okX3_sleepLost {l : Launch} {sh : List aSh} {i : Nat → Nat → Int32} {lo : Nat → Nat → Int64} {rv : Nat → Nat → Option Nat}  {vR : Int32} (hG : aGood sh rv) (hf : fX3_sleepLost i = some (vR)) : aM l yX3_sleepLost cX3_sleepLost 1 (some .int) 0 [.ref (100 + 23)] (sh, i, lo, rv) (some (.int vR)) (sh, i, lo, rv) :=
  aM_of (by decide) (Nat.le_of_ble_eq_true rfl) (Nat.le_refl _) (Nat.le_refl _) (fun p e s m args below meth c D cA A ad0 hX hr hlk hnm => kX3_sleepLost hX hr hlk (Nat.le_refl _) (Nat.le_refl _) hG hf)
def fX8_borders (p0 : Nat) (i : Nat → Nat → Int32) : Option ((Int32)) := if aIn 55 56 = true then
    (some ((i (p0 + 1) (55 : Int32).toNatClampNeg))) else none
theorem kX8_borders  {p0 : Nat} {vR : Int32} (hX : aX p s m args c RX8 cX8_borders 1 D cA A ad0) (hr : meth.sig.returnType = (some .int)) (hlk : meth.locks = false) (hRf : 0 ≤ R.frames) (hRl : 64 * 0 ≤ R.locals) (h0 : isScn sh rv p0) (hG : aGood sh rv) (hf : fX8_borders p0 i = some (vR)) : aJ p l e R s m args below meth c (MQ below (aPost D cA ad0 A (sh, i0, lo0, rv0) (some (.int vR)) (sh, i, lo, rv)) args s (sh.length - sh.length) (aSn sh - aSn sh) A) D cA A ad0 1 sh.length (aSn sh) 0 [some (.ref (100 + p0))] [] (sh, i, lo, rv) := by
  unfold fX8_borders at hf
  refine j_aload_n hX dX8_borders_0 rfl ?_
  refine j_getR (k := 0) hX kX8 (by decide) fk_X8_11 h0.2.2 dX8_borders_1 h0.1 rfl ?_
  refine j_bipush hX dX8_borders_4 bp_55 ?_
  obtain ⟨hg, hf⟩ := gd hf
  refine j_iald hX h0.2.1 hg dX8_borders_6 ?_
  cases hf
  exact j_ret hX hr hlk rfl dX8_borders_7
theorem okX8_borders {l : Launch} {sh : List aSh} {i : Nat → Nat → Int32} {lo : Nat → Nat → Int64} {rv : Nat → Nat → Option Nat}  {p0 : Nat} {vR : Int32} (hG : aGood sh rv) (h0 : isScn sh rv p0) (hf : fX8_borders p0 i = some (vR)) : aM l yX8_borders cX8_borders 1 (some .int) 0 [.ref (100 + p0)] (sh, i, lo, rv) (some (.int vR)) (sh, i, lo, rv) :=
  aM_of (by decide) (Nat.le_of_ble_eq_true rfl) (Nat.le_refl _) (Nat.le_refl _) (fun p e s m args below meth c D cA A ad0 hX hr hlk hnm => kX8_borders hX hr hlk (Nat.le_refl _) (Nat.le_refl _) h0 hG hf)
def fX8_addBorder (p0 : Nat) (i : Nat → Nat → Int32) : Option ((Nat → Nat → Int32)) := if aIn 55 56 = true then
    (if aIn 55 56 = true then
    (lt (u2 i (p0 + 1) (55 : Int32).toNatClampNeg ((i (p0 + 1) (55 : Int32).toNatClampNeg) + (1 : Int32))) fun i1 => some (i1)) else none) else none
theorem kX8_addBorder  {p0 : Nat} {iR : Nat → Nat → Int32} (hX : aX p s m args c RX8 cX8_addBorder 1 D cA A ad0) (hr : meth.sig.returnType = none) (hlk : meth.locks = false) (hRf : 0 ≤ R.frames) (hRl : 64 * 0 ≤ R.locals) (h0 : isScn sh rv p0) (hG : aGood sh rv) (hf : fX8_addBorder p0 i = some (iR)) : aJ p l e R s m args below meth c (MQ below (aPost D cA ad0 A (sh, i0, lo0, rv0) none (sh, iR, lo, rv)) args s (sh.length - sh.length) (aSn sh - aSn sh) A) D cA A ad0 1 sh.length (aSn sh) 0 [some (.ref (100 + p0))] [] (sh, i, lo, rv) := by
  unfold fX8_addBorder at hf
  refine j_aload_n hX dX8_addBorder_0 rfl ?_
  refine j_getR (k := 0) hX kX8 (by decide) fk_X8_11 h0.2.2 dX8_addBorder_1 h0.1 rfl ?_
  refine j_bipush hX dX8_addBorder_4 bp_55 ?_
  refine j_dup2 hX dX8_addBorder_6 rfl rfl ?_
  obtain ⟨hg, hf⟩ := gd hf
  refine j_iald hX h0.2.1 hg dX8_addBorder_7 ?_
  refine j_iconst hX dX8_addBorder_8 ic_1 ?_
  refine j_iadd hX dX8_addBorder_9 ?_
  obtain ⟨hg, hf⟩ := gd hf
  have hf := ltd hf
  refine j_iast hX h0.2.1 hg dX8_addBorder_10 ?_
  cases hf
  exact j_vret hX hr hlk dX8_addBorder_11
theorem okX8_addBorder {l : Launch} {sh : List aSh} {i : Nat → Nat → Int32} {lo : Nat → Nat → Int64} {rv : Nat → Nat → Option Nat}  {p0 : Nat} {iR : Nat → Nat → Int32} (hG : aGood sh rv) (h0 : isScn sh rv p0) (hf : fX8_addBorder p0 i = some (iR)) : aM l yX8_addBorder cX8_addBorder 1 none 0 [.ref (100 + p0)] (sh, i, lo, rv) none (sh, iR, lo, rv) :=
  aM_of (by decide) (Nat.le_of_ble_eq_true rfl) (Nat.le_refl _) (Nat.le_refl _) (fun p e s m args below meth c D cA A ad0 hX hr hlk hnm => kX8_addBorder hX hr hlk (Nat.le_refl _) (Nat.le_refl _) h0 hG hf)
def fX6_write (p1 : Nat) (a2 : Int32) (a3 : Int32) (a4 : Int32) (a5 : Int32) (i : Nat → Nat → Int32) : Option ((Nat → Nat → Int32)) := bn1 (fX8_borders p1 i) fun v1 =>
    lt ((v1 - v1 / (100 : Int32) * (100 : Int32)) * (4 : Int32)) fun t3 =>
    if aIn t3 400 = true then
    (lt (u2 i 27 (t3 : Int32).toNatClampNeg a2) fun i4 => if aIn (t3 + (1 : Int32)) 400 = true then
    (lt (u2 i4 27 ((t3 + (1 : Int32)) : Int32).toNatClampNeg a3) fun i5 => if aIn (t3 + (2 : Int32)) 400 = true then
    (lt (u2 i5 27 ((t3 + (2 : Int32)) : Int32).toNatClampNeg a4) fun i6 => if aIn (t3 + (3 : Int32)) 400 = true then
    (lt (u2 i6 27 ((t3 + (3 : Int32)) : Int32).toNatClampNeg a5) fun i7 => bn1 (fX8_addBorder p1 i7) fun i8 =>
    some (i8)) else none) else none) else none) else none
theorem kX6_write  {p1 : Nat} {iR : Nat → Nat → Int32} (hX : aX p s m args c RX6 cX6_write 7 D cA A ad0) (hr : meth.sig.returnType = none) (hlk : meth.locks = false) (hRf : 1 ≤ R.frames) (hRl : 64 * 1 ≤ R.locals) (h1 : isScn sh rv p1) {a2 : Int32} {a3 : Int32} {a4 : Int32} {a5 : Int32} (hG : aGood sh rv) (hf : fX6_write p1 a2 a3 a4 a5 i = some (iR)) : aJ p l e R s m args below meth c (MQ below (aPost D cA ad0 A (sh, i0, lo0, rv0) none (sh, iR, lo, rv)) args s (sh.length - sh.length) (aSn sh - aSn sh) A) D cA A ad0 7 sh.length (aSn sh) 0 [some (.ref (100 + 25)), some (.ref (100 + p1)), some (.int a2), some (.int a3), some (.int a4), some (.int a5), none] [] (sh, i, lo, rv) := by
  unfold fX6_write at hf
  refine j_aload_n hX dX6_write_0 rfl ?_
  obtain ⟨v1, hh2, hf⟩ := bd1 hf
  refine j_cV0i hX lk_X6_48 kX8 dX6_write_1 h1.1 (okX8_borders hG h1 hh2) rfl rfl (rmm (by omega) hRf hRl (by decide)) (Nat.le_of_ble_eq_true rfl) (Nat.le_add_right _ _) (Nat.le_add_right _ _) ?_
  refine j_bipush hX dX6_write_4 bp_100 ?_
  refine j_irem hX dX6_write_6 (by decide) ?_
  refine j_iconst hX dX6_write_7 ic_4 ?_
  refine jpc (b := 8) rfl ?_
  refine j_imul hX dX6_write_8 ?_
  have hf := ltd hf
  refine j_istore hX dX6_write_9 (by decide) rfl ?_
  refine j_aload_n hX dX6_write_11 rfl ?_
  refine j_getR (k := 1) hX kX6 (by decide) fk_X6_15 (rf_25_1 hG) dX6_write_12 (sh_25 hG) rfl ?_
  refine j_iload hX dX6_write_15 rfl ?_
  refine j_iload_n hX dX6_write_17 rfl ?_
  refine jpc (b := 18) rfl ?_
  obtain ⟨hg, hf⟩ := gd hf
  have hf := ltd hf
  refine j_iast hX (sh_27 hG) hg dX6_write_18 ?_
  refine j_aload_n hX dX6_write_19 rfl ?_
  refine j_getR (k := 1) hX kX6 (by decide) fk_X6_15 (rf_25_1 hG) dX6_write_20 (sh_25 hG) rfl ?_
  refine j_iload hX dX6_write_23 rfl ?_
  refine j_iconst hX dX6_write_25 ic_1 ?_
  refine j_iadd hX dX6_write_26 ?_
  refine jpc (b := 27) rfl ?_
  refine j_iload_n hX dX6_write_27 rfl ?_
  obtain ⟨hg, hf⟩ := gd hf
  have hf := ltd hf
  refine j_iast hX (sh_27 hG) hg dX6_write_28 ?_
  refine j_aload_n hX dX6_write_29 rfl ?_
  refine j_getR (k := 1) hX kX6 (by decide) fk_X6_15 (rf_25_1 hG) dX6_write_30 (sh_25 hG) rfl ?_
  refine j_iload hX dX6_write_33 rfl ?_
  refine j_iconst hX dX6_write_35 ic_2 ?_
  refine j_iadd hX dX6_write_36 ?_
  refine jpc (b := 37) rfl ?_
  refine j_iload hX dX6_write_37 rfl ?_
  obtain ⟨hg, hf⟩ := gd hf
  have hf := ltd hf
  refine j_iast hX (sh_27 hG) hg dX6_write_39 ?_
  refine j_aload_n hX dX6_write_40 rfl ?_
  refine j_getR (k := 1) hX kX6 (by decide) fk_X6_15 (rf_25_1 hG) dX6_write_41 (sh_25 hG) rfl ?_
  refine j_iload hX dX6_write_44 rfl ?_
  refine j_iconst hX dX6_write_46 ic_3 ?_
  refine j_iadd hX dX6_write_47 ?_
  refine jpc (b := 48) rfl ?_
  refine j_iload hX dX6_write_48 rfl ?_
  obtain ⟨hg, hf⟩ := gd hf
  have hf := ltd hf
  refine j_iast hX (sh_27 hG) hg dX6_write_50 ?_
  refine j_aload_n hX dX6_write_51 rfl ?_
  obtain ⟨i8, hh9, hf⟩ := bd1 hf
  refine j_cV0v hX lk_X6_52 kX8 dX6_write_52 h1.1 (okX8_addBorder hG h1 hh9) rfl rfl (rmm (by omega) hRf hRl (by decide)) (Nat.le_of_ble_eq_true rfl) (Nat.le_add_right _ _) (Nat.le_add_right _ _) ?_
  cases hf
  exact j_vret hX hr hlk dX6_write_55
theorem okX6_write {l : Launch} {sh : List aSh} {i : Nat → Nat → Int32} {lo : Nat → Nat → Int64} {rv : Nat → Nat → Option Nat}  {p1 : Nat} {a2 : Int32} {a3 : Int32} {a4 : Int32} {a5 : Int32} {iR : Nat → Nat → Int32} (hG : aGood sh rv) (h1 : isScn sh rv p1) (hf : fX6_write p1 a2 a3 a4 a5 i = some (iR)) : aM l yX6_write cX6_write 7 none 1 [.ref (100 + 25), .ref (100 + p1), .int a2, .int a3, .int a4, .int a5] (sh, i, lo, rv) none (sh, iR, lo, rv) :=
  aM_of (by decide) (Nat.le_of_ble_eq_true rfl) (Nat.le_refl _) (Nat.le_refl _) (fun p e s m args below meth c D cA A ad0 hX hr hlk hnm => kX6_write hX hr hlk (Nat.le_refl _) (Nat.le_refl _) h1 hG hf)
def fX11_writeLog_26 (s2 : Int32) (s3 : Int32) (s4 : Int32) (i : Nat → Nat → Int32) : Option ((Nat → Nat → Int32)) := bn1 (fX3_sleepLost i) fun v3 =>
    bn1 (fX6_write 19 s2 s3 s4 v3 i) fun i5 =>
    some (i5)
theorem kX11_writeLog_26  {iR : Nat → Nat → Int32} (hX : aX p s m args c RX11 cX11_writeLog 3 D cA A ad0) (hr : meth.sig.returnType = none) (hlk : meth.locks = false) (hRf : 2 ≤ R.frames) (hRl : 64 * 2 ≤ R.locals) {s2 : Int32} {s3 : Int32} {s4 : Int32} (hG : aGood sh rv) (hf : fX11_writeLog_26 s2 s3 s4 i = some (iR)) : aJ p l e R s m args below meth c (MQ below (aPost D cA ad0 A (sh, i0, lo0, rv0) none (sh, iR, lo, rv)) args s (sh.length - sh.length) (aSn sh - aSn sh) A) D cA A ad0 3 sh.length (aSn sh) 26 [some (.ref (100 + 0)), none, none] [.int s4, .int s3, .int s2, .ref (100 + 19), .ref (100 + 25)] (sh, i, lo, rv) := by
  unfold fX11_writeLog_26 at hf
  refine j_aload_n hX dX11_writeLog_26 rfl ?_
  refine j_getR (k := 6) hX kX11 (by decide) fk_X11_48 (rf_0_6 hG) dX11_writeLog_27 (sh_0 hG) rfl ?_
  obtain ⟨v3, hh4, hf⟩ := bd1 hf
  refine j_cV0i hX lk_X11_237 kX3 dX11_writeLog_30 (sh_23 hG) (okX3_sleepLost hG hh4) rfl rfl (rmm (by omega) hRf hRl (by decide)) (Nat.le_of_ble_eq_true rfl) (Nat.le_add_right _ _) (Nat.le_add_right _ _) ?_
  obtain ⟨i5, hh6, hf⟩ := bd1 hf
  refine j_cV5v hX lk_X11_365 kX6 dX11_writeLog_33 (sh_25 hG) (okX6_write hG (sc_19 hG) hh6) rfl rfl (rmm (by omega) hRf hRl (by decide)) (Nat.le_of_ble_eq_true rfl) (Nat.le_add_right _ _) (Nat.le_add_right _ _) ?_
  cases hf
  exact j_vret hX hr hlk dX11_writeLog_36
def fX11_writeLog (a1 : Int32) (a2 : Int32) (i : Nat → Nat → Int32) : Option ((Nat → Nat → Int32)) := bn1 (fX1_allowedTens 15 i) fun v1 =>
    if a2 ≤ v1 then (fX11_writeLog_26 a1 a2 0 i) else (fX11_writeLog_26 a1 a2 1 i)
theorem kX11_writeLog  {iR : Nat → Nat → Int32} (hX : aX p s m args c RX11 cX11_writeLog 3 D cA A ad0) (hr : meth.sig.returnType = none) (hlk : meth.locks = false) (hRf : 2 ≤ R.frames) (hRl : 64 * 2 ≤ R.locals) {a1 : Int32} {a2 : Int32} (hG : aGood sh rv) (hf : fX11_writeLog a1 a2 i = some (iR)) : aJ p l e R s m args below meth c (MQ below (aPost D cA ad0 A (sh, i0, lo0, rv0) none (sh, iR, lo, rv)) args s (sh.length - sh.length) (aSn sh - aSn sh) A) D cA A ad0 3 sh.length (aSn sh) 0 [some (.ref (100 + 0)), some (.int a1), some (.int a2)] [] (sh, i, lo, rv) := by
  unfold fX11_writeLog at hf
  refine j_aload_n hX dX11_writeLog_0 rfl ?_
  refine j_getR (k := 7) hX kX11 (by decide) fk_X11_55 (rf_0_7 hG) dX11_writeLog_1 (sh_0 hG) rfl ?_
  refine j_aload_n hX dX11_writeLog_4 rfl ?_
  refine j_getR (k := 4) hX kX11 (by decide) fk_X11_36 (rf_0_4 hG) dX11_writeLog_5 (sh_0 hG) rfl ?_
  refine j_iload_n hX dX11_writeLog_8 rfl ?_
  refine jpc (b := 9) rfl ?_
  refine j_iload_n hX dX11_writeLog_9 rfl ?_
  refine j_iload_n hX dX11_writeLog_10 rfl ?_
  refine j_aload_n hX dX11_writeLog_11 rfl ?_
  refine j_getR (k := 3) hX kX11 (by decide) fk_X11_30 (rf_0_3 hG) dX11_writeLog_12 (sh_0 hG) rfl ?_
  obtain ⟨v1, hh2, hf⟩ := bd1 hf
  refine j_cV0i hX lk_X11_309 kX1 dX11_writeLog_15 (sh_15 hG) (okX1_allowedTens hG (cr_15 hG) hh2) rfl rfl (rmm (by omega) hRf hRl (by decide)) (Nat.le_of_ble_eq_true rfl) (Nat.le_add_right _ _) (Nat.le_add_right _ _) ?_
  refine j_icmp_le (tgt := 25) hX dX11_writeLog_18 (by decide) (fun hc => ?_) (fun hc => ?_)
  · have hf := ifp hc hf
    refine j_iconst hX dX11_writeLog_25 ic_0 ?_
    exact aJx (kX11_writeLog_26 hX hr hlk hRf hRl hG  hf) (And.intro rfl (rfl))
  · have hf := ifn hc hf
    refine j_iconst hX dX11_writeLog_21 ic_1 ?_
    refine j_goto (tgt := 26) hX dX11_writeLog_22 (by decide) ?_
    exact aJx (kX11_writeLog_26 hX hr hlk hRf hRl hG  hf) (And.intro rfl (rfl))
theorem okX11_writeLog {l : Launch} {sh : List aSh} {i : Nat → Nat → Int32} {lo : Nat → Nat → Int64} {rv : Nat → Nat → Option Nat}  {a1 : Int32} {a2 : Int32} {iR : Nat → Nat → Int32} (hG : aGood sh rv) (hf : fX11_writeLog a1 a2 i = some (iR)) : aM l yX11_writeLog cX11_writeLog 3 none 2 [.ref (100 + 0), .int a1, .int a2] (sh, i, lo, rv) none (sh, iR, lo, rv) :=
  aM_of (by decide) (Nat.le_of_ble_eq_true rfl) (Nat.le_refl _) (Nat.le_refl _) (fun p e s m args below meth c D cA A ad0 hX hr hlk hnm => kX11_writeLog hX hr hlk (Nat.le_refl _) (Nat.le_refl _) hG hf)
def fX11_act (a1 : Int32) (a2 : Int32) (a3 : Int32) (i : Nat → Nat → Int32) (rv : Nat → Nat → Option Nat) : Option ((Int32) × (Nat → Nat → Int32)) := bn1 (fX6_note 19 i) fun i1 =>
    bn2 (fX3_done 19 a1 a2 a3 i1 rv) fun v3 i4 =>
    if v3 = (-1) then (some (v3, i4)) else (bn1 (fX6_keepAct i4) fun i6 =>
    if a1 = 5 then (bn1 (fX11_writeLog a2 v3 i6) fun i8 =>
    some (v3, i8)) else (some (v3, i6)))
theorem kX11_act  {vR : Int32} {iR : Nat → Nat → Int32} (hX : aX p s m args c RX11 cX11_act 5 D cA A ad0) (hr : meth.sig.returnType = (some .int)) (hlk : meth.locks = false) (hRf : 7 ≤ R.frames) (hRl : 64 * 7 ≤ R.locals) {a1 : Int32} {a2 : Int32} {a3 : Int32} (hG : aGood sh rv) (hf : fX11_act a1 a2 a3 i rv = some (vR, iR)) : aJ p l e R s m args below meth c (MQ below (aPost D cA ad0 A (sh, i0, lo0, rv0) (some (.int vR)) (sh, iR, lo, rv)) args s (sh.length - sh.length) (aSn sh - aSn sh) A) D cA A ad0 5 sh.length (aSn sh) 0 [some (.ref (100 + 0)), some (.int a1), some (.int a2), some (.int a3), none] [] (sh, i, lo, rv) := by
  unfold fX11_act at hf
  refine j_aload_n hX dX11_act_0 rfl ?_
  refine j_getR (k := 7) hX kX11 (by decide) fk_X11_55 (rf_0_7 hG) dX11_act_1 (sh_0 hG) rfl ?_
  refine j_aload_n hX dX11_act_4 rfl ?_
  refine j_getR (k := 4) hX kX11 (by decide) fk_X11_36 (rf_0_4 hG) dX11_act_5 (sh_0 hG) rfl ?_
  obtain ⟨i1, hh2, hf⟩ := bd1 hf
  refine j_cV1v hX lk_X11_192 kX6 dX11_act_8 (sh_25 hG) (okX6_note hG (sc_19 hG) hh2) rfl rfl (rmm (by omega) hRf hRl (by decide)) (Nat.le_of_ble_eq_true rfl) (Nat.le_add_right _ _) (Nat.le_add_right _ _) ?_
  refine jpc (b := 11) rfl ?_
  refine j_aload_n hX dX11_act_11 rfl ?_
  refine j_getR (k := 6) hX kX11 (by decide) fk_X11_48 (rf_0_6 hG) dX11_act_12 (sh_0 hG) rfl ?_
  refine j_aload_n hX dX11_act_15 rfl ?_
  refine j_getR (k := 4) hX kX11 (by decide) fk_X11_36 (rf_0_4 hG) dX11_act_16 (sh_0 hG) rfl ?_
  refine j_iload_n hX dX11_act_19 rfl ?_
  refine j_iload_n hX dX11_act_20 rfl ?_
  refine jpc (b := 21) rfl ?_
  refine j_iload_n hX dX11_act_21 rfl ?_
  obtain ⟨v3, i4, hh5, hf⟩ := bd2 hf
  refine j_cV4i hX lk_X11_226 kX3 dX11_act_22 (sh_23 hG) (okX3_done hG (sc_19 hG) hh5) rfl rfl (rmm (by omega) hRf hRl (by decide)) (Nat.le_of_ble_eq_true rfl) (Nat.le_add_right _ _) (Nat.le_add_right _ _) ?_
  refine j_istore hX dX11_act_25 (by decide) rfl ?_
  refine j_iload hX dX11_act_27 rfl ?_
  refine j_iconst hX dX11_act_29 ic_m1 ?_
  refine j_icmp_eq (tgt := 52) hX dX11_act_30 (by decide) (fun hc => ?_) (fun hc => ?_)
  · have hf := ifp hc hf
    refine j_iload hX dX11_act_52 rfl ?_
    cases hf
    exact j_ret hX hr hlk rfl dX11_act_54
  · have hf := ifn hc hf
    refine j_aload_n hX dX11_act_33 rfl ?_
    refine j_getR (k := 7) hX kX11 (by decide) fk_X11_55 (rf_0_7 hG) dX11_act_34 (sh_0 hG) rfl ?_
    obtain ⟨i6, hh7, hf⟩ := bd1 hf
    refine j_cV0v hX lk_X11_199 kX6 dX11_act_37 (sh_25 hG) (okX6_keepAct hG hh7) rfl rfl (rmm (by omega) hRf hRl (by decide)) (Nat.le_of_ble_eq_true rfl) (Nat.le_add_right _ _) (Nat.le_add_right _ _) ?_
    refine j_iload_n hX dX11_act_40 rfl ?_
    refine j_iconst hX dX11_act_41 ic_5 ?_
    refine jpc (b := 42) rfl ?_
    refine j_icmp_ne (tgt := 52) hX dX11_act_42 (by decide) (fun hc => ?_) (fun hc => ?_)
    · have hf := ifn hc hf
      refine j_iload hX dX11_act_52 rfl ?_
      cases hf
      exact j_ret hX hr hlk rfl dX11_act_54
    · have hf := ifp hc hf
      refine j_aload_n hX dX11_act_45 rfl ?_
      refine j_iload_n hX dX11_act_46 rfl ?_
      refine j_iload hX dX11_act_47 rfl ?_
      obtain ⟨i8, hh9, hf⟩ := bd1 hf
      refine j_cV2v hX lk_X11_361 kX11 dX11_act_49 (sh_0 hG) (okX11_writeLog hG hh9) rfl rfl (rmm (by omega) hRf hRl (by decide)) (Nat.le_of_ble_eq_true rfl) (Nat.le_add_right _ _) (Nat.le_add_right _ _) ?_
      refine j_iload hX dX11_act_52 rfl ?_
      refine jpc (b := 54) rfl ?_
      cases hf
      exact j_ret hX hr hlk rfl dX11_act_54
theorem okX11_act {l : Launch} {sh : List aSh} {i : Nat → Nat → Int32} {lo : Nat → Nat → Int64} {rv : Nat → Nat → Option Nat}  {a1 : Int32} {a2 : Int32} {a3 : Int32} {vR : Int32} {iR : Nat → Nat → Int32} (hG : aGood sh rv) (hf : fX11_act a1 a2 a3 i rv = some (vR, iR)) : aM l yX11_act cX11_act 5 (some .int) 7 [.ref (100 + 0), .int a1, .int a2, .int a3] (sh, i, lo, rv) (some (.int vR)) (sh, iR, lo, rv) :=
  aM_of (by decide) (Nat.le_of_ble_eq_true rfl) (Nat.le_refl _) (Nat.le_refl _) (fun p e s m args below meth c D cA A ad0 hX hr hlk hnm => kX11_act hX hr hlk (Nat.le_refl _) (Nat.le_refl _) hG hf)
def fX11_move (a1 : Int32) (a2 : Int32) (i : Nat → Nat → Int32) (rv : Nat → Nat → Option Nat) : Option ((Int32) × (Nat → Nat → Int32)) := bn2 (fX11_act 0 a1 a2 i rv) fun v1 i2 =>
    some (v1, i2)
theorem kX11_move  {vR : Int32} {iR : Nat → Nat → Int32} (hX : aX p s m args c RX11 cX11_move 3 D cA A ad0) (hr : meth.sig.returnType = (some .int)) (hlk : meth.locks = false) (hRf : 8 ≤ R.frames) (hRl : 64 * 8 ≤ R.locals) {a1 : Int32} {a2 : Int32} (hG : aGood sh rv) (hf : fX11_move a1 a2 i rv = some (vR, iR)) : aJ p l e R s m args below meth c (MQ below (aPost D cA ad0 A (sh, i0, lo0, rv0) (some (.int vR)) (sh, iR, lo, rv)) args s (sh.length - sh.length) (aSn sh - aSn sh) A) D cA A ad0 3 sh.length (aSn sh) 0 [some (.ref (100 + 0)), some (.int a1), some (.int a2)] [] (sh, i, lo, rv) := by
  unfold fX11_move at hf
  refine j_aload_n hX dX11_move_0 rfl ?_
  refine j_iconst hX dX11_move_1 ic_0 ?_
  refine j_iload_n hX dX11_move_2 rfl ?_
  refine j_iload_n hX dX11_move_3 rfl ?_
  obtain ⟨v1, i2, hh3, hf⟩ := bd2 hf
  refine j_cV3i hX lk_X11_181 kX11 dX11_move_4 (sh_0 hG) (okX11_act hG hh3) rfl rfl (rmm (by omega) hRf hRl (by decide)) (Nat.le_of_ble_eq_true rfl) (Nat.le_add_right _ _) (Nat.le_add_right _ _) ?_
  refine jpc (b := 7) rfl ?_
  cases hf
  exact j_ret hX hr hlk rfl dX11_move_7
theorem okX11_move {l : Launch} {sh : List aSh} {i : Nat → Nat → Int32} {lo : Nat → Nat → Int64} {rv : Nat → Nat → Option Nat}  {a1 : Int32} {a2 : Int32} {vR : Int32} {iR : Nat → Nat → Int32} (hG : aGood sh rv) (hf : fX11_move a1 a2 i rv = some (vR, iR)) : aM l yX11_move cX11_move 3 (some .int) 8 [.ref (100 + 0), .int a1, .int a2] (sh, i, lo, rv) (some (.int vR)) (sh, iR, lo, rv) :=
  aM_of (by decide) (Nat.le_of_ble_eq_true rfl) (Nat.le_refl _) (Nat.le_refl _) (fun p e s m args below meth c D cA A ad0 hX hr hlk hnm => kX11_move hX hr hlk (Nat.le_refl _) (Nat.le_refl _) hG hf)
def fX11_say (a1 : Int32) (a2 : Int32) (i : Nat → Nat → Int32) (rv : Nat → Nat → Option Nat) : Option ((Int32) × (Nat → Nat → Int32)) := bn2 (fX11_act 1 a1 a2 i rv) fun v1 i2 =>
    some (v1, i2)
theorem kX11_say  {vR : Int32} {iR : Nat → Nat → Int32} (hX : aX p s m args c RX11 cX11_say 3 D cA A ad0) (hr : meth.sig.returnType = (some .int)) (hlk : meth.locks = false) (hRf : 8 ≤ R.frames) (hRl : 64 * 8 ≤ R.locals) {a1 : Int32} {a2 : Int32} (hG : aGood sh rv) (hf : fX11_say a1 a2 i rv = some (vR, iR)) : aJ p l e R s m args below meth c (MQ below (aPost D cA ad0 A (sh, i0, lo0, rv0) (some (.int vR)) (sh, iR, lo, rv)) args s (sh.length - sh.length) (aSn sh - aSn sh) A) D cA A ad0 3 sh.length (aSn sh) 0 [some (.ref (100 + 0)), some (.int a1), some (.int a2)] [] (sh, i, lo, rv) := by
  unfold fX11_say at hf
  refine j_aload_n hX dX11_say_0 rfl ?_
  refine j_iconst hX dX11_say_1 ic_1 ?_
  refine j_iload_n hX dX11_say_2 rfl ?_
  refine j_iload_n hX dX11_say_3 rfl ?_
  obtain ⟨v1, i2, hh3, hf⟩ := bd2 hf
  refine j_cV3i hX lk_X11_181 kX11 dX11_say_4 (sh_0 hG) (okX11_act hG hh3) rfl rfl (rmm (by omega) hRf hRl (by decide)) (Nat.le_of_ble_eq_true rfl) (Nat.le_add_right _ _) (Nat.le_add_right _ _) ?_
  refine jpc (b := 7) rfl ?_
  cases hf
  exact j_ret hX hr hlk rfl dX11_say_7
theorem okX11_say {l : Launch} {sh : List aSh} {i : Nat → Nat → Int32} {lo : Nat → Nat → Int64} {rv : Nat → Nat → Option Nat}  {a1 : Int32} {a2 : Int32} {vR : Int32} {iR : Nat → Nat → Int32} (hG : aGood sh rv) (hf : fX11_say a1 a2 i rv = some (vR, iR)) : aM l yX11_say cX11_say 3 (some .int) 8 [.ref (100 + 0), .int a1, .int a2] (sh, i, lo, rv) (some (.int vR)) (sh, iR, lo, rv) :=
  aM_of (by decide) (Nat.le_of_ble_eq_true rfl) (Nat.le_refl _) (Nat.le_refl _) (fun p e s m args below meth c D cA A ad0 hX hr hlk hnm => kX11_say hX hr hlk (Nat.le_refl _) (Nat.le_refl _) hG hf)
def fX11_wake (a1 : Int32) (i : Nat → Nat → Int32) (rv : Nat → Nat → Option Nat) : Option ((Int32) × (Nat → Nat → Int32)) := bn2 (fX11_act 2 a1 (-1) i rv) fun v1 i2 =>
    some (v1, i2)
theorem kX11_wake  {vR : Int32} {iR : Nat → Nat → Int32} (hX : aX p s m args c RX11 cX11_wake 2 D cA A ad0) (hr : meth.sig.returnType = (some .int)) (hlk : meth.locks = false) (hRf : 8 ≤ R.frames) (hRl : 64 * 8 ≤ R.locals) {a1 : Int32} (hG : aGood sh rv) (hf : fX11_wake a1 i rv = some (vR, iR)) : aJ p l e R s m args below meth c (MQ below (aPost D cA ad0 A (sh, i0, lo0, rv0) (some (.int vR)) (sh, iR, lo, rv)) args s (sh.length - sh.length) (aSn sh - aSn sh) A) D cA A ad0 2 sh.length (aSn sh) 0 [some (.ref (100 + 0)), some (.int a1)] [] (sh, i, lo, rv) := by
  unfold fX11_wake at hf
  refine j_aload_n hX dX11_wake_0 rfl ?_
  refine j_iconst hX dX11_wake_1 ic_2 ?_
  refine j_iload_n hX dX11_wake_2 rfl ?_
  refine j_iconst hX dX11_wake_3 ic_m1 ?_
  obtain ⟨v1, i2, hh3, hf⟩ := bd2 hf
  refine j_cV3i hX lk_X11_181 kX11 dX11_wake_4 (sh_0 hG) (okX11_act hG hh3) rfl rfl (rmm (by omega) hRf hRl (by decide)) (Nat.le_of_ble_eq_true rfl) (Nat.le_add_right _ _) (Nat.le_add_right _ _) ?_
  refine jpc (b := 7) rfl ?_
  cases hf
  exact j_ret hX hr hlk rfl dX11_wake_7
theorem okX11_wake {l : Launch} {sh : List aSh} {i : Nat → Nat → Int32} {lo : Nat → Nat → Int64} {rv : Nat → Nat → Option Nat}  {a1 : Int32} {vR : Int32} {iR : Nat → Nat → Int32} (hG : aGood sh rv) (hf : fX11_wake a1 i rv = some (vR, iR)) : aM l yX11_wake cX11_wake 2 (some .int) 8 [.ref (100 + 0), .int a1] (sh, i, lo, rv) (some (.int vR)) (sh, iR, lo, rv) :=
  aM_of (by decide) (Nat.le_of_ble_eq_true rfl) (Nat.le_refl _) (Nat.le_refl _) (fun p e s m args below meth c D cA A ad0 hX hr hlk hnm => kX11_wake hX hr hlk (Nat.le_refl _) (Nat.le_refl _) hG hf)
def fX11_lie (a1 : Int32) (i : Nat → Nat → Int32) (rv : Nat → Nat → Option Nat) : Option ((Int32) × (Nat → Nat → Int32)) := bn2 (fX11_act 3 a1 (-1) i rv) fun v1 i2 =>
    some (v1, i2)
theorem kX11_lie  {vR : Int32} {iR : Nat → Nat → Int32} (hX : aX p s m args c RX11 cX11_lie 2 D cA A ad0) (hr : meth.sig.returnType = (some .int)) (hlk : meth.locks = false) (hRf : 8 ≤ R.frames) (hRl : 64 * 8 ≤ R.locals) {a1 : Int32} (hG : aGood sh rv) (hf : fX11_lie a1 i rv = some (vR, iR)) : aJ p l e R s m args below meth c (MQ below (aPost D cA ad0 A (sh, i0, lo0, rv0) (some (.int vR)) (sh, iR, lo, rv)) args s (sh.length - sh.length) (aSn sh - aSn sh) A) D cA A ad0 2 sh.length (aSn sh) 0 [some (.ref (100 + 0)), some (.int a1)] [] (sh, i, lo, rv) := by
  unfold fX11_lie at hf
  refine j_aload_n hX dX11_lie_0 rfl ?_
  refine j_iconst hX dX11_lie_1 ic_3 ?_
  refine j_iload_n hX dX11_lie_2 rfl ?_
  refine j_iconst hX dX11_lie_3 ic_m1 ?_
  obtain ⟨v1, i2, hh3, hf⟩ := bd2 hf
  refine j_cV3i hX lk_X11_181 kX11 dX11_lie_4 (sh_0 hG) (okX11_act hG hh3) rfl rfl (rmm (by omega) hRf hRl (by decide)) (Nat.le_of_ble_eq_true rfl) (Nat.le_add_right _ _) (Nat.le_add_right _ _) ?_
  refine jpc (b := 7) rfl ?_
  cases hf
  exact j_ret hX hr hlk rfl dX11_lie_7
theorem okX11_lie {l : Launch} {sh : List aSh} {i : Nat → Nat → Int32} {lo : Nat → Nat → Int64} {rv : Nat → Nat → Option Nat}  {a1 : Int32} {vR : Int32} {iR : Nat → Nat → Int32} (hG : aGood sh rv) (hf : fX11_lie a1 i rv = some (vR, iR)) : aM l yX11_lie cX11_lie 2 (some .int) 8 [.ref (100 + 0), .int a1] (sh, i, lo, rv) (some (.int vR)) (sh, iR, lo, rv) :=
  aM_of (by decide) (Nat.le_of_ble_eq_true rfl) (Nat.le_refl _) (Nat.le_refl _) (fun p e s m args below meth c D cA A ad0 hX hr hlk hnm => kX11_lie hX hr hlk (Nat.le_refl _) (Nat.le_refl _) hG hf)
def fX6_acts (i : Nat → Nat → Int32) : Option ((Int32)) := some ((i 25 5))
theorem kX6_acts  {vR : Int32} (hX : aX p s m args c RX6 cX6_acts 1 D cA A ad0) (hr : meth.sig.returnType = (some .int)) (hlk : meth.locks = false) (hRf : 0 ≤ R.frames) (hRl : 64 * 0 ≤ R.locals) (hG : aGood sh rv) (hf : fX6_acts i = some (vR)) : aJ p l e R s m args below meth c (MQ below (aPost D cA ad0 A (sh, i0, lo0, rv0) (some (.int vR)) (sh, i, lo, rv)) args s (sh.length - sh.length) (aSn sh - aSn sh) A) D cA A ad0 1 sh.length (aSn sh) 0 [some (.ref (100 + 25))] [] (sh, i, lo, rv) := by
  unfold fX6_acts at hf
  refine j_aload_n hX dX6_acts_0 rfl ?_
  refine j_getI (k := 5) hX kX6 (by decide) fk_X6_24 dX6_acts_1 (sh_25 hG) rfl ?_
  cases hf
  exact j_ret hX hr hlk rfl dX6_acts_4
theorem okX6_acts {l : Launch} {sh : List aSh} {i : Nat → Nat → Int32} {lo : Nat → Nat → Int64} {rv : Nat → Nat → Option Nat}  {vR : Int32} (hG : aGood sh rv) (hf : fX6_acts i = some (vR)) : aM l yX6_acts cX6_acts 1 (some .int) 0 [.ref (100 + 25)] (sh, i, lo, rv) (some (.int vR)) (sh, i, lo, rv) :=
  aM_of (by decide) (Nat.le_of_ble_eq_true rfl) (Nat.le_refl _) (Nat.le_refl _) (fun p e s m args below meth c D cA A ad0 hX hr hlk hnm => kX6_acts hX hr hlk (Nat.le_refl _) (Nat.le_refl _) hG hf)
def fX11_swap (a1 : Int32) (a2 : Int32) (i : Nat → Nat → Int32) (rv : Nat → Nat → Option Nat) : Option ((Int32) × (Nat → Nat → Int32)) := bn2 (fX11_act 4 a1 a2 i rv) fun v1 i2 =>
    if v1 = (-1) then (some ((-1), i2)) else (bn1 (fX6_acts i2) fun v4 =>
    some (v4, i2))
theorem kX11_swap  {vR : Int32} {iR : Nat → Nat → Int32} (hX : aX p s m args c RX11 cX11_swap 3 D cA A ad0) (hr : meth.sig.returnType = (some .int)) (hlk : meth.locks = false) (hRf : 8 ≤ R.frames) (hRl : 64 * 8 ≤ R.locals) {a1 : Int32} {a2 : Int32} (hG : aGood sh rv) (hf : fX11_swap a1 a2 i rv = some (vR, iR)) : aJ p l e R s m args below meth c (MQ below (aPost D cA ad0 A (sh, i0, lo0, rv0) (some (.int vR)) (sh, iR, lo, rv)) args s (sh.length - sh.length) (aSn sh - aSn sh) A) D cA A ad0 3 sh.length (aSn sh) 0 [some (.ref (100 + 0)), some (.int a1), some (.int a2)] [] (sh, i, lo, rv) := by
  unfold fX11_swap at hf
  refine j_aload_n hX dX11_swap_0 rfl ?_
  refine j_iconst hX dX11_swap_1 ic_4 ?_
  refine j_iload_n hX dX11_swap_2 rfl ?_
  refine j_iload_n hX dX11_swap_3 rfl ?_
  obtain ⟨v1, i2, hh3, hf⟩ := bd2 hf
  refine j_cV3i hX lk_X11_181 kX11 dX11_swap_4 (sh_0 hG) (okX11_act hG hh3) rfl rfl (rmm (by omega) hRf hRl (by decide)) (Nat.le_of_ble_eq_true rfl) (Nat.le_add_right _ _) (Nat.le_add_right _ _) ?_
  refine jpc (b := 7) rfl ?_
  refine j_iconst hX dX11_swap_7 ic_m1 ?_
  refine j_icmp_ne (tgt := 15) hX dX11_swap_8 (by decide) (fun hc => ?_) (fun hc => ?_)
  · have hf := ifn hc hf
    refine j_aload_n hX dX11_swap_15 rfl ?_
    refine j_getR (k := 7) hX kX11 (by decide) fk_X11_55 (rf_0_7 hG) dX11_swap_16 (sh_0 hG) rfl ?_
    obtain ⟨v4, hh5, hf⟩ := bd1 hf
    refine j_cV0i hX lk_X11_185 kX6 dX11_swap_19 (sh_25 hG) (okX6_acts hG hh5) rfl rfl (rmm (by omega) hRf hRl (by decide)) (Nat.le_of_ble_eq_true rfl) (Nat.le_add_right _ _) (Nat.le_add_right _ _) ?_
    cases hf
    exact j_ret hX hr hlk rfl dX11_swap_22
  · have hf := ifp hc hf
    refine j_iconst hX dX11_swap_11 ic_m1 ?_
    refine j_goto (tgt := 22) hX dX11_swap_12 (by decide) ?_
    cases hf
    exact j_ret hX hr hlk rfl dX11_swap_22
theorem okX11_swap {l : Launch} {sh : List aSh} {i : Nat → Nat → Int32} {lo : Nat → Nat → Int64} {rv : Nat → Nat → Option Nat}  {a1 : Int32} {a2 : Int32} {vR : Int32} {iR : Nat → Nat → Int32} (hG : aGood sh rv) (hf : fX11_swap a1 a2 i rv = some (vR, iR)) : aM l yX11_swap cX11_swap 3 (some .int) 8 [.ref (100 + 0), .int a1, .int a2] (sh, i, lo, rv) (some (.int vR)) (sh, iR, lo, rv) :=
  aM_of (by decide) (Nat.le_of_ble_eq_true rfl) (Nat.le_refl _) (Nat.le_refl _) (fun p e s m args below meth c D cA A ad0 hX hr hlk hnm => kX11_swap hX hr hlk (Nat.le_refl _) (Nat.le_refl _) hG hf)
def fX11_border (a1 : Int32) (i : Nat → Nat → Int32) (rv : Nat → Nat → Option Nat) : Option ((Int32) × (Nat → Nat → Int32)) := bn2 (fX11_act 5 a1 (-1) i rv) fun v1 i2 =>
    some (v1, i2)
theorem kX11_border  {vR : Int32} {iR : Nat → Nat → Int32} (hX : aX p s m args c RX11 cX11_border 2 D cA A ad0) (hr : meth.sig.returnType = (some .int)) (hlk : meth.locks = false) (hRf : 8 ≤ R.frames) (hRl : 64 * 8 ≤ R.locals) {a1 : Int32} (hG : aGood sh rv) (hf : fX11_border a1 i rv = some (vR, iR)) : aJ p l e R s m args below meth c (MQ below (aPost D cA ad0 A (sh, i0, lo0, rv0) (some (.int vR)) (sh, iR, lo, rv)) args s (sh.length - sh.length) (aSn sh - aSn sh) A) D cA A ad0 2 sh.length (aSn sh) 0 [some (.ref (100 + 0)), some (.int a1)] [] (sh, i, lo, rv) := by
  unfold fX11_border at hf
  refine j_aload_n hX dX11_border_0 rfl ?_
  refine j_iconst hX dX11_border_1 ic_5 ?_
  refine j_iload_n hX dX11_border_2 rfl ?_
  refine j_iconst hX dX11_border_3 ic_m1 ?_
  obtain ⟨v1, i2, hh3, hf⟩ := bd2 hf
  refine j_cV3i hX lk_X11_181 kX11 dX11_border_4 (sh_0 hG) (okX11_act hG hh3) rfl rfl (rmm (by omega) hRf hRl (by decide)) (Nat.le_of_ble_eq_true rfl) (Nat.le_add_right _ _) (Nat.le_add_right _ _) ?_
  refine jpc (b := 7) rfl ?_
  cases hf
  exact j_ret hX hr hlk rfl dX11_border_7
theorem okX11_border {l : Launch} {sh : List aSh} {i : Nat → Nat → Int32} {lo : Nat → Nat → Int64} {rv : Nat → Nat → Option Nat}  {a1 : Int32} {vR : Int32} {iR : Nat → Nat → Int32} (hG : aGood sh rv) (hf : fX11_border a1 i rv = some (vR, iR)) : aM l yX11_border cX11_border 2 (some .int) 8 [.ref (100 + 0), .int a1] (sh, i, lo, rv) (some (.int vR)) (sh, iR, lo, rv) :=
  aM_of (by decide) (Nat.le_of_ble_eq_true rfl) (Nat.le_refl _) (Nat.le_refl _) (fun p e s m args below meth c D cA A ad0 hX hr hlk hnm => kX11_border hX hr hlk (Nat.le_refl _) (Nat.le_refl _) hG hf)
def fX1_allWeights_4 (p0 : Nat) : Nat → Int32 → Int32 → (Nat → Nat → Int32) → Option ((Int32))
  | 0, _, _, _ => none
  | n + 1, x1, x2, i => if (i p0 4) ≤ x2 then (some (x1)) else (bn1 (fX1_ofOfficer p0 x2 0 i) fun v1 =>
    fX1_allWeights_4 p0 n (x1 + v1) (x2 + 1) i)
theorem kX1_allWeights_4  {p0 : Nat} {vR : Int32} (hX : aX p s m args c RX1 cX1_allWeights 3 D cA A ad0) (hr : meth.sig.returnType = (some .int)) (hlk : meth.locks = false) (hRf : 1 ≤ R.frames) (hRl : 64 * 1 ≤ R.locals) (h0 : isCar sh rv p0) : ∀ (n : Nat) (x1 : Int32) (x2 : Int32), aGood sh rv → fX1_allWeights_4 p0 n x1 x2 i = some (vR) → aJ p l e R s m args below meth c (MQ below (aPost D cA ad0 A (sh, i0, lo0, rv0) (some (.int vR)) (sh, i, lo, rv)) args s (sh.length - sh.length) (aSn sh - aSn sh) A) D cA A ad0 3 sh.length (aSn sh) 4 [some (.ref (100 + p0)), some (.int x1), some (.int x2)] [] (sh, i, lo, rv) := by
  intro n
  induction n with
  | zero => intros; rename_i hf; cases hf
  | succ n ih =>
    intro x1 x2 hG hf
    rw [fX1_allWeights_4] at hf
    refine j_iload_n hX dX1_allWeights_4 rfl ?_
    refine j_aload_n hX dX1_allWeights_5 rfl ?_
    refine j_getI (k := 4) hX kX1 (by decide) fk_X1_25 dX1_allWeights_6 h0.1 rfl ?_
    refine j_icmp_ge (tgt := 27) hX dX1_allWeights_9 (by decide) (fun hc => ?_) (fun hc => ?_)
    · have hf := ifp hc hf
      refine j_iload_n hX dX1_allWeights_27 rfl ?_
      cases hf
      exact j_ret hX hr hlk rfl dX1_allWeights_28
    · have hf := ifn hc hf
      refine j_iload_n hX dX1_allWeights_12 rfl ?_
      refine j_aload_n hX dX1_allWeights_13 rfl ?_
      refine j_iload_n hX dX1_allWeights_14 rfl ?_
      refine j_iconst hX dX1_allWeights_15 ic_0 ?_
      obtain ⟨v1, hh2, hf⟩ := bd1 hf
      refine j_cV2i hX lk_X1_42 kX1 dX1_allWeights_16 h0.1 (okX1_ofOfficer hG h0 hh2) rfl rfl (rmm (by omega) hRf hRl (by decide)) (Nat.le_of_ble_eq_true rfl) (Nat.le_add_right _ _) (Nat.le_add_right _ _) ?_
      refine jpc (b := 19) rfl ?_
      refine j_iadd hX dX1_allWeights_19 ?_
      refine j_istore_n hX dX1_allWeights_20 (by decide) rfl ?_
      refine j_iinc hX dX1_allWeights_21 rfl (congrArg (_ + ·) ic_1) (by decide) rfl ?_
      refine j_goto (tgt := 4) hX dX1_allWeights_24 (by decide) ?_
      exact aJx (ih _ _ hG  hf) (And.intro rfl (And.intro rfl (And.intro rfl (rfl))))
def fX1_allWeights (p0 : Nat) (i : Nat → Nat → Int32) : Option ((Int32)) := fX1_allWeights_4 p0 fuel 0 0 i
theorem kX1_allWeights  {p0 : Nat} {vR : Int32} (hX : aX p s m args c RX1 cX1_allWeights 3 D cA A ad0) (hr : meth.sig.returnType = (some .int)) (hlk : meth.locks = false) (hRf : 1 ≤ R.frames) (hRl : 64 * 1 ≤ R.locals) (h0 : isCar sh rv p0) (hG : aGood sh rv) (hf : fX1_allWeights p0 i = some (vR)) : aJ p l e R s m args below meth c (MQ below (aPost D cA ad0 A (sh, i0, lo0, rv0) (some (.int vR)) (sh, i, lo, rv)) args s (sh.length - sh.length) (aSn sh - aSn sh) A) D cA A ad0 3 sh.length (aSn sh) 0 [some (.ref (100 + p0)), none, none] [] (sh, i, lo, rv) := by
  unfold fX1_allWeights at hf
  refine j_iconst hX dX1_allWeights_0 ic_0 ?_
  refine j_istore_n hX dX1_allWeights_1 (by decide) rfl ?_
  refine j_iconst hX dX1_allWeights_2 ic_0 ?_
  refine j_istore_n hX dX1_allWeights_3 (by decide) rfl ?_
  exact aJx (kX1_allWeights_4 hX hr hlk hRf hRl h0 fuel _ _ hG  hf) (And.intro rfl (And.intro rfl (And.intro rfl (rfl))))
theorem okX1_allWeights {l : Launch} {sh : List aSh} {i : Nat → Nat → Int32} {lo : Nat → Nat → Int64} {rv : Nat → Nat → Option Nat}  {p0 : Nat} {vR : Int32} (hG : aGood sh rv) (h0 : isCar sh rv p0) (hf : fX1_allWeights p0 i = some (vR)) : aM l yX1_allWeights cX1_allWeights 3 (some .int) 1 [.ref (100 + p0)] (sh, i, lo, rv) (some (.int vR)) (sh, i, lo, rv) :=
  aM_of (by decide) (Nat.le_of_ble_eq_true rfl) (Nat.le_refl _) (Nat.le_refl _) (fun p e s m args below meth c D cA A ad0 hX hr hlk hnm => kX1_allWeights hX hr hlk (Nat.le_refl _) (Nat.le_refl _) h0 hG hf)
def fX11_draw (a1 : Int32) (lo : Nat → Nat → Int64) : Option ((Int32) × (Nat → Nat → Int64)) := lt (u2 lo 0 13 (((lo 0 13) * (6364136223846793005 : Int64)) + (1442695040888963407 : Int64))) fun lo1 =>
    if 1 ≤ a1 then (if (a1 : Int32).toInt64 = 0 then none else
    some ((((((lo1 0 13)).toUInt64 >>> ((33 : Int32).toInt64.toUInt64 &&& Int64.toUInt64 63)).toInt64 - (((lo1 0 13)).toUInt64 >>> ((33 : Int32).toInt64.toUInt64 &&& Int64.toUInt64 63)).toInt64 / (a1 : Int32).toInt64 * (a1 : Int32).toInt64)).toInt32, lo1)) else (some (0, lo1))
theorem kX11_draw  {vR : Int32} {loR : Nat → Nat → Int64} (hX : aX p s m args c RX11 cX11_draw 2 D cA A ad0) (hr : meth.sig.returnType = (some .int)) (hlk : meth.locks = false) (hRf : 0 ≤ R.frames) (hRl : 64 * 0 ≤ R.locals) {a1 : Int32} (hG : aGood sh rv) (hf : fX11_draw a1 lo = some (vR, loR)) : aJ p l e R s m args below meth c (MQ below (aPost D cA ad0 A (sh, i0, lo0, rv0) (some (.int vR)) (sh, i, loR, rv)) args s (sh.length - sh.length) (aSn sh - aSn sh) A) D cA A ad0 2 sh.length (aSn sh) 0 [some (.ref (100 + 0)), some (.int a1)] [] (sh, i, lo, rv) := by
  unfold fX11_draw at hf
  refine j_aload_n hX dX11_draw_0 rfl ?_
  refine j_aload_n hX dX11_draw_1 rfl ?_
  refine j_getL (k := 13) hX kX11 (by decide) fk_X11_188 dX11_draw_2 (sh_0 hG) rfl ?_
  refine j_ldc2_w hX kc_X11_381 dX11_draw_5 ?_
  refine j_lmul hX dX11_draw_8 ?_
  refine jpc (b := 9) rfl ?_
  refine j_ldc2_w hX kc_X11_383 dX11_draw_9 ?_
  refine j_ladd hX dX11_draw_12 ?_
  have hf := ltd hf
  refine j_putL (k := 13) hX kX11 (by decide) fk_X11_188 dX11_draw_13 (sh_0 hG) rfl rfl ?_
  refine j_iload_n hX dX11_draw_16 rfl ?_
  refine j_iconst hX dX11_draw_17 ic_1 ?_
  refine j_icmp_ge (tgt := 25) hX dX11_draw_18 (by decide) (fun hc => ?_) (fun hc => ?_)
  · have hf := ifp hc hf
    refine j_aload_n hX dX11_draw_25 rfl ?_
    refine j_getL (k := 13) hX kX11 (by decide) fk_X11_188 dX11_draw_26 (sh_0 hG) rfl ?_
    refine j_bipush hX dX11_draw_29 bp_33 ?_
    refine j_lushr hX dX11_draw_31 ?_
    refine j_iload_n hX dX11_draw_32 rfl ?_
    refine jpc (b := 33) rfl ?_
    refine j_i2l hX dX11_draw_33 ?_
    obtain ⟨hz, hf⟩ := gdn hf
    refine j_lrem hX dX11_draw_34 hz ?_
    refine j_l2i hX dX11_draw_35 ?_
    cases hf
    exact j_ret hX hr hlk rfl dX11_draw_36
  · have hf := ifn hc hf
    refine j_iconst hX dX11_draw_21 ic_0 ?_
    refine j_goto (tgt := 36) hX dX11_draw_22 (by decide) ?_
    cases hf
    exact j_ret hX hr hlk rfl dX11_draw_36
theorem okX11_draw {l : Launch} {sh : List aSh} {i : Nat → Nat → Int32} {lo : Nat → Nat → Int64} {rv : Nat → Nat → Option Nat}  {a1 : Int32} {vR : Int32} {loR : Nat → Nat → Int64} (hG : aGood sh rv) (hf : fX11_draw a1 lo = some (vR, loR)) : aM l yX11_draw cX11_draw 2 (some .int) 0 [.ref (100 + 0), .int a1] (sh, i, lo, rv) (some (.int vR)) (sh, i, loR, rv) :=
  aM_of (by decide) (Nat.le_of_ble_eq_true rfl) (Nat.le_refl _) (Nat.le_refl _) (fun p e s m args below meth c D cA A ad0 hX hr hlk hnm => kX11_draw hX hr hlk (Nat.le_refl _) (Nat.le_refl _) hG hf)
def fX1_officers (p0 : Nat) (i : Nat → Nat → Int32) : Option ((Int32)) := some ((i p0 4))
theorem kX1_officers  {p0 : Nat} {vR : Int32} (hX : aX p s m args c RX1 cX1_officers 1 D cA A ad0) (hr : meth.sig.returnType = (some .int)) (hlk : meth.locks = false) (hRf : 0 ≤ R.frames) (hRl : 64 * 0 ≤ R.locals) (h0 : isCar sh rv p0) (hG : aGood sh rv) (hf : fX1_officers p0 i = some (vR)) : aJ p l e R s m args below meth c (MQ below (aPost D cA ad0 A (sh, i0, lo0, rv0) (some (.int vR)) (sh, i, lo, rv)) args s (sh.length - sh.length) (aSn sh - aSn sh) A) D cA A ad0 1 sh.length (aSn sh) 0 [some (.ref (100 + p0))] [] (sh, i, lo, rv) := by
  unfold fX1_officers at hf
  refine j_aload_n hX dX1_officers_0 rfl ?_
  refine j_getI (k := 4) hX kX1 (by decide) fk_X1_25 dX1_officers_1 h0.1 rfl ?_
  cases hf
  exact j_ret hX hr hlk rfl dX1_officers_4
theorem okX1_officers {l : Launch} {sh : List aSh} {i : Nat → Nat → Int32} {lo : Nat → Nat → Int64} {rv : Nat → Nat → Option Nat}  {p0 : Nat} {vR : Int32} (hG : aGood sh rv) (h0 : isCar sh rv p0) (hf : fX1_officers p0 i = some (vR)) : aM l yX1_officers cX1_officers 1 (some .int) 0 [.ref (100 + p0)] (sh, i, lo, rv) (some (.int vR)) (sh, i, lo, rv) :=
  aM_of (by decide) (Nat.le_of_ble_eq_true rfl) (Nat.le_refl _) (Nat.le_refl _) (fun p e s m args below meth c D cA A ad0 hX hr hlk hnm => kX1_officers hX hr hlk (Nat.le_refl _) (Nat.le_refl _) h0 hG hf)
def fX11_drawOfficer_22 : Nat → Int32 → Int32 → (Nat → Nat → Int32) → (Nat → Nat → Int64) → Option ((Int32) × (Nat → Nat → Int64))
  | 0, _, _, _, _ => none
  | n + 1, x2, x3, i, lo => bn1 (fX1_officers 15 i) fun v6 =>
    if v6 ≤ (x3 + (1 : Int32)) then (some (x3, lo)) else (bn1 (fX1_ofOfficer 15 x3 0 i) fun v8 =>
    if x2 < v8 then (some (x3, lo)) else (bn1 (fX1_ofOfficer 15 x3 0 i) fun v10 =>
    fX11_drawOfficer_22 n (x2 - v10) (x3 + 1) i lo))
theorem kX11_drawOfficer_22  {vR : Int32} {loR : Nat → Nat → Int64} (hX : aX p s m args c RX11 cX11_drawOfficer 4 D cA A ad0) (hr : meth.sig.returnType = (some .int)) (hlk : meth.locks = false) (hRf : 2 ≤ R.frames) (hRl : 64 * 2 ≤ R.locals) : ∀ (n : Nat) (x2 : Int32) (x3 : Int32) (lo : Nat → Nat → Int64), aGood sh rv → fX11_drawOfficer_22 n x2 x3 i lo = some (vR, loR) → aJ p l e R s m args below meth c (MQ below (aPost D cA ad0 A (sh, i0, lo0, rv0) (some (.int vR)) (sh, i, loR, rv)) args s (sh.length - sh.length) (aSn sh - aSn sh) A) D cA A ad0 4 sh.length (aSn sh) 22 [some (.ref (100 + 0)), none, some (.int x2), some (.int x3)] [] (sh, i, lo, rv) := by
  intro n
  induction n with
  | zero => intros; rename_i hf; cases hf
  | succ n ih =>
    intro x2 x3 lo hG hf
    rw [fX11_drawOfficer_22] at hf
    refine j_iload_n hX dX11_drawOfficer_22 rfl ?_
    refine j_iconst hX dX11_drawOfficer_23 ic_1 ?_
    refine j_iadd hX dX11_drawOfficer_24 ?_
    refine j_aload_n hX dX11_drawOfficer_25 rfl ?_
    refine j_getR (k := 3) hX kX11 (by decide) fk_X11_30 (rf_0_3 hG) dX11_drawOfficer_26 (sh_0 hG) rfl ?_
    refine jpc (b := 29) rfl ?_
    obtain ⟨v6, hh7, hf⟩ := bd1 hf
    refine j_cV0i hX lk_X11_324 kX1 dX11_drawOfficer_29 (sh_15 hG) (okX1_officers hG (cr_15 hG) hh7) rfl rfl (rmm (by omega) hRf hRl (by decide)) (Nat.le_of_ble_eq_true rfl) (Nat.le_add_right _ _) (Nat.le_add_right _ _) ?_
    refine j_icmp_ge (tgt := 66) hX dX11_drawOfficer_32 (by decide) (fun hc => ?_) (fun hc => ?_)
    · have hf := ifp hc hf
      refine j_iload_n hX dX11_drawOfficer_66 rfl ?_
      cases hf
      exact j_ret hX hr hlk rfl dX11_drawOfficer_67
    · have hf := ifn hc hf
      refine j_iload_n hX dX11_drawOfficer_35 rfl ?_
      refine j_aload_n hX dX11_drawOfficer_36 rfl ?_
      refine j_getR (k := 3) hX kX11 (by decide) fk_X11_30 (rf_0_3 hG) dX11_drawOfficer_37 (sh_0 hG) rfl ?_
      refine j_iload_n hX dX11_drawOfficer_40 rfl ?_
      refine j_iconst hX dX11_drawOfficer_41 ic_0 ?_
      refine jpc (b := 42) rfl ?_
      obtain ⟨v8, hh9, hf⟩ := bd1 hf
      refine j_cV2i hX lk_X11_165 kX1 dX11_drawOfficer_42 (sh_15 hG) (okX1_ofOfficer hG (cr_15 hG) hh9) rfl rfl (rmm (by omega) hRf hRl (by decide)) (Nat.le_of_ble_eq_true rfl) (Nat.le_add_right _ _) (Nat.le_add_right _ _) ?_
      refine j_icmp_lt (tgt := 66) hX dX11_drawOfficer_45 (by decide) (fun hc => ?_) (fun hc => ?_)
      · have hf := ifp hc hf
        refine j_iload_n hX dX11_drawOfficer_66 rfl ?_
        cases hf
        exact j_ret hX hr hlk rfl dX11_drawOfficer_67
      · have hf := ifn hc hf
        refine j_iload_n hX dX11_drawOfficer_48 rfl ?_
        refine j_aload_n hX dX11_drawOfficer_49 rfl ?_
        refine j_getR (k := 3) hX kX11 (by decide) fk_X11_30 (rf_0_3 hG) dX11_drawOfficer_50 (sh_0 hG) rfl ?_
        refine j_iload_n hX dX11_drawOfficer_53 rfl ?_
        refine j_iconst hX dX11_drawOfficer_54 ic_0 ?_
        refine jpc (b := 55) rfl ?_
        obtain ⟨v10, hh11, hf⟩ := bd1 hf
        refine j_cV2i hX lk_X11_165 kX1 dX11_drawOfficer_55 (sh_15 hG) (okX1_ofOfficer hG (cr_15 hG) hh11) rfl rfl (rmm (by omega) hRf hRl (by decide)) (Nat.le_of_ble_eq_true rfl) (Nat.le_add_right _ _) (Nat.le_add_right _ _) ?_
        refine j_isub hX dX11_drawOfficer_58 ?_
        refine j_istore_n hX dX11_drawOfficer_59 (by decide) rfl ?_
        refine j_iinc hX dX11_drawOfficer_60 rfl (congrArg (_ + ·) ic_1) (by decide) rfl ?_
        refine j_goto (tgt := 22) hX dX11_drawOfficer_63 (by decide) ?_
        exact aJx (ih _ _ _ hG  hf) (And.intro rfl (And.intro rfl (And.intro rfl (rfl))))
def fX11_drawOfficer (i : Nat → Nat → Int32) (lo : Nat → Nat → Int64) : Option ((Int32) × (Nat → Nat → Int64)) := bn1 (fX1_allWeights 15 i) fun v1 =>
    if v1 = 0 then (some (0, lo)) else (bn2 (fX11_draw v1 lo) fun v3 lo4 =>
    fX11_drawOfficer_22 fuel v3 0 i lo4)
theorem kX11_drawOfficer  {vR : Int32} {loR : Nat → Nat → Int64} (hX : aX p s m args c RX11 cX11_drawOfficer 4 D cA A ad0) (hr : meth.sig.returnType = (some .int)) (hlk : meth.locks = false) (hRf : 2 ≤ R.frames) (hRl : 64 * 2 ≤ R.locals) (hG : aGood sh rv) (hf : fX11_drawOfficer i lo = some (vR, loR)) : aJ p l e R s m args below meth c (MQ below (aPost D cA ad0 A (sh, i0, lo0, rv0) (some (.int vR)) (sh, i, loR, rv)) args s (sh.length - sh.length) (aSn sh - aSn sh) A) D cA A ad0 4 sh.length (aSn sh) 0 [some (.ref (100 + 0)), none, none, none] [] (sh, i, lo, rv) := by
  unfold fX11_drawOfficer at hf
  refine j_aload_n hX dX11_drawOfficer_0 rfl ?_
  refine j_getR (k := 3) hX kX11 (by decide) fk_X11_30 (rf_0_3 hG) dX11_drawOfficer_1 (sh_0 hG) rfl ?_
  obtain ⟨v1, hh2, hf⟩ := bd1 hf
  refine j_cV0i hX lk_X11_378 kX1 dX11_drawOfficer_4 (sh_15 hG) (okX1_allWeights hG (cr_15 hG) hh2) rfl rfl (rmm (by omega) hRf hRl (by decide)) (Nat.le_of_ble_eq_true rfl) (Nat.le_add_right _ _) (Nat.le_add_right _ _) ?_
  refine j_istore_n hX dX11_drawOfficer_7 (by decide) rfl ?_
  refine j_iload_n hX dX11_drawOfficer_8 rfl ?_
  refine jpc (b := 9) rfl ?_
  refine j_if_ne (tgt := 14) hX dX11_drawOfficer_9 (by decide) (fun hc => ?_) (fun hc => ?_)
  · have hf := ifn hc hf
    refine j_aload_n hX dX11_drawOfficer_14 rfl ?_
    refine j_iload_n hX dX11_drawOfficer_15 rfl ?_
    obtain ⟨v3, lo4, hh5, hf⟩ := bd2 hf
    refine j_cV1i hX lk_X11_372 kX11 dX11_drawOfficer_16 (sh_0 hG) (okX11_draw hG hh5) rfl rfl (rmm (by omega) hRf hRl (by decide)) (Nat.le_of_ble_eq_true rfl) (Nat.le_add_right _ _) (Nat.le_add_right _ _) ?_
    refine j_istore_n hX dX11_drawOfficer_19 (by decide) rfl ?_
    refine j_iconst hX dX11_drawOfficer_20 ic_0 ?_
    refine jpc (b := 21) rfl ?_
    refine j_istore_n hX dX11_drawOfficer_21 (by decide) rfl ?_
    exact aJx (kX11_drawOfficer_22 hX hr hlk hRf hRl fuel _ _ _ hG  hf) (And.intro rfl (And.intro rfl (And.intro rfl (rfl))))
  · have hf := ifp hc hf
    refine j_iconst hX dX11_drawOfficer_12 ic_0 ?_
    cases hf
    exact j_ret hX hr hlk rfl dX11_drawOfficer_13
theorem okX11_drawOfficer {l : Launch} {sh : List aSh} {i : Nat → Nat → Int32} {lo : Nat → Nat → Int64} {rv : Nat → Nat → Option Nat}  {vR : Int32} {loR : Nat → Nat → Int64} (hG : aGood sh rv) (hf : fX11_drawOfficer i lo = some (vR, loR)) : aM l yX11_drawOfficer cX11_drawOfficer 4 (some .int) 2 [.ref (100 + 0)] (sh, i, lo, rv) (some (.int vR)) (sh, i, loR, rv) :=
  aM_of (by decide) (Nat.le_of_ble_eq_true rfl) (Nat.le_refl _) (Nat.le_refl _) (fun p e s m args below meth c D cA A ad0 hX hr hlk hnm => kX11_drawOfficer hX hr hlk (Nat.le_refl _) (Nat.le_refl _) hG hf)
def fX11_spendNight_68 (kh25 : Int32 → (Nat → Nat → Int32) → (Nat → Nat → Int64) → (Nat → Nat → Option Nat) → Option ((Nat → Nat → Int32) × (Nat → Nat → Int64))) (x2 : Int32) (i : Nat → Nat → Int32) (lo : Nat → Nat → Int64) (rv : Nat → Nat → Option Nat) : Option ((Nat → Nat → Int32) × (Nat → Nat → Int64)) := kh25 (x2 + 1) i lo rv
theorem kX11_spendNight_68  {iR : Nat → Nat → Int32} {loR : Nat → Nat → Int64} (hX : aX p s m args c RX11 cX11_spendNight 3 D cA A ad0) (hr : meth.sig.returnType = none) (hlk : meth.locks = false) (hRf : 5 ≤ R.frames) (hRl : 64 * 5 ≤ R.locals) {kh25 : Int32 → (Nat → Nat → Int32) → (Nat → Nat → Int64) → (Nat → Nat → Option Nat) → Option ((Nat → Nat → Int32) × (Nat → Nat → Int64))} (Hkh25 : ∀ (x2 : Int32) (i : Nat → Nat → Int32) (lo : Nat → Nat → Int64), aGood sh rv → kh25 x2 i lo rv = some (iR, loR) → aJ p l e R s m args below meth c (MQ below (aPost D cA ad0 A (sh, i0, lo0, rv0) none (sh, iR, loR, rv)) args s (sh.length - sh.length) (aSn sh - aSn sh) A) D cA A ad0 3 sh.length (aSn sh) 25 [some (.ref (100 + 0)), none, some (.int x2)] [] (sh, i, lo, rv)) {x2 : Int32} (hG : aGood sh rv) (hf : fX11_spendNight_68 kh25 x2 i lo rv = some (iR, loR)) : aJ p l e R s m args below meth c (MQ below (aPost D cA ad0 A (sh, i0, lo0, rv0) none (sh, iR, loR, rv)) args s (sh.length - sh.length) (aSn sh - aSn sh) A) D cA A ad0 3 sh.length (aSn sh) 68 [some (.ref (100 + 0)), none, some (.int x2)] [] (sh, i, lo, rv) := by
  unfold fX11_spendNight_68 at hf
  refine j_iinc hX dX11_spendNight_68 rfl (congrArg (_ + ·) ic_1) (by decide) rfl ?_
  refine j_goto (tgt := 25) hX dX11_spendNight_71 (by decide) ?_
  exact aJx (Hkh25 _ _ _ hG  hf) (And.intro rfl (And.intro rfl (rfl)))
def fX11_spendNight_25 : Nat → Int32 → (Nat → Nat → Int32) → (Nat → Nat → Int64) → (Nat → Nat → Option Nat) → Option ((Nat → Nat → Int32) × (Nat → Nat → Int64))
  | 0, _, _, _, _ => none
  | n + 1, x2, i, lo, rv => bn1 (fX1_sleepers 15 i) fun v9 =>
    if v9 ≤ x2 then (some (i, lo)) else (bn1 (fX8_isAsleep 19 x2 i) fun v11 =>
    if v11 = 0 then (bn2 (fX11_draw 100 lo) fun v13 lo14 =>
    if (i 0 11) ≤ v13 then (fX11_spendNight_68 (fX11_spendNight_25 n) x2 i lo14 rv) else (bn1 (fX8_layDown 19 x2 i) fun i16 =>
    fX11_spendNight_68 (fX11_spendNight_25 n) x2 i16 lo14 rv)) else (fX11_spendNight_68 (fX11_spendNight_25 n) x2 i lo rv))
theorem kX11_spendNight_25  {iR : Nat → Nat → Int32} {loR : Nat → Nat → Int64} (hX : aX p s m args c RX11 cX11_spendNight 3 D cA A ad0) (hr : meth.sig.returnType = none) (hlk : meth.locks = false) (hRf : 5 ≤ R.frames) (hRl : 64 * 5 ≤ R.locals) : ∀ (n : Nat) (x2 : Int32) (i : Nat → Nat → Int32) (lo : Nat → Nat → Int64), aGood sh rv → fX11_spendNight_25 n x2 i lo rv = some (iR, loR) → aJ p l e R s m args below meth c (MQ below (aPost D cA ad0 A (sh, i0, lo0, rv0) none (sh, iR, loR, rv)) args s (sh.length - sh.length) (aSn sh - aSn sh) A) D cA A ad0 3 sh.length (aSn sh) 25 [some (.ref (100 + 0)), none, some (.int x2)] [] (sh, i, lo, rv) := by
  intro n
  induction n with
  | zero => intros; rename_i hf; cases hf
  | succ n ih =>
    intro x2 i lo hG hf
    rw [fX11_spendNight_25] at hf
    refine j_iload_n hX dX11_spendNight_25 rfl ?_
    refine j_aload_n hX dX11_spendNight_26 rfl ?_
    refine j_getR (k := 3) hX kX11 (by decide) fk_X11_30 (rf_0_3 hG) dX11_spendNight_27 (sh_0 hG) rfl ?_
    obtain ⟨v9, hh10, hf⟩ := bd1 hf
    refine j_cV0i hX lk_X11_282 kX1 dX11_spendNight_30 (sh_15 hG) (okX1_sleepers hG (cr_15 hG) hh10) rfl rfl (rmm (by omega) hRf hRl (by decide)) (Nat.le_of_ble_eq_true rfl) (Nat.le_add_right _ _) (Nat.le_add_right _ _) ?_
    refine j_icmp_ge (tgt := 74) hX dX11_spendNight_33 (by decide) (fun hc => ?_) (fun hc => ?_)
    · have hf := ifp hc hf
      cases hf
      exact j_vret hX hr hlk dX11_spendNight_74
    · have hf := ifn hc hf
      refine j_aload_n hX dX11_spendNight_36 rfl ?_
      refine j_getR (k := 4) hX kX11 (by decide) fk_X11_36 (rf_0_4 hG) dX11_spendNight_37 (sh_0 hG) rfl ?_
      refine j_iload_n hX dX11_spendNight_40 rfl ?_
      obtain ⟨v11, hh12, hf⟩ := bd1 hf
      refine j_cV1i hX lk_X11_153 kX8 dX11_spendNight_41 (sh_19 hG) (okX8_isAsleep hG (sc_19 hG) hh12) rfl rfl (rmm (by omega) hRf hRl (by decide)) (Nat.le_of_ble_eq_true rfl) (Nat.le_add_right _ _) (Nat.le_add_right _ _) ?_
      refine j_if_ne (tgt := 68) hX dX11_spendNight_44 (by decide) (fun hc => ?_) (fun hc => ?_)
      · have hf := ifn hc hf
        exact aJx (kX11_spendNight_68 hX hr hlk hRf hRl ih hG  hf) (And.intro rfl (And.intro rfl (rfl)))
      · have hf := ifp hc hf
        refine j_aload_n hX dX11_spendNight_47 rfl ?_
        refine j_bipush hX dX11_spendNight_48 bp_100 ?_
        obtain ⟨v13, lo14, hh15, hf⟩ := bd2 hf
        refine j_cV1i hX lk_X11_372 kX11 dX11_spendNight_50 (sh_0 hG) (okX11_draw hG hh15) rfl rfl (rmm (by omega) hRf hRl (by decide)) (Nat.le_of_ble_eq_true rfl) (Nat.le_add_right _ _) (Nat.le_add_right _ _) ?_
        refine j_aload_n hX dX11_spendNight_53 rfl ?_
        refine j_getI (k := 11) hX kX11 (by decide) fk_X11_82 dX11_spendNight_54 (sh_0 hG) rfl ?_
        refine jpc (b := 57) rfl ?_
        refine j_icmp_ge (tgt := 68) hX dX11_spendNight_57 (by decide) (fun hc => ?_) (fun hc => ?_)
        · have hf := ifp hc hf
          exact aJx (kX11_spendNight_68 hX hr hlk hRf hRl ih hG  hf) (And.intro rfl (And.intro rfl (rfl)))
        · have hf := ifn hc hf
          refine j_aload_n hX dX11_spendNight_60 rfl ?_
          refine j_getR (k := 4) hX kX11 (by decide) fk_X11_36 (rf_0_4 hG) dX11_spendNight_61 (sh_0 hG) rfl ?_
          refine j_iload_n hX dX11_spendNight_64 rfl ?_
          obtain ⟨i16, hh17, hf⟩ := bd1 hf
          refine j_cV1v hX lk_X11_375 kX8 dX11_spendNight_65 (sh_19 hG) (okX8_layDown hG (sc_19 hG) hh17) rfl rfl (rmm (by omega) hRf hRl (by decide)) (Nat.le_of_ble_eq_true rfl) (Nat.le_add_right _ _) (Nat.le_add_right _ _) ?_
          exact aJx (kX11_spendNight_68 hX hr hlk hRf hRl ih hG  hf) (And.intro rfl (And.intro rfl (rfl)))
def fX11_spendNight (i : Nat → Nat → Int32) (lo : Nat → Nat → Int64) (rv : Nat → Nat → Option Nat) : Option ((Nat → Nat → Int32) × (Nat → Nat → Int64)) := bn2 (fX11_drawOfficer i lo) fun v1 lo2 =>
    bn2 (fX3_pass 19 v1 1 i rv) fun v4 i5 =>
    bn1 (fX11_writeLog v1 v4 i5) fun i7 =>
    fX11_spendNight_25 fuel 0 i7 lo2 rv
theorem kX11_spendNight  {iR : Nat → Nat → Int32} {loR : Nat → Nat → Int64} (hX : aX p s m args c RX11 cX11_spendNight 3 D cA A ad0) (hr : meth.sig.returnType = none) (hlk : meth.locks = false) (hRf : 5 ≤ R.frames) (hRl : 64 * 5 ≤ R.locals) (hG : aGood sh rv) (hf : fX11_spendNight i lo rv = some (iR, loR)) : aJ p l e R s m args below meth c (MQ below (aPost D cA ad0 A (sh, i0, lo0, rv0) none (sh, iR, loR, rv)) args s (sh.length - sh.length) (aSn sh - aSn sh) A) D cA A ad0 3 sh.length (aSn sh) 0 [some (.ref (100 + 0)), none, none] [] (sh, i, lo, rv) := by
  unfold fX11_spendNight at hf
  refine j_aload_n hX dX11_spendNight_0 rfl ?_
  obtain ⟨v1, lo2, hh3, hf⟩ := bd2 hf
  refine j_cV0i hX lk_X11_369 kX11 dX11_spendNight_1 (sh_0 hG) (okX11_drawOfficer hG hh3) rfl rfl (rmm (by omega) hRf hRl (by decide)) (Nat.le_of_ble_eq_true rfl) (Nat.le_add_right _ _) (Nat.le_add_right _ _) ?_
  refine j_istore_n hX dX11_spendNight_4 (by decide) rfl ?_
  refine j_aload_n hX dX11_spendNight_5 rfl ?_
  refine j_iload_n hX dX11_spendNight_6 rfl ?_
  refine jpc (b := 7) rfl ?_
  refine j_aload_n hX dX11_spendNight_7 rfl ?_
  refine j_getR (k := 6) hX kX11 (by decide) fk_X11_48 (rf_0_6 hG) dX11_spendNight_8 (sh_0 hG) rfl ?_
  refine j_aload_n hX dX11_spendNight_11 rfl ?_
  refine j_getR (k := 4) hX kX11 (by decide) fk_X11_36 (rf_0_4 hG) dX11_spendNight_12 (sh_0 hG) rfl ?_
  refine j_iload_n hX dX11_spendNight_15 rfl ?_
  refine j_iconst hX dX11_spendNight_16 ic_1 ?_
  refine jpc (b := 17) rfl ?_
  obtain ⟨v4, i5, hh6, hf⟩ := bd2 hf
  refine j_cV3i hX lk_X11_233 kX3 dX11_spendNight_17 (sh_23 hG) (okX3_pass hG (sc_19 hG) hh6) rfl rfl (rmm (by omega) hRf hRl (by decide)) (Nat.le_of_ble_eq_true rfl) (Nat.le_add_right _ _) (Nat.le_add_right _ _) ?_
  obtain ⟨i7, hh8, hf⟩ := bd1 hf
  refine j_cV2v hX lk_X11_361 kX11 dX11_spendNight_20 (sh_0 hG) (okX11_writeLog hG hh8) rfl rfl (rmm (by omega) hRf hRl (by decide)) (Nat.le_of_ble_eq_true rfl) (Nat.le_add_right _ _) (Nat.le_add_right _ _) ?_
  refine j_iconst hX dX11_spendNight_23 ic_0 ?_
  refine j_istore_n hX dX11_spendNight_24 (by decide) rfl ?_
  exact aJx (kX11_spendNight_25 hX hr hlk hRf hRl fuel _ _ _ hG  hf) (And.intro rfl (And.intro rfl (rfl)))
theorem okX11_spendNight {l : Launch} {sh : List aSh} {i : Nat → Nat → Int32} {lo : Nat → Nat → Int64} {rv : Nat → Nat → Option Nat}  {iR : Nat → Nat → Int32} {loR : Nat → Nat → Int64} (hG : aGood sh rv) (hf : fX11_spendNight i lo rv = some (iR, loR)) : aM l yX11_spendNight cX11_spendNight 3 none 5 [.ref (100 + 0)] (sh, i, lo, rv) none (sh, iR, loR, rv) :=
  aM_of (by decide) (Nat.le_of_ble_eq_true rfl) (Nat.le_refl _) (Nat.le_refl _) (fun p e s m args below meth c D cA A ad0 hX hr hlk hnm => kX11_spendNight hX hr hlk (Nat.le_refl _) (Nat.le_refl _) hG hf)
def fX6_logged (p1 : Nat) (i : Nat → Nat → Int32) : Option ((Int32)) := bn1 (fX8_borders p1 i) fun v1 =>
    some ((if v1 < (60 : Int32) then v1 else (60 : Int32)))
theorem kX6_logged  {p1 : Nat} {vR : Int32} (hX : aX p s m args c RX6 cX6_logged 2 D cA A ad0) (hr : meth.sig.returnType = (some .int)) (hlk : meth.locks = false) (hRf : 1 ≤ R.frames) (hRl : 64 * 1 ≤ R.locals) (h1 : isScn sh rv p1) (hG : aGood sh rv) (hf : fX6_logged p1 i = some (vR)) : aJ p l e R s m args below meth c (MQ below (aPost D cA ad0 A (sh, i0, lo0, rv0) (some (.int vR)) (sh, i, lo, rv)) args s (sh.length - sh.length) (aSn sh - aSn sh) A) D cA A ad0 2 sh.length (aSn sh) 0 [some (.ref (100 + 25)), some (.ref (100 + p1))] [] (sh, i, lo, rv) := by
  unfold fX6_logged at hf
  refine j_bipush hX dX6_logged_0 bp_60 ?_
  refine j_aload_n hX dX6_logged_2 rfl ?_
  obtain ⟨v1, hh2, hf⟩ := bd1 hf
  refine j_cV0i hX lk_X6_48 kX8 dX6_logged_3 h1.1 (okX8_borders hG h1 hh2) rfl rfl (rmm (by omega) hRf hRl (by decide)) (Nat.le_of_ble_eq_true rfl) (Nat.le_add_right _ _) (Nat.le_add_right _ _) ?_
  refine j_min hX lk_X6_39 dX6_logged_6 ⟨by omega, Nat.le_trans (Nat.le_of_ble_eq_true rfl) hRl⟩ (Nat.le_add_right _ _) (Nat.le_add_right _ _) ?_
  cases hf
  exact j_ret hX hr hlk rfl dX6_logged_9
theorem okX6_logged {l : Launch} {sh : List aSh} {i : Nat → Nat → Int32} {lo : Nat → Nat → Int64} {rv : Nat → Nat → Option Nat}  {p1 : Nat} {vR : Int32} (hG : aGood sh rv) (h1 : isScn sh rv p1) (hf : fX6_logged p1 i = some (vR)) : aM l yX6_logged cX6_logged 2 (some .int) 1 [.ref (100 + 25), .ref (100 + p1)] (sh, i, lo, rv) (some (.int vR)) (sh, i, lo, rv) :=
  aM_of (by decide) (Nat.le_of_ble_eq_true rfl) (Nat.le_refl _) (Nat.le_refl _) (fun p e s m args below meth c D cA A ad0 hX hr hlk hnm => kX6_logged hX hr hlk (Nat.le_refl _) (Nat.le_refl _) h1 hG hf)
def fX11_nights_28 : Nat → Int32 → Int32 → (Nat → Nat → Int32) → (Nat → Nat → Int64) → (Nat → Nat → Option Nat) → Option ((Int32) × (Nat → Nat → Int32) × (Nat → Nat → Int64))
  | 0, _, _, _, _, _ => none
  | n + 1, x1, x4, i, lo, rv => if x1 ≤ x4 then (bn1 (fX6_logged 19 i) fun v4 =>
    some (v4, i, lo)) else (bn1 (fX6_note 19 i) fun i6 =>
    bn2 (fX11_spendNight i6 lo rv) fun i8 lo9 =>
    bn1 (fX6_keepAct i8) fun i11 =>
    fX11_nights_28 n x1 (x4 + 1) i11 lo9 rv)
theorem kX11_nights_28  {vR : Int32} {iR : Nat → Nat → Int32} {loR : Nat → Nat → Int64} (hX : aX p s m args c RX11 cX11_nights 5 D cA A ad0) (hr : meth.sig.returnType = (some .int)) (hlk : meth.locks = false) (hRf : 6 ≤ R.frames) (hRl : 64 * 6 ≤ R.locals) : ∀ (n : Nat) (x1 : Int32) (x4 : Int32) (i : Nat → Nat → Int32) (lo : Nat → Nat → Int64), aGood sh rv → fX11_nights_28 n x1 x4 i lo rv = some (vR, iR, loR) → aJ p l e R s m args below meth c (MQ below (aPost D cA ad0 A (sh, i0, lo0, rv0) (some (.int vR)) (sh, iR, loR, rv)) args s (sh.length - sh.length) (aSn sh - aSn sh) A) D cA A ad0 5 sh.length (aSn sh) 28 [some (.ref (100 + 0)), some (.int x1), none, none, some (.int x4)] [] (sh, i, lo, rv) := by
  intro n
  induction n with
  | zero => intros; rename_i hf; cases hf
  | succ n ih =>
    intro x1 x4 i lo hG hf
    rw [fX11_nights_28] at hf
    refine j_iload hX dX11_nights_28 rfl ?_
    refine j_iload_n hX dX11_nights_30 rfl ?_
    refine j_icmp_ge (tgt := 62) hX dX11_nights_31 (by decide) (fun hc => ?_) (fun hc => ?_)
    · have hf := ifp hc hf
      refine j_aload_n hX dX11_nights_62 rfl ?_
      refine j_getR (k := 7) hX kX11 (by decide) fk_X11_55 (rf_0_7 hG) dX11_nights_63 (sh_0 hG) rfl ?_
      refine j_aload_n hX dX11_nights_66 rfl ?_
      refine j_getR (k := 4) hX kX11 (by decide) fk_X11_36 (rf_0_4 hG) dX11_nights_67 (sh_0 hG) rfl ?_
      obtain ⟨v4, hh5, hf⟩ := bd1 hf
      refine j_cV1i hX lk_X11_202 kX6 dX11_nights_70 (sh_25 hG) (okX6_logged hG (sc_19 hG) hh5) rfl rfl (rmm (by omega) hRf hRl (by decide)) (Nat.le_of_ble_eq_true rfl) (Nat.le_add_right _ _) (Nat.le_add_right _ _) ?_
      refine jpc (b := 73) rfl ?_
      cases hf
      exact j_ret hX hr hlk rfl dX11_nights_73
    · have hf := ifn hc hf
      refine j_aload_n hX dX11_nights_34 rfl ?_
      refine j_getR (k := 7) hX kX11 (by decide) fk_X11_55 (rf_0_7 hG) dX11_nights_35 (sh_0 hG) rfl ?_
      refine j_aload_n hX dX11_nights_38 rfl ?_
      refine j_getR (k := 4) hX kX11 (by decide) fk_X11_36 (rf_0_4 hG) dX11_nights_39 (sh_0 hG) rfl ?_
      obtain ⟨i6, hh7, hf⟩ := bd1 hf
      refine j_cV1v hX lk_X11_192 kX6 dX11_nights_42 (sh_25 hG) (okX6_note hG (sc_19 hG) hh7) rfl rfl (rmm (by omega) hRf hRl (by decide)) (Nat.le_of_ble_eq_true rfl) (Nat.le_add_right _ _) (Nat.le_add_right _ _) ?_
      refine jpc (b := 45) rfl ?_
      refine j_aload_n hX dX11_nights_45 rfl ?_
      obtain ⟨i8, lo9, hh10, hf⟩ := bd2 hf
      refine j_cV0v hX lk_X11_196 kX11 dX11_nights_46 (sh_0 hG) (okX11_spendNight hG hh10) rfl rfl (rmm (by omega) hRf hRl (by decide)) (Nat.le_of_ble_eq_true rfl) (Nat.le_add_right _ _) (Nat.le_add_right _ _) ?_
      refine j_aload_n hX dX11_nights_49 rfl ?_
      refine j_getR (k := 7) hX kX11 (by decide) fk_X11_55 (rf_0_7 hG) dX11_nights_50 (sh_0 hG) rfl ?_
      obtain ⟨i11, hh12, hf⟩ := bd1 hf
      refine j_cV0v hX lk_X11_199 kX6 dX11_nights_53 (sh_25 hG) (okX6_keepAct hG hh12) rfl rfl (rmm (by omega) hRf hRl (by decide)) (Nat.le_of_ble_eq_true rfl) (Nat.le_add_right _ _) (Nat.le_add_right _ _) ?_
      refine j_iinc hX dX11_nights_56 rfl (congrArg (_ + ·) ic_1) (by decide) rfl ?_
      refine jpc (b := 59) rfl ?_
      refine j_goto (tgt := 28) hX dX11_nights_59 (by decide) ?_
      exact aJx (ih _ _ _ _ hG  hf) (And.intro rfl (And.intro rfl (And.intro rfl (rfl))))
def fX11_nights (a1 : Int32) (a2 : Int64) (i : Nat → Nat → Int32) (lo : Nat → Nat → Int64) (rv : Nat → Nat → Option Nat) : Option ((Int32) × (Nat → Nat → Int32) × (Nat → Nat → Int64)) := bn1 (fX11_noCar i) fun v1 =>
    if v1 = 0 then (if a1 < 1 then (some ((-1), i, lo)) else (if a1 ≤ 20 then (lt (u2 lo 0 13 a2) fun lo3 =>
    fX11_nights_28 fuel a1 0 i lo3 rv) else (some ((-1), i, lo)))) else (some ((-1), i, lo))
theorem kX11_nights  {vR : Int32} {iR : Nat → Nat → Int32} {loR : Nat → Nat → Int64} (hX : aX p s m args c RX11 cX11_nights 5 D cA A ad0) (hr : meth.sig.returnType = (some .int)) (hlk : meth.locks = false) (hRf : 6 ≤ R.frames) (hRl : 64 * 6 ≤ R.locals) {a1 : Int32} {a2 : Int64} (hG : aGood sh rv) (hf : fX11_nights a1 a2 i lo rv = some (vR, iR, loR)) : aJ p l e R s m args below meth c (MQ below (aPost D cA ad0 A (sh, i0, lo0, rv0) (some (.int vR)) (sh, iR, loR, rv)) args s (sh.length - sh.length) (aSn sh - aSn sh) A) D cA A ad0 5 sh.length (aSn sh) 0 [some (.ref (100 + 0)), some (.int a1), some (.long a2), none, none] [] (sh, i, lo, rv) := by
  unfold fX11_nights at hf
  refine j_aload_n hX dX11_nights_0 rfl ?_
  obtain ⟨v1, hh2, hf⟩ := bd1 hf
  refine j_cV0i hX lk_X11_120 kX11 dX11_nights_1 (sh_0 hG) (okX11_noCar hG hh2) rfl rfl (rmm (by omega) hRf hRl (by decide)) (Nat.le_of_ble_eq_true rfl) (Nat.le_add_right _ _) (Nat.le_add_right _ _) ?_
  refine j_if_ne (tgt := 18) hX dX11_nights_4 (by decide) (fun hc => ?_) (fun hc => ?_)
  · have hf := ifn hc hf
    refine j_iconst hX dX11_nights_18 ic_m1 ?_
    cases hf
    exact j_ret hX hr hlk rfl dX11_nights_19
  · have hf := ifp hc hf
    refine j_iload_n hX dX11_nights_7 rfl ?_
    refine j_iconst hX dX11_nights_8 ic_1 ?_
    refine j_icmp_lt (tgt := 18) hX dX11_nights_9 (by decide) (fun hc => ?_) (fun hc => ?_)
    · have hf := ifp hc hf
      refine j_iconst hX dX11_nights_18 ic_m1 ?_
      cases hf
      exact j_ret hX hr hlk rfl dX11_nights_19
    · have hf := ifn hc hf
      refine j_iload_n hX dX11_nights_12 rfl ?_
      refine j_bipush hX dX11_nights_13 bp_20 ?_
      refine j_icmp_le (tgt := 20) hX dX11_nights_15 (by decide) (fun hc => ?_) (fun hc => ?_)
      · have hf := ifp hc hf
        refine j_aload_n hX dX11_nights_20 rfl ?_
        refine j_lload_n hX dX11_nights_21 rfl ?_
        have hf := ltd hf
        refine j_putL (k := 13) hX kX11 (by decide) fk_X11_188 dX11_nights_22 (sh_0 hG) rfl rfl ?_
        refine j_iconst hX dX11_nights_25 ic_0 ?_
        refine j_istore hX dX11_nights_26 (by decide) rfl ?_
        exact aJx (kX11_nights_28 hX hr hlk hRf hRl fuel _ _ _ _ hG  hf) (And.intro rfl (And.intro rfl (And.intro rfl (rfl))))
      · have hf := ifn hc hf
        refine j_iconst hX dX11_nights_18 ic_m1 ?_
        cases hf
        exact j_ret hX hr hlk rfl dX11_nights_19
theorem okX11_nights {l : Launch} {sh : List aSh} {i : Nat → Nat → Int32} {lo : Nat → Nat → Int64} {rv : Nat → Nat → Option Nat}  {a1 : Int32} {a2 : Int64} {vR : Int32} {iR : Nat → Nat → Int32} {loR : Nat → Nat → Int64} (hG : aGood sh rv) (hf : fX11_nights a1 a2 i lo rv = some (vR, iR, loR)) : aM l yX11_nights cX11_nights 5 (some .int) 6 [.ref (100 + 0), .int a1, .long a2] (sh, i, lo, rv) (some (.int vR)) (sh, iR, loR, rv) :=
  aM_of (by decide) (Nat.le_of_ble_eq_true rfl) (Nat.le_refl _) (Nat.le_refl _) (fun p e s m args below meth c D cA A ad0 hX hr hlk hnm => kX11_nights hX hr hlk (Nat.le_refl _) (Nat.le_refl _) hG hf)
def fX8_copyBack (p0 : Nat) (w1 : Nat) (n1 : Nat) (a2 : Int32) (i : Nat → Nat → Int32) : Option ((Nat → Nat → Int32)) := if ¬ ((a2 * (56 : Int32)) : Int32) < 0 ∧ ¬ (0 : Int32) < 0 ∧ ¬ (56 : Int32) < 0 ∧ ((a2 * (56 : Int32)) : Int32).toNatClampNeg + (56 : Int32).toNatClampNeg ≤ n1 ∧ (0 : Int32).toNatClampNeg + (56 : Int32).toNatClampNeg ≤ 56 then
    (lt (cp2 i (i w1) ((a2 * (56 : Int32)) : Int32).toNatClampNeg (p0 + 1) (0 : Int32).toNatClampNeg (56 : Int32).toNatClampNeg) fun i1 => some (i1)) else none
theorem kX8_copyBack  {p0 : Nat} {w1 : Nat} {n1 : Nat} {iR : Nat → Nat → Int32} (hX : aX p s m args c RX8 cX8_copyBack 3 D cA A ad0) (hr : meth.sig.returnType = none) (hlk : meth.locks = false) (hRf : 1 ≤ R.frames) (hRl : 64 * 1 ≤ R.locals) (h0 : isScn sh rv p0) (h1 : sh[w1]? = some (.inl (.int, n1))) {a2 : Int32} (hG : aGood sh rv) (hf : fX8_copyBack p0 w1 n1 a2 i = some (iR)) : aJ p l e R s m args below meth c (MQ below (aPost D cA ad0 A (sh, i0, lo0, rv0) none (sh, iR, lo, rv)) args s (sh.length - sh.length) (aSn sh - aSn sh) A) D cA A ad0 3 sh.length (aSn sh) 0 [some (.ref (100 + p0)), some (.ref (100 + w1)), some (.int a2)] [] (sh, i, lo, rv) := by
  unfold fX8_copyBack at hf
  refine j_aload_n hX dX8_copyBack_0 rfl ?_
  refine j_iload_n hX dX8_copyBack_1 rfl ?_
  refine j_bipush hX dX8_copyBack_2 bp_56 ?_
  refine j_imul hX dX8_copyBack_4 ?_
  refine j_aload_n hX dX8_copyBack_5 rfl ?_
  refine jpc (b := 6) rfl ?_
  refine j_getR (k := 0) hX kX8 (by decide) fk_X8_11 h0.2.2 dX8_copyBack_6 h0.1 rfl ?_
  refine j_iconst hX dX8_copyBack_9 ic_0 ?_
  refine j_bipush hX dX8_copyBack_10 bp_56 ?_
  obtain ⟨hg, hf⟩ := gd hf
  have hf := ltd hf
  refine j_copy hX lk_X8_35 h1 h0.2.1 hg.1 hg.2.1 hg.2.2.1 hg.2.2.2.1 hg.2.2.2.2 (by omega) (Nat.le_trans (Nat.le_of_ble_eq_true rfl) hRl) dX8_copyBack_12 ?_
  cases hf
  exact j_vret hX hr hlk dX8_copyBack_15
theorem okX8_copyBack {l : Launch} {sh : List aSh} {i : Nat → Nat → Int32} {lo : Nat → Nat → Int64} {rv : Nat → Nat → Option Nat}  {p0 : Nat} {w1 : Nat} {n1 : Nat} {a2 : Int32} {iR : Nat → Nat → Int32} (hG : aGood sh rv) (h0 : isScn sh rv p0) (h1 : sh[w1]? = some (.inl (.int, n1))) (hf : fX8_copyBack p0 w1 n1 a2 i = some (iR)) : aM l yX8_copyBack cX8_copyBack 3 none 1 [.ref (100 + p0), .ref (100 + w1), .int a2] (sh, i, lo, rv) none (sh, iR, lo, rv) :=
  aM_of (by decide) (Nat.le_of_ble_eq_true rfl) (Nat.le_refl _) (Nat.le_refl _) (fun p e s m args below meth c D cA A ad0 hX hr hlk hnm => kX8_copyBack hX hr hlk (Nat.le_refl _) (Nat.le_refl _) h0 h1 hG hf)
def fX6_takeBack (p1 : Nat) (i : Nat → Nat → Int32) : Option ((Int32) × (Nat → Nat → Int32)) := if (i 25 5) = 0 then (some (0, i)) else (lt (u2 i 25 4 ((((i 25 4) + (41 : Int32)) - (1 : Int32)) - (((i 25 4) + (41 : Int32)) - (1 : Int32)) / (41 : Int32) * (41 : Int32))) fun i1 =>
    lt (u2 i1 25 5 ((i1 25 5) - (1 : Int32))) fun i2 =>
    bn1 (fX8_copyBack p1 26 2296 (i2 25 4) i2) fun i3 =>
    some (1, i3))
theorem kX6_takeBack  {p1 : Nat} {vR : Int32} {iR : Nat → Nat → Int32} (hX : aX p s m args c RX6 cX6_takeBack 2 D cA A ad0) (hr : meth.sig.returnType = (some .boolean)) (hlk : meth.locks = false) (hRf : 2 ≤ R.frames) (hRl : 64 * 2 ≤ R.locals) (h1 : isScn sh rv p1) (hG : aGood sh rv) (hf : fX6_takeBack p1 i = some (vR, iR)) : aJ p l e R s m args below meth c (MQ below (aPost D cA ad0 A (sh, i0, lo0, rv0) (some (.int vR)) (sh, iR, lo, rv)) args s (sh.length - sh.length) (aSn sh - aSn sh) A) D cA A ad0 2 sh.length (aSn sh) 0 [some (.ref (100 + 25)), some (.ref (100 + p1))] [] (sh, i, lo, rv) := by
  unfold fX6_takeBack at hf
  refine j_aload_n hX dX6_takeBack_0 rfl ?_
  refine j_getI (k := 5) hX kX6 (by decide) fk_X6_24 dX6_takeBack_1 (sh_25 hG) rfl ?_
  refine j_if_ne (tgt := 9) hX dX6_takeBack_4 (by decide) (fun hc => ?_) (fun hc => ?_)
  · have hf := ifn hc hf
    refine j_aload_n hX dX6_takeBack_9 rfl ?_
    refine j_aload_n hX dX6_takeBack_10 rfl ?_
    refine j_getI (k := 4) hX kX6 (by decide) fk_X6_32 dX6_takeBack_11 (sh_25 hG) rfl ?_
    refine j_bipush hX dX6_takeBack_14 bp_41 ?_
    refine j_iadd hX dX6_takeBack_16 ?_
    refine jpc (b := 17) rfl ?_
    refine j_iconst hX dX6_takeBack_17 ic_1 ?_
    refine j_isub hX dX6_takeBack_18 ?_
    refine j_bipush hX dX6_takeBack_19 bp_41 ?_
    refine j_irem hX dX6_takeBack_21 (by decide) ?_
    have hf := ltd hf
    refine j_putI (k := 4) hX kX6 (by decide) fk_X6_32 dX6_takeBack_22 (sh_25 hG) rfl rfl rfl rfl ?_
    refine j_aload_n hX dX6_takeBack_25 rfl ?_
    refine jpc (b := 26) rfl ?_
    refine j_dup hX dX6_takeBack_26 rfl ?_
    refine j_getI (k := 5) hX kX6 (by decide) fk_X6_24 dX6_takeBack_27 (sh_25 hG) rfl ?_
    refine j_iconst hX dX6_takeBack_30 ic_1 ?_
    refine j_isub hX dX6_takeBack_31 ?_
    have hf := ltd hf
    refine j_putI (k := 5) hX kX6 (by decide) fk_X6_24 dX6_takeBack_32 (sh_25 hG) rfl rfl rfl rfl ?_
    refine j_aload_n hX dX6_takeBack_35 rfl ?_
    refine jpc (b := 36) rfl ?_
    refine j_aload_n hX dX6_takeBack_36 rfl ?_
    refine j_getR (k := 0) hX kX6 (by decide) fk_X6_11 (rf_25_0 hG) dX6_takeBack_37 (sh_25 hG) rfl ?_
    refine j_aload_n hX dX6_takeBack_40 rfl ?_
    refine j_getI (k := 4) hX kX6 (by decide) fk_X6_32 dX6_takeBack_41 (sh_25 hG) rfl ?_
    obtain ⟨i3, hh4, hf⟩ := bd1 hf
    refine j_cV2v hX lk_X6_45 kX8 dX6_takeBack_44 h1.1 (okX8_copyBack hG h1 (sh_26 hG) hh4) rfl rfl (rmm (by omega) hRf hRl (by decide)) (Nat.le_of_ble_eq_true rfl) (Nat.le_add_right _ _) (Nat.le_add_right _ _) ?_
    refine j_iconst hX dX6_takeBack_47 ic_1 ?_
    refine jpc (b := 48) rfl ?_
    cases hf
    exact j_ret hX hr hlk rfl dX6_takeBack_48
  · have hf := ifp hc hf
    refine j_iconst hX dX6_takeBack_7 ic_0 ?_
    cases hf
    exact j_ret hX hr hlk rfl dX6_takeBack_8
theorem okX6_takeBack {l : Launch} {sh : List aSh} {i : Nat → Nat → Int32} {lo : Nat → Nat → Int64} {rv : Nat → Nat → Option Nat}  {p1 : Nat} {vR : Int32} {iR : Nat → Nat → Int32} (hG : aGood sh rv) (h1 : isScn sh rv p1) (hf : fX6_takeBack p1 i = some (vR, iR)) : aM l yX6_takeBack cX6_takeBack 2 (some .boolean) 2 [.ref (100 + 25), .ref (100 + p1)] (sh, i, lo, rv) (some (.int vR)) (sh, iR, lo, rv) :=
  aM_of (by decide) (Nat.le_of_ble_eq_true rfl) (Nat.le_refl _) (Nat.le_refl _) (fun p e s m args below meth c D cA A ad0 hX hr hlk hnm => kX6_takeBack hX hr hlk (Nat.le_refl _) (Nat.le_refl _) h1 hG hf)
def fX11_undo (i : Nat → Nat → Int32) : Option ((Int32) × (Nat → Nat → Int32)) := bn2 (fX6_takeBack 19 i) fun v1 i2 =>
    if v1 = 0 then (some ((-1), i2)) else (bn1 (fX6_acts i2) fun v4 =>
    some (v4, i2))
theorem kX11_undo  {vR : Int32} {iR : Nat → Nat → Int32} (hX : aX p s m args c RX11 cX11_undo 1 D cA A ad0) (hr : meth.sig.returnType = (some .int)) (hlk : meth.locks = false) (hRf : 3 ≤ R.frames) (hRl : 64 * 3 ≤ R.locals) (hG : aGood sh rv) (hf : fX11_undo i = some (vR, iR)) : aJ p l e R s m args below meth c (MQ below (aPost D cA ad0 A (sh, i0, lo0, rv0) (some (.int vR)) (sh, iR, lo, rv)) args s (sh.length - sh.length) (aSn sh - aSn sh) A) D cA A ad0 1 sh.length (aSn sh) 0 [some (.ref (100 + 0))] [] (sh, i, lo, rv) := by
  unfold fX11_undo at hf
  refine j_aload_n hX dX11_undo_0 rfl ?_
  refine j_getR (k := 7) hX kX11 (by decide) fk_X11_55 (rf_0_7 hG) dX11_undo_1 (sh_0 hG) rfl ?_
  refine j_aload_n hX dX11_undo_4 rfl ?_
  refine j_getR (k := 4) hX kX11 (by decide) fk_X11_36 (rf_0_4 hG) dX11_undo_5 (sh_0 hG) rfl ?_
  obtain ⟨v1, i2, hh3, hf⟩ := bd2 hf
  refine j_cV1i hX lk_X11_206 kX6 dX11_undo_8 (sh_25 hG) (okX6_takeBack hG (sc_19 hG) hh3) rfl rfl (rmm (by omega) hRf hRl (by decide)) (Nat.le_of_ble_eq_true rfl) (Nat.le_add_right _ _) (Nat.le_add_right _ _) ?_
  refine jpc (b := 11) rfl ?_
  refine j_if_eq (tgt := 24) hX dX11_undo_11 (by decide) (fun hc => ?_) (fun hc => ?_)
  · have hf := ifp hc hf
    refine j_iconst hX dX11_undo_24 ic_m1 ?_
    cases hf
    exact j_ret hX hr hlk rfl dX11_undo_25
  · have hf := ifn hc hf
    refine j_aload_n hX dX11_undo_14 rfl ?_
    refine j_getR (k := 7) hX kX11 (by decide) fk_X11_55 (rf_0_7 hG) dX11_undo_15 (sh_0 hG) rfl ?_
    obtain ⟨v4, hh5, hf⟩ := bd1 hf
    refine j_cV0i hX lk_X11_185 kX6 dX11_undo_18 (sh_25 hG) (okX6_acts hG hh5) rfl rfl (rmm (by omega) hRf hRl (by decide)) (Nat.le_of_ble_eq_true rfl) (Nat.le_add_right _ _) (Nat.le_add_right _ _) ?_
    refine j_goto (tgt := 25) hX dX11_undo_21 (by decide) ?_
    cases hf
    exact j_ret hX hr hlk rfl dX11_undo_25
theorem okX11_undo {l : Launch} {sh : List aSh} {i : Nat → Nat → Int32} {lo : Nat → Nat → Int64} {rv : Nat → Nat → Option Nat}  {vR : Int32} {iR : Nat → Nat → Int32} (hG : aGood sh rv) (hf : fX11_undo i = some (vR, iR)) : aM l yX11_undo cX11_undo 1 (some .int) 3 [.ref (100 + 0)] (sh, i, lo, rv) (some (.int vR)) (sh, iR, lo, rv) :=
  aM_of (by decide) (Nat.le_of_ble_eq_true rfl) (Nat.le_refl _) (Nat.le_refl _) (fun p e s m args below meth c D cA A ad0 hX hr hlk hnm => kX11_undo hX hr hlk (Nat.le_refl _) (Nat.le_refl _) hG hf)
def fX6_logEntry (p1 : Nat) (a2 : Int32) (a3 : Int32) (i : Nat → Nat → Int32) : Option ((Int32)) := bn1 (fX8_borders p1 i) fun v1 =>
    if aIn (((((v1 - (1 : Int32)) - a2) - ((v1 - (1 : Int32)) - a2) / (100 : Int32) * (100 : Int32)) * (4 : Int32)) + a3) 400 = true then
    (some ((i 27 ((((((v1 - (1 : Int32)) - a2) - ((v1 - (1 : Int32)) - a2) / (100 : Int32) * (100 : Int32)) * (4 : Int32)) + a3) : Int32).toNatClampNeg))) else none
theorem kX6_logEntry  {p1 : Nat} {vR : Int32} (hX : aX p s m args c RX6 cX6_logEntry 4 D cA A ad0) (hr : meth.sig.returnType = (some .int)) (hlk : meth.locks = false) (hRf : 1 ≤ R.frames) (hRl : 64 * 1 ≤ R.locals) (h1 : isScn sh rv p1) {a2 : Int32} {a3 : Int32} (hG : aGood sh rv) (hf : fX6_logEntry p1 a2 a3 i = some (vR)) : aJ p l e R s m args below meth c (MQ below (aPost D cA ad0 A (sh, i0, lo0, rv0) (some (.int vR)) (sh, i, lo, rv)) args s (sh.length - sh.length) (aSn sh - aSn sh) A) D cA A ad0 4 sh.length (aSn sh) 0 [some (.ref (100 + 25)), some (.ref (100 + p1)), some (.int a2), some (.int a3)] [] (sh, i, lo, rv) := by
  unfold fX6_logEntry at hf
  refine j_aload_n hX dX6_logEntry_0 rfl ?_
  refine j_getR (k := 1) hX kX6 (by decide) fk_X6_15 (rf_25_1 hG) dX6_logEntry_1 (sh_25 hG) rfl ?_
  refine j_aload_n hX dX6_logEntry_4 rfl ?_
  obtain ⟨v1, hh2, hf⟩ := bd1 hf
  refine j_cV0i hX lk_X6_48 kX8 dX6_logEntry_5 h1.1 (okX8_borders hG h1 hh2) rfl rfl (rmm (by omega) hRf hRl (by decide)) (Nat.le_of_ble_eq_true rfl) (Nat.le_add_right _ _) (Nat.le_add_right _ _) ?_
  refine j_iconst hX dX6_logEntry_8 ic_1 ?_
  refine jpc (b := 9) rfl ?_
  refine j_isub hX dX6_logEntry_9 ?_
  refine j_iload_n hX dX6_logEntry_10 rfl ?_
  refine j_isub hX dX6_logEntry_11 ?_
  refine j_bipush hX dX6_logEntry_12 bp_100 ?_
  refine j_irem hX dX6_logEntry_14 (by decide) ?_
  refine j_iconst hX dX6_logEntry_15 ic_4 ?_
  refine jpc (b := 16) rfl ?_
  refine j_imul hX dX6_logEntry_16 ?_
  refine j_iload_n hX dX6_logEntry_17 rfl ?_
  refine j_iadd hX dX6_logEntry_18 ?_
  obtain ⟨hg, hf⟩ := gd hf
  refine j_iald hX (sh_27 hG) hg dX6_logEntry_19 ?_
  cases hf
  exact j_ret hX hr hlk rfl dX6_logEntry_20
theorem okX6_logEntry {l : Launch} {sh : List aSh} {i : Nat → Nat → Int32} {lo : Nat → Nat → Int64} {rv : Nat → Nat → Option Nat}  {p1 : Nat} {a2 : Int32} {a3 : Int32} {vR : Int32} (hG : aGood sh rv) (h1 : isScn sh rv p1) (hf : fX6_logEntry p1 a2 a3 i = some (vR)) : aM l yX6_logEntry cX6_logEntry 4 (some .int) 1 [.ref (100 + 25), .ref (100 + p1), .int a2, .int a3] (sh, i, lo, rv) (some (.int vR)) (sh, i, lo, rv) :=
  aM_of (by decide) (Nat.le_of_ble_eq_true rfl) (Nat.le_refl _) (Nat.le_refl _) (fun p e s m args below meth c D cA A ad0 hX hr hlk hnm => kX6_logEntry hX hr hlk (Nat.le_refl _) (Nat.le_refl _) h1 hG hf)
def fX11_log (a1 : Int32) (a2 : Int32) (i : Nat → Nat → Int32) : Option ((Int32)) := if a1 < 0 then (some ((-1))) else (bn1 (fX6_logged 19 i) fun v1 =>
    if v1 ≤ a1 then (some ((-1))) else (if a2 < 0 then (some ((-1))) else (if a2 < 4 then (bn1 (fX6_logEntry 19 a1 a2 i) fun v3 =>
    some (v3)) else (some ((-1))))))
theorem kX11_log  {vR : Int32} (hX : aX p s m args c RX11 cX11_log 3 D cA A ad0) (hr : meth.sig.returnType = (some .int)) (hlk : meth.locks = false) (hRf : 2 ≤ R.frames) (hRl : 64 * 2 ≤ R.locals) {a1 : Int32} {a2 : Int32} (hG : aGood sh rv) (hf : fX11_log a1 a2 i = some (vR)) : aJ p l e R s m args below meth c (MQ below (aPost D cA ad0 A (sh, i0, lo0, rv0) (some (.int vR)) (sh, i, lo, rv)) args s (sh.length - sh.length) (aSn sh - aSn sh) A) D cA A ad0 3 sh.length (aSn sh) 0 [some (.ref (100 + 0)), some (.int a1), some (.int a2)] [] (sh, i, lo, rv) := by
  unfold fX11_log at hf
  refine j_iload_n hX dX11_log_0 rfl ?_
  refine j_if_lt (tgt := 28) hX dX11_log_1 (by decide) (fun hc => ?_) (fun hc => ?_)
  · have hf := ifp hc hf
    refine j_iconst hX dX11_log_28 ic_m1 ?_
    cases hf
    exact j_ret hX hr hlk rfl dX11_log_29
  · have hf := ifn hc hf
    refine j_iload_n hX dX11_log_4 rfl ?_
    refine j_aload_n hX dX11_log_5 rfl ?_
    refine j_getR (k := 7) hX kX11 (by decide) fk_X11_55 (rf_0_7 hG) dX11_log_6 (sh_0 hG) rfl ?_
    refine j_aload_n hX dX11_log_9 rfl ?_
    refine j_getR (k := 4) hX kX11 (by decide) fk_X11_36 (rf_0_4 hG) dX11_log_10 (sh_0 hG) rfl ?_
    refine jpc (b := 13) rfl ?_
    obtain ⟨v1, hh2, hf⟩ := bd1 hf
    refine j_cV1i hX lk_X11_202 kX6 dX11_log_13 (sh_25 hG) (okX6_logged hG (sc_19 hG) hh2) rfl rfl (rmm (by omega) hRf hRl (by decide)) (Nat.le_of_ble_eq_true rfl) (Nat.le_add_right _ _) (Nat.le_add_right _ _) ?_
    refine j_icmp_ge (tgt := 28) hX dX11_log_16 (by decide) (fun hc => ?_) (fun hc => ?_)
    · have hf := ifp hc hf
      refine j_iconst hX dX11_log_28 ic_m1 ?_
      cases hf
      exact j_ret hX hr hlk rfl dX11_log_29
    · have hf := ifn hc hf
      refine j_iload_n hX dX11_log_19 rfl ?_
      refine j_if_lt (tgt := 28) hX dX11_log_20 (by decide) (fun hc => ?_) (fun hc => ?_)
      · have hf := ifp hc hf
        refine j_iconst hX dX11_log_28 ic_m1 ?_
        cases hf
        exact j_ret hX hr hlk rfl dX11_log_29
      · have hf := ifn hc hf
        refine j_iload_n hX dX11_log_23 rfl ?_
        refine j_iconst hX dX11_log_24 ic_4 ?_
        refine j_icmp_lt (tgt := 30) hX dX11_log_25 (by decide) (fun hc => ?_) (fun hc => ?_)
        · have hf := ifp hc hf
          refine j_aload_n hX dX11_log_30 rfl ?_
          refine j_getR (k := 7) hX kX11 (by decide) fk_X11_55 (rf_0_7 hG) dX11_log_31 (sh_0 hG) rfl ?_
          refine j_aload_n hX dX11_log_34 rfl ?_
          refine j_getR (k := 4) hX kX11 (by decide) fk_X11_36 (rf_0_4 hG) dX11_log_35 (sh_0 hG) rfl ?_
          refine j_iload_n hX dX11_log_38 rfl ?_
          refine jpc (b := 39) rfl ?_
          refine j_iload_n hX dX11_log_39 rfl ?_
          obtain ⟨v3, hh4, hf⟩ := bd1 hf
          refine j_cV3i hX lk_X11_210 kX6 dX11_log_40 (sh_25 hG) (okX6_logEntry hG (sc_19 hG) hh4) rfl rfl (rmm (by omega) hRf hRl (by decide)) (Nat.le_of_ble_eq_true rfl) (Nat.le_add_right _ _) (Nat.le_add_right _ _) ?_
          cases hf
          exact j_ret hX hr hlk rfl dX11_log_43
        · have hf := ifn hc hf
          refine j_iconst hX dX11_log_28 ic_m1 ?_
          cases hf
          exact j_ret hX hr hlk rfl dX11_log_29
theorem okX11_log {l : Launch} {sh : List aSh} {i : Nat → Nat → Int32} {lo : Nat → Nat → Int64} {rv : Nat → Nat → Option Nat}  {a1 : Int32} {a2 : Int32} {vR : Int32} (hG : aGood sh rv) (hf : fX11_log a1 a2 i = some (vR)) : aM l yX11_log cX11_log 3 (some .int) 2 [.ref (100 + 0), .int a1, .int a2] (sh, i, lo, rv) (some (.int vR)) (sh, i, lo, rv) :=
  aM_of (by decide) (Nat.le_of_ble_eq_true rfl) (Nat.le_refl _) (Nat.le_refl _) (fun p e s m args below meth c D cA A ad0 hX hr hlk hnm => kX11_log hX hr hlk (Nat.le_refl _) (Nat.le_refl _) hG hf)
def fX9_linesAt (a1 : Int32) (i : Nat → Nat → Int32) (rv : Nat → Nat → Option Nat) : Option ((Option Nat)) := if a1 < 0 then (some (none)) else (if (i 3 5) ≤ a1 then (some (none)) else (if aIn a1 4 = true then
    (mO (rv 5 (a1 : Int32).toNatClampNeg) (some (none)) fun r1 => (some ((some (100 + (r1 - 100)))))) else none))
theorem kX9_linesAt  {vR : Option Nat} (hX : aX p s m args c RX9 cX9_linesAt 2 D cA A ad0) (hr : meth.sig.returnType = (some (.object "WokenBorder$Lines"))) (hlk : meth.locks = false) (hRf : 0 ≤ R.frames) (hRl : 64 * 0 ≤ R.locals) {a1 : Int32} (hG : aGood sh rv) (hf : fX9_linesAt a1 i rv = some (vR)) : aJ p l e R s m args below meth c (MQ below (aPost D cA ad0 A (sh, i0, lo0, rv0) (some (va_rf vR)) (sh, i, lo, rv)) args s (sh.length - sh.length) (aSn sh - aSn sh) A) D cA A ad0 2 sh.length (aSn sh) 0 [some (.ref (100 + 3)), some (.int a1)] [] (sh, i, lo, rv) := by
  unfold fX9_linesAt at hf
  refine j_iload_n hX dX9_linesAt_0 rfl ?_
  refine j_if_lt (tgt := 21) hX dX9_linesAt_1 (by decide) (fun hc => ?_) (fun hc => ?_)
  · have hf := ifp hc hf
    refine j_null hX dX9_linesAt_21 ?_
    cases hf
    exact j_aret hX hr hlk (Or.inl rfl) dX9_linesAt_22
  · have hf := ifn hc hf
    refine j_iload_n hX dX9_linesAt_4 rfl ?_
    refine j_aload_n hX dX9_linesAt_5 rfl ?_
    refine j_getI (k := 5) hX kX9 (by decide) fk_X9_37 dX9_linesAt_6 (sh_3 hG) rfl ?_
    refine j_icmp_ge (tgt := 21) hX dX9_linesAt_9 (by decide) (fun hc => ?_) (fun hc => ?_)
    · have hf := ifp hc hf
      refine j_null hX dX9_linesAt_21 ?_
      cases hf
      exact j_aret hX hr hlk (Or.inl rfl) dX9_linesAt_22
    · have hf := ifn hc hf
      refine j_aload_n hX dX9_linesAt_12 rfl ?_
      refine j_getR (k := 1) hX kX9 (by decide) fk_X9_19 (rf_3_1 hG) dX9_linesAt_13 (sh_3 hG) rfl ?_
      refine j_iload_n hX dX9_linesAt_16 rfl ?_
      obtain ⟨hg, hf⟩ := gd hf
      rcases hqb2 : (rv 5 (a1 : Int32).toNatClampNeg) with _ | r1
      · rw [hqb2] at hf
        have hf := mO_n hf
        refine j_aaldN (t0 := 5) hX (sh_5 hG) (fun _ => rfl) hqb2 hg dX9_linesAt_17 ?_
        refine j_goto (tgt := 22) hX dX9_linesAt_18 (by decide) ?_
        cases hf
        exact j_aret hX hr hlk (Or.inl rfl) dX9_linesAt_22
      · rw [hqb2] at hf
        have hf := mO_s hf
        obtain ⟨eb2, hLb2⟩ := hG.2.2.2.2.2.2.1 _ r1 hqb2
        refine j_aaldR (t0 := 5) hX (sh_5 hG) (fun _ => rfl) (hqb2.trans (congrArg some eb2)) hg dX9_linesAt_17 ?_
        refine j_goto (tgt := 22) hX dX9_linesAt_18 (by decide) ?_
        cases hf
        exact j_aret hX hr hlk (Or.inr ⟨_, rfl⟩) dX9_linesAt_22
theorem okX9_linesAt {l : Launch} {sh : List aSh} {i : Nat → Nat → Int32} {lo : Nat → Nat → Int64} {rv : Nat → Nat → Option Nat}  {a1 : Int32} {vR : Option Nat} (hG : aGood sh rv) (hf : fX9_linesAt a1 i rv = some (vR)) : aM l yX9_linesAt cX9_linesAt 2 (some (.object "WokenBorder$Lines")) 0 [.ref (100 + 3), .int a1] (sh, i, lo, rv) (some (va_rf vR)) (sh, i, lo, rv) :=
  aM_of (by decide) (Nat.le_of_ble_eq_true rfl) (Nat.le_refl _) (Nat.le_refl _) (fun p e s m args below meth c D cA A ad0 hX hr hlk hnm => kX9_linesAt hX hr hlk (Nat.le_refl _) (Nat.le_refl _) hG hf)
theorem vrX9_linesAt {a1 : Int32} {r : Nat} (hG : aGood sh rv) (hf : fX9_linesAt a1 i rv = some (some r)) : r = 100 + (r - 100) ∧ isLin sh rv (r - 100) := by
  unfold fX9_linesAt at hf
  refine ifs hf (fun hc hf => ?_) (fun hc hf => ?_)
  · cases hf
  · refine ifs hf (fun hc hf => ?_) (fun hc hf => ?_)
    · cases hf
    · obtain ⟨hg, hf⟩ := gd hf
      rcases hq : (rv 5 (a1).toNatClampNeg) with _ | r1
      · rw [hq] at hf; have hf := mO_n hf; cases hf
      · rw [hq] at hf
        have hf := mO_s hf
        have e1 := hG.2.2.2.2.2.2.1 _ r1 hq
        have e2 : 100 + (r1 - 100) = r := by simpa using hf
        rw [← e1.1] at e2
        subst e2
        exact e1
def fX5_size (p0 : Nat) (i : Nat → Nat → Int32) : Option ((Int32)) := some ((i p0 1))
theorem kX5_size  {p0 : Nat} {vR : Int32} (hX : aX p s m args c RX5 cX5_size 1 D cA A ad0) (hr : meth.sig.returnType = (some .int)) (hlk : meth.locks = false) (hRf : 0 ≤ R.frames) (hRl : 64 * 0 ≤ R.locals) (h0 : isLin sh rv p0) (hG : aGood sh rv) (hf : fX5_size p0 i = some (vR)) : aJ p l e R s m args below meth c (MQ below (aPost D cA ad0 A (sh, i0, lo0, rv0) (some (.int vR)) (sh, i, lo, rv)) args s (sh.length - sh.length) (aSn sh - aSn sh) A) D cA A ad0 1 sh.length (aSn sh) 0 [some (.ref (100 + p0))] [] (sh, i, lo, rv) := by
  unfold fX5_size at hf
  refine j_aload_n hX dX5_size_0 rfl ?_
  refine j_getI (k := 1) hX kX5 (by decide) fk_X5_15 dX5_size_1 h0.1 rfl ?_
  cases hf
  exact j_ret hX hr hlk rfl dX5_size_4
theorem okX5_size {l : Launch} {sh : List aSh} {i : Nat → Nat → Int32} {lo : Nat → Nat → Int64} {rv : Nat → Nat → Option Nat}  {p0 : Nat} {vR : Int32} (hG : aGood sh rv) (h0 : isLin sh rv p0) (hf : fX5_size p0 i = some (vR)) : aM l yX5_size cX5_size 1 (some .int) 0 [.ref (100 + p0)] (sh, i, lo, rv) (some (.int vR)) (sh, i, lo, rv) :=
  aM_of (by decide) (Nat.le_of_ble_eq_true rfl) (Nat.le_refl _) (Nat.le_refl _) (fun p e s m args below meth c D cA A ad0 hX hr hlk hnm => kX5_size hX hr hlk (Nat.le_refl _) (Nat.le_refl _) h0 hG hf)
def fX5_part (p0 : Nat) (a1 : Int32) (a2 : Int32) (i : Nat → Nat → Int32) : Option ((Int32)) := if aIn ((a1 * (3 : Int32)) + a2) 48 = true then
    (some ((i (p0 + 1) (((a1 * (3 : Int32)) + a2) : Int32).toNatClampNeg))) else none
theorem kX5_part  {p0 : Nat} {vR : Int32} (hX : aX p s m args c RX5 cX5_part 3 D cA A ad0) (hr : meth.sig.returnType = (some .int)) (hlk : meth.locks = false) (hRf : 0 ≤ R.frames) (hRl : 64 * 0 ≤ R.locals) (h0 : isLin sh rv p0) {a1 : Int32} {a2 : Int32} (hG : aGood sh rv) (hf : fX5_part p0 a1 a2 i = some (vR)) : aJ p l e R s m args below meth c (MQ below (aPost D cA ad0 A (sh, i0, lo0, rv0) (some (.int vR)) (sh, i, lo, rv)) args s (sh.length - sh.length) (aSn sh - aSn sh) A) D cA A ad0 3 sh.length (aSn sh) 0 [some (.ref (100 + p0)), some (.int a1), some (.int a2)] [] (sh, i, lo, rv) := by
  unfold fX5_part at hf
  refine j_aload_n hX dX5_part_0 rfl ?_
  refine j_getR (k := 0) hX kX5 (by decide) fk_X5_11 h0.2.2 dX5_part_1 h0.1 rfl ?_
  refine j_iload_n hX dX5_part_4 rfl ?_
  refine j_iconst hX dX5_part_5 ic_3 ?_
  refine j_imul hX dX5_part_6 ?_
  refine jpc (b := 7) rfl ?_
  refine j_iload_n hX dX5_part_7 rfl ?_
  refine j_iadd hX dX5_part_8 ?_
  obtain ⟨hg, hf⟩ := gd hf
  refine j_iald hX h0.2.1 hg dX5_part_9 ?_
  cases hf
  exact j_ret hX hr hlk rfl dX5_part_10
theorem okX5_part {l : Launch} {sh : List aSh} {i : Nat → Nat → Int32} {lo : Nat → Nat → Int64} {rv : Nat → Nat → Option Nat}  {p0 : Nat} {a1 : Int32} {a2 : Int32} {vR : Int32} (hG : aGood sh rv) (h0 : isLin sh rv p0) (hf : fX5_part p0 a1 a2 i = some (vR)) : aM l yX5_part cX5_part 3 (some .int) 0 [.ref (100 + p0), .int a1, .int a2] (sh, i, lo, rv) (some (.int vR)) (sh, i, lo, rv) :=
  aM_of (by decide) (Nat.le_of_ble_eq_true rfl) (Nat.le_refl _) (Nat.le_refl _) (fun p e s m args below meth c D cA A ad0 hX hr hlk hnm => kX5_part hX hr hlk (Nat.le_refl _) (Nat.le_refl _) h0 hG hf)
def fX11_step (a1 : Int32) (a2 : Int32) (a3 : Int32) (i : Nat → Nat → Int32) (rv : Nat → Nat → Option Nat) : Option ((Int32)) := bn1 (fX9_linesAt a1 i rv) fun v1 =>
    mO v1 (some ((-1000000))) fun r3 => (if a2 < 0 then (some ((-1000000))) else (bn1 (fX5_size (r3 - 100) i) fun v5 =>
    if v5 ≤ a2 then (some ((-1000000))) else (if a3 < 0 then (some ((-1000000))) else (if a3 < 3 then (bn1 (fX5_part (r3 - 100) a2 a3 i) fun v7 =>
    some (v7)) else (some ((-1000000)))))))
theorem kX11_step  {vR : Int32} (hX : aX p s m args c RX11 cX11_step 5 D cA A ad0) (hr : meth.sig.returnType = (some .int)) (hlk : meth.locks = false) (hRf : 1 ≤ R.frames) (hRl : 64 * 1 ≤ R.locals) {a1 : Int32} {a2 : Int32} {a3 : Int32} (hG : aGood sh rv) (hf : fX11_step a1 a2 a3 i rv = some (vR)) : aJ p l e R s m args below meth c (MQ below (aPost D cA ad0 A (sh, i0, lo0, rv0) (some (.int vR)) (sh, i, lo, rv)) args s (sh.length - sh.length) (aSn sh - aSn sh) A) D cA A ad0 5 sh.length (aSn sh) 0 [some (.ref (100 + 0)), some (.int a1), some (.int a2), some (.int a3), none] [] (sh, i, lo, rv) := by
  unfold fX11_step at hf
  refine j_aload_n hX dX11_step_0 rfl ?_
  refine j_getR (k := 1) hX kX11 (by decide) fk_X11_19 (rf_0_1 hG) dX11_step_1 (sh_0 hG) rfl ?_
  refine j_iload_n hX dX11_step_4 rfl ?_
  obtain ⟨v1, hh2, hf⟩ := bd1 hf
  refine j_cV1r hX lk_X11_214 kX9 dX11_step_5 (sh_3 hG) (okX9_linesAt hG hh2) rfl rfl (rmm (by omega) hRf hRl (by decide)) (Nat.le_of_ble_eq_true rfl) (Nat.le_add_right _ _) (Nat.le_add_right _ _) ?_
  rcases v1 with _ | r3
  · have hf := mO_n hf
    refine j_astoreN hX dX11_step_8 (by decide) rfl ?_
    refine j_aloadN hX dX11_step_10 rfl ?_
    refine j_ifnullN (tgt := 37) hX dX11_step_12 (by decide) ?_
    refine j_ldc hX kc_X11_219 dX11_step_37 ?_
    cases hf
    exact j_ret hX hr hlk rfl dX11_step_39
  · have hf := mO_s hf
    obtain ⟨eb4, hLb4⟩ := vrX9_linesAt hG hh2
    rw [show (va_rf (some r3)) = .ref (100 + (r3 - 100)) from congrArg Value.ref eb4]
    refine j_astore hX dX11_step_8 (by decide) rfl ?_
    refine j_aload hX dX11_step_10 rfl ?_
    refine j_ifnull hX dX11_step_12 ?_
    refine j_iload_n hX dX11_step_15 rfl ?_
    refine j_if_lt (tgt := 37) hX dX11_step_16 (by decide) (fun hc => ?_) (fun hc => ?_)
    · have hf := ifp hc hf
      refine j_ldc hX kc_X11_219 dX11_step_37 ?_
      cases hf
      exact j_ret hX hr hlk rfl dX11_step_39
    · have hf := ifn hc hf
      refine j_iload_n hX dX11_step_19 rfl ?_
      refine j_aload hX dX11_step_20 rfl ?_
      obtain ⟨v5, hh6, hf⟩ := bd1 hf
      refine j_cV0i hX lk_X11_218 kX5 dX11_step_22 hLb4.1 (okX5_size hG hLb4 hh6) rfl rfl (rmm (by omega) hRf hRl (by decide)) (Nat.le_of_ble_eq_true rfl) (Nat.le_add_right _ _) (Nat.le_add_right _ _) ?_
      refine j_icmp_ge (tgt := 37) hX dX11_step_25 (by decide) (fun hc => ?_) (fun hc => ?_)
      · have hf := ifp hc hf
        refine j_ldc hX kc_X11_219 dX11_step_37 ?_
        cases hf
        exact j_ret hX hr hlk rfl dX11_step_39
      · have hf := ifn hc hf
        refine j_iload_n hX dX11_step_28 rfl ?_
        refine j_if_lt (tgt := 37) hX dX11_step_29 (by decide) (fun hc => ?_) (fun hc => ?_)
        · have hf := ifp hc hf
          refine j_ldc hX kc_X11_219 dX11_step_37 ?_
          cases hf
          exact j_ret hX hr hlk rfl dX11_step_39
        · have hf := ifn hc hf
          refine j_iload_n hX dX11_step_32 rfl ?_
          refine j_iconst hX dX11_step_33 ic_3 ?_
          refine j_icmp_lt (tgt := 40) hX dX11_step_34 (by decide) (fun hc => ?_) (fun hc => ?_)
          · have hf := ifp hc hf
            refine j_aload hX dX11_step_40 rfl ?_
            refine j_iload_n hX dX11_step_42 rfl ?_
            refine j_iload_n hX dX11_step_43 rfl ?_
            obtain ⟨v7, hh8, hf⟩ := bd1 hf
            refine j_cV2i hX lk_X11_220 kX5 dX11_step_44 hLb4.1 (okX5_part hG hLb4 hh8) rfl rfl (rmm (by omega) hRf hRl (by decide)) (Nat.le_of_ble_eq_true rfl) (Nat.le_add_right _ _) (Nat.le_add_right _ _) ?_
            cases hf
            exact j_ret hX hr hlk rfl dX11_step_47
          · have hf := ifn hc hf
            refine j_ldc hX kc_X11_219 dX11_step_37 ?_
            cases hf
            exact j_ret hX hr hlk rfl dX11_step_39
theorem okX11_step {l : Launch} {sh : List aSh} {i : Nat → Nat → Int32} {lo : Nat → Nat → Int64} {rv : Nat → Nat → Option Nat}  {a1 : Int32} {a2 : Int32} {a3 : Int32} {vR : Int32} (hG : aGood sh rv) (hf : fX11_step a1 a2 a3 i rv = some (vR)) : aM l yX11_step cX11_step 5 (some .int) 1 [.ref (100 + 0), .int a1, .int a2, .int a3] (sh, i, lo, rv) (some (.int vR)) (sh, i, lo, rv) :=
  aM_of (by decide) (Nat.le_of_ble_eq_true rfl) (Nat.le_refl _) (Nat.le_refl _) (fun p e s m args below meth c D cA A ad0 hX hr hlk hnm => kX11_step hX hr hlk (Nat.le_refl _) (Nat.le_refl _) hG hf)
def fX8_copyFrom (p0 : Nat) (p1 : Nat) (i : Nat → Nat → Int32) : Option ((Nat → Nat → Int32)) := if ¬ (0 : Int32) < 0 ∧ ¬ (0 : Int32) < 0 ∧ ¬ (56 : Int32) < 0 ∧ (0 : Int32).toNatClampNeg + (56 : Int32).toNatClampNeg ≤ 56 ∧ (0 : Int32).toNatClampNeg + (56 : Int32).toNatClampNeg ≤ 56 then
    (lt (cp2 i (i (p1 + 1)) (0 : Int32).toNatClampNeg (p0 + 1) (0 : Int32).toNatClampNeg (56 : Int32).toNatClampNeg) fun i1 => some (i1)) else none
theorem kX8_copyFrom  {p0 : Nat} {p1 : Nat} {iR : Nat → Nat → Int32} (hX : aX p s m args c RX8 cX8_copyFrom 2 D cA A ad0) (hr : meth.sig.returnType = none) (hlk : meth.locks = false) (hRf : 1 ≤ R.frames) (hRl : 64 * 1 ≤ R.locals) (h0 : isScn sh rv p0) (h1 : isScn sh rv p1) (hG : aGood sh rv) (hf : fX8_copyFrom p0 p1 i = some (iR)) : aJ p l e R s m args below meth c (MQ below (aPost D cA ad0 A (sh, i0, lo0, rv0) none (sh, iR, lo, rv)) args s (sh.length - sh.length) (aSn sh - aSn sh) A) D cA A ad0 2 sh.length (aSn sh) 0 [some (.ref (100 + p0)), some (.ref (100 + p1))] [] (sh, i, lo, rv) := by
  unfold fX8_copyFrom at hf
  refine j_aload_n hX dX8_copyFrom_0 rfl ?_
  refine j_getR (k := 0) hX kX8 (by decide) fk_X8_11 h1.2.2 dX8_copyFrom_1 h1.1 rfl ?_
  refine j_iconst hX dX8_copyFrom_4 ic_0 ?_
  refine j_aload_n hX dX8_copyFrom_5 rfl ?_
  refine j_getR (k := 0) hX kX8 (by decide) fk_X8_11 h0.2.2 dX8_copyFrom_6 h0.1 rfl ?_
  refine jpc (b := 9) rfl ?_
  refine j_iconst hX dX8_copyFrom_9 ic_0 ?_
  refine j_bipush hX dX8_copyFrom_10 bp_56 ?_
  obtain ⟨hg, hf⟩ := gd hf
  have hf := ltd hf
  refine j_copy hX lk_X8_35 h1.2.1 h0.2.1 hg.1 hg.2.1 hg.2.2.1 hg.2.2.2.1 hg.2.2.2.2 (by omega) (Nat.le_trans (Nat.le_of_ble_eq_true rfl) hRl) dX8_copyFrom_12 ?_
  cases hf
  exact j_vret hX hr hlk dX8_copyFrom_15
theorem okX8_copyFrom {l : Launch} {sh : List aSh} {i : Nat → Nat → Int32} {lo : Nat → Nat → Int64} {rv : Nat → Nat → Option Nat}  {p0 : Nat} {p1 : Nat} {iR : Nat → Nat → Int32} (hG : aGood sh rv) (h0 : isScn sh rv p0) (h1 : isScn sh rv p1) (hf : fX8_copyFrom p0 p1 i = some (iR)) : aM l yX8_copyFrom cX8_copyFrom 2 none 1 [.ref (100 + p0), .ref (100 + p1)] (sh, i, lo, rv) none (sh, iR, lo, rv) :=
  aM_of (by decide) (Nat.le_of_ble_eq_true rfl) (Nat.le_refl _) (Nat.le_refl _) (fun p e s m args below meth c D cA A ad0 hX hr hlk hnm => kX8_copyFrom hX hr hlk (Nat.le_refl _) (Nat.le_refl _) h0 h1 hG hf)
def fX8_lostInAll (p0 : Nat) (i : Nat → Nat → Int32) : Option ((Int32)) := bn1 (fX8_sumFrom p0 45 i) fun v1 =>
    some (v1)
theorem kX8_lostInAll  {p0 : Nat} {vR : Int32} (hX : aX p s m args c RX8 cX8_lostInAll 1 D cA A ad0) (hr : meth.sig.returnType = (some .int)) (hlk : meth.locks = false) (hRf : 1 ≤ R.frames) (hRl : 64 * 1 ≤ R.locals) (h0 : isScn sh rv p0) (hG : aGood sh rv) (hf : fX8_lostInAll p0 i = some (vR)) : aJ p l e R s m args below meth c (MQ below (aPost D cA ad0 A (sh, i0, lo0, rv0) (some (.int vR)) (sh, i, lo, rv)) args s (sh.length - sh.length) (aSn sh - aSn sh) A) D cA A ad0 1 sh.length (aSn sh) 0 [some (.ref (100 + p0))] [] (sh, i, lo, rv) := by
  unfold fX8_lostInAll at hf
  refine j_aload_n hX dX8_lostInAll_0 rfl ?_
  refine j_bipush hX dX8_lostInAll_1 bp_45 ?_
  obtain ⟨v1, hh2, hf⟩ := bd1 hf
  refine j_cV1i hX lk_X8_46 kX8 dX8_lostInAll_3 h0.1 (okX8_sumFrom hG h0 hh2) rfl rfl (rmm (by omega) hRf hRl (by decide)) (Nat.le_of_ble_eq_true rfl) (Nat.le_add_right _ _) (Nat.le_add_right _ _) ?_
  cases hf
  exact j_ret hX hr hlk rfl dX8_lostInAll_6
theorem okX8_lostInAll {l : Launch} {sh : List aSh} {i : Nat → Nat → Int32} {lo : Nat → Nat → Int64} {rv : Nat → Nat → Option Nat}  {p0 : Nat} {vR : Int32} (hG : aGood sh rv) (h0 : isScn sh rv p0) (hf : fX8_lostInAll p0 i = some (vR)) : aM l yX8_lostInAll cX8_lostInAll 1 (some .int) 1 [.ref (100 + p0)] (sh, i, lo, rv) (some (.int vR)) (sh, i, lo, rv) :=
  aM_of (by decide) (Nat.le_of_ble_eq_true rfl) (Nat.le_refl _) (Nat.le_refl _) (fun p e s m args below meth c D cA A ad0 hX hr hlk hnm => kX8_lostInAll hX hr hlk (Nat.le_refl _) (Nat.le_refl _) h0 hG hf)
def fX11_run_97 (x2 : Int32) (y3 : Nat) (x4 : Int32) (i : Nat → Nat → Int32) (rv : Nat → Nat → Option Nat) : Option ((Int32) × (Nat → Nat → Int32)) := if x2 = 1 then (bn1 (fX8_lostInAll 21 i) fun v22 =>
    bn1 (fX8_lostInAll 19 i) fun v24 =>
    some ((v22 - v24), i)) else (bn1 (fX5_size y3 i) fun v20 =>
    if x4 = v20 then (some ((-1), i)) else (some (x4, i)))
theorem kX11_run_97  {vR : Int32} {iR : Nat → Nat → Int32} (hX : aX p s m args c RX11 cX11_run 5 D cA A ad0) (hr : meth.sig.returnType = (some .int)) (hlk : meth.locks = false) (hRf : 7 ≤ R.frames) (hRl : 64 * 7 ≤ R.locals) {x2 : Int32} {y3 : Nat} {x4 : Int32} (hG : aGood sh rv) (hy3 : isLin sh rv y3) (hf : fX11_run_97 x2 y3 x4 i rv = some (vR, iR)) : aJ p l e R s m args below meth c (MQ below (aPost D cA ad0 A (sh, i0, lo0, rv0) (some (.int vR)) (sh, iR, lo, rv)) args s (sh.length - sh.length) (aSn sh - aSn sh) A) D cA A ad0 5 sh.length (aSn sh) 97 [some (.ref (100 + 0)), none, some (.int x2), some (.ref (100 + y3)), some (.int x4)] [] (sh, i, lo, rv) := by
  unfold fX11_run_97 at hf
  refine j_iload_n hX dX11_run_97 rfl ?_
  refine j_iconst hX dX11_run_98 ic_1 ?_
  refine j_icmp_ne (tgt := 118) hX dX11_run_99 (by decide) (fun hc => ?_) (fun hc => ?_)
  · have hf := ifn hc hf
    refine j_iload hX dX11_run_118 rfl ?_
    refine j_aload_n hX dX11_run_120 rfl ?_
    obtain ⟨v20, hh21, hf⟩ := bd1 hf
    refine j_cV0i hX lk_X11_218 kX5 dX11_run_121 hy3.1 (okX5_size hG hy3 hh21) rfl rfl (rmm (by omega) hRf hRl (by decide)) (Nat.le_of_ble_eq_true rfl) (Nat.le_add_right _ _) (Nat.le_add_right _ _) ?_
    refine j_icmp_ne (tgt := 131) hX dX11_run_124 (by decide) (fun hc => ?_) (fun hc => ?_)
    · have hf := ifn hc hf
      refine j_iload hX dX11_run_131 rfl ?_
      cases hf
      exact j_ret hX hr hlk rfl dX11_run_133
    · have hf := ifp hc hf
      refine j_iconst hX dX11_run_127 ic_m1 ?_
      refine j_goto (tgt := 133) hX dX11_run_128 (by decide) ?_
      cases hf
      exact j_ret hX hr hlk rfl dX11_run_133
  · have hf := ifp hc hf
    refine j_aload_n hX dX11_run_102 rfl ?_
    refine j_getR (k := 5) hX kX11 (by decide) fk_X11_40 (rf_0_5 hG) dX11_run_103 (sh_0 hG) rfl ?_
    obtain ⟨v22, hh23, hf⟩ := bd1 hf
    refine j_cV0i hX lk_X11_230 kX8 dX11_run_106 (sh_21 hG) (okX8_lostInAll hG (sc_21 hG) hh23) rfl rfl (rmm (by omega) hRf hRl (by decide)) (Nat.le_of_ble_eq_true rfl) (Nat.le_add_right _ _) (Nat.le_add_right _ _) ?_
    refine j_aload_n hX dX11_run_109 rfl ?_
    refine j_getR (k := 4) hX kX11 (by decide) fk_X11_36 (rf_0_4 hG) dX11_run_110 (sh_0 hG) rfl ?_
    refine jpc (b := 113) rfl ?_
    obtain ⟨v24, hh25, hf⟩ := bd1 hf
    refine j_cV0i hX lk_X11_230 kX8 dX11_run_113 (sh_19 hG) (okX8_lostInAll hG (sc_19 hG) hh25) rfl rfl (rmm (by omega) hRf hRl (by decide)) (Nat.le_of_ble_eq_true rfl) (Nat.le_add_right _ _) (Nat.le_add_right _ _) ?_
    refine j_isub hX dX11_run_116 ?_
    cases hf
    exact j_ret hX hr hlk rfl dX11_run_117
def fX11_run_46 : Nat → Int32 → Nat → Int32 → (Nat → Nat → Int32) → (Nat → Nat → Option Nat) → Option ((Int32) × (Nat → Nat → Int32))
  | 0, _, _, _, _, _ => none
  | n + 1, x2, y3, x4, i, rv => bn1 (fX5_size y3 i) fun v9 =>
    if v9 ≤ x4 then (fX11_run_97 x2 y3 x4 i rv) else (bn1 (fX5_part y3 x4 0 i) fun v11 =>
    bn1 (fX5_part y3 x4 1 i) fun v13 =>
    bn1 (fX5_part y3 x4 2 i) fun v15 =>
    bn2 (fX3_done 21 v11 v13 v15 i rv) fun v17 i18 =>
    if v17 = (-1) then (fX11_run_97 x2 y3 x4 i18 rv) else (fX11_run_46 n x2 y3 (x4 + 1) i18 rv))
theorem kX11_run_46  {vR : Int32} {iR : Nat → Nat → Int32} (hX : aX p s m args c RX11 cX11_run 5 D cA A ad0) (hr : meth.sig.returnType = (some .int)) (hlk : meth.locks = false) (hRf : 7 ≤ R.frames) (hRl : 64 * 7 ≤ R.locals) : ∀ (n : Nat) (x2 : Int32) (y3 : Nat) (x4 : Int32) (i : Nat → Nat → Int32), aGood sh rv → isLin sh rv y3 → fX11_run_46 n x2 y3 x4 i rv = some (vR, iR) → aJ p l e R s m args below meth c (MQ below (aPost D cA ad0 A (sh, i0, lo0, rv0) (some (.int vR)) (sh, iR, lo, rv)) args s (sh.length - sh.length) (aSn sh - aSn sh) A) D cA A ad0 5 sh.length (aSn sh) 46 [some (.ref (100 + 0)), none, some (.int x2), some (.ref (100 + y3)), some (.int x4)] [] (sh, i, lo, rv) := by
  intro n
  induction n with
  | zero => intros; rename_i hf; cases hf
  | succ n ih =>
    intro x2 y3 x4 i hG hy3 hf
    rw [fX11_run_46] at hf
    refine j_iload hX dX11_run_46 rfl ?_
    refine j_aload_n hX dX11_run_48 rfl ?_
    obtain ⟨v9, hh10, hf⟩ := bd1 hf
    refine j_cV0i hX lk_X11_218 kX5 dX11_run_49 hy3.1 (okX5_size hG hy3 hh10) rfl rfl (rmm (by omega) hRf hRl (by decide)) (Nat.le_of_ble_eq_true rfl) (Nat.le_add_right _ _) (Nat.le_add_right _ _) ?_
    refine j_icmp_ge (tgt := 97) hX dX11_run_52 (by decide) (fun hc => ?_) (fun hc => ?_)
    · have hf := ifp hc hf
      exact aJx (kX11_run_97 hX hr hlk hRf hRl hG hy3 hf) (And.intro rfl (And.intro rfl (And.intro rfl (And.intro rfl (rfl)))))
    · have hf := ifn hc hf
      refine j_aload_n hX dX11_run_55 rfl ?_
      refine j_getR (k := 6) hX kX11 (by decide) fk_X11_48 (rf_0_6 hG) dX11_run_56 (sh_0 hG) rfl ?_
      refine j_aload_n hX dX11_run_59 rfl ?_
      refine j_getR (k := 5) hX kX11 (by decide) fk_X11_40 (rf_0_5 hG) dX11_run_60 (sh_0 hG) rfl ?_
      refine j_aload_n hX dX11_run_63 rfl ?_
      refine jpc (b := 64) rfl ?_
      refine j_iload hX dX11_run_64 rfl ?_
      refine j_iconst hX dX11_run_66 ic_0 ?_
      obtain ⟨v11, hh12, hf⟩ := bd1 hf
      refine j_cV2i hX lk_X11_220 kX5 dX11_run_67 hy3.1 (okX5_part hG hy3 hh12) rfl rfl (rmm (by omega) hRf hRl (by decide)) (Nat.le_of_ble_eq_true rfl) (Nat.le_add_right _ _) (Nat.le_add_right _ _) ?_
      refine j_aload_n hX dX11_run_70 rfl ?_
      refine j_iload hX dX11_run_71 rfl ?_
      refine j_iconst hX dX11_run_73 ic_1 ?_
      refine jpc (b := 74) rfl ?_
      obtain ⟨v13, hh14, hf⟩ := bd1 hf
      refine j_cV2i hX lk_X11_220 kX5 dX11_run_74 hy3.1 (okX5_part hG hy3 hh14) rfl rfl (rmm (by omega) hRf hRl (by decide)) (Nat.le_of_ble_eq_true rfl) (Nat.le_add_right _ _) (Nat.le_add_right _ _) ?_
      refine j_aload_n hX dX11_run_77 rfl ?_
      refine j_iload hX dX11_run_78 rfl ?_
      refine j_iconst hX dX11_run_80 ic_2 ?_
      obtain ⟨v15, hh16, hf⟩ := bd1 hf
      refine j_cV2i hX lk_X11_220 kX5 dX11_run_81 hy3.1 (okX5_part hG hy3 hh16) rfl rfl (rmm (by omega) hRf hRl (by decide)) (Nat.le_of_ble_eq_true rfl) (Nat.le_add_right _ _) (Nat.le_add_right _ _) ?_
      obtain ⟨v17, i18, hh19, hf⟩ := bd2 hf
      refine j_cV4i hX lk_X11_226 kX3 dX11_run_84 (sh_23 hG) (okX3_done hG (sc_21 hG) hh19) rfl rfl (rmm (by omega) hRf hRl (by decide)) (Nat.le_of_ble_eq_true rfl) (Nat.le_add_right _ _) (Nat.le_add_right _ _) ?_
      refine jpc (b := 87) rfl ?_
      refine j_iconst hX dX11_run_87 ic_m1 ?_
      refine j_icmp_eq (tgt := 97) hX dX11_run_88 (by decide) (fun hc => ?_) (fun hc => ?_)
      · have hf := ifp hc hf
        exact aJx (kX11_run_97 hX hr hlk hRf hRl hG hy3 hf) (And.intro rfl (And.intro rfl (And.intro rfl (And.intro rfl (rfl)))))
      · have hf := ifn hc hf
        refine j_iinc hX dX11_run_91 rfl (congrArg (_ + ·) ic_1) (by decide) rfl ?_
        refine j_goto (tgt := 46) hX dX11_run_94 (by decide) ?_
        exact aJx (ih _ _ _ _ hG hy3 hf) (And.intro rfl (And.intro rfl (And.intro rfl (And.intro rfl (rfl)))))
def fX11_run (a1 : Int32) (a2 : Int32) (i : Nat → Nat → Int32) (rv : Nat → Nat → Option Nat) : Option ((Int32) × (Nat → Nat → Int32)) := bn1 (fX9_linesAt a1 i rv) fun v1 =>
    mO v1 (some ((-1000000), i)) fun r3 => (bn1 (fX11_noCar i) fun v5 =>
    if v5 = 0 then (if a2 < 0 then (some ((-1000000), i)) else (if a2 ≤ 1 then (bn1 (fX8_copyFrom 21 19 i) fun i7 =>
    fX11_run_46 fuel a2 (r3 - 100) 0 i7 rv) else (some ((-1000000), i)))) else (some ((-1000000), i)))
theorem kX11_run  {vR : Int32} {iR : Nat → Nat → Int32} (hX : aX p s m args c RX11 cX11_run 5 D cA A ad0) (hr : meth.sig.returnType = (some .int)) (hlk : meth.locks = false) (hRf : 7 ≤ R.frames) (hRl : 64 * 7 ≤ R.locals) {a1 : Int32} {a2 : Int32} (hG : aGood sh rv) (hf : fX11_run a1 a2 i rv = some (vR, iR)) : aJ p l e R s m args below meth c (MQ below (aPost D cA ad0 A (sh, i0, lo0, rv0) (some (.int vR)) (sh, iR, lo, rv)) args s (sh.length - sh.length) (aSn sh - aSn sh) A) D cA A ad0 5 sh.length (aSn sh) 0 [some (.ref (100 + 0)), some (.int a1), some (.int a2), none, none] [] (sh, i, lo, rv) := by
  unfold fX11_run at hf
  refine j_aload_n hX dX11_run_0 rfl ?_
  refine j_getR (k := 1) hX kX11 (by decide) fk_X11_19 (rf_0_1 hG) dX11_run_1 (sh_0 hG) rfl ?_
  refine j_iload_n hX dX11_run_4 rfl ?_
  obtain ⟨v1, hh2, hf⟩ := bd1 hf
  refine j_cV1r hX lk_X11_214 kX9 dX11_run_5 (sh_3 hG) (okX9_linesAt hG hh2) rfl rfl (rmm (by omega) hRf hRl (by decide)) (Nat.le_of_ble_eq_true rfl) (Nat.le_add_right _ _) (Nat.le_add_right _ _) ?_
  rcases v1 with _ | r3
  · have hf := mO_n hf
    refine j_astore_nN hX dX11_run_8 (by decide) rfl ?_
    refine j_aload_nN hX dX11_run_9 rfl ?_
    refine j_ifnullN (tgt := 29) hX dX11_run_10 (by decide) ?_
    refine j_ldc hX kc_X11_219 dX11_run_29 ?_
    cases hf
    exact j_ret hX hr hlk rfl dX11_run_31
  · have hf := mO_s hf
    obtain ⟨eb4, hLb4⟩ := vrX9_linesAt hG hh2
    rw [show (va_rf (some r3)) = .ref (100 + (r3 - 100)) from congrArg Value.ref eb4]
    refine j_astore_n hX dX11_run_8 (by decide) rfl ?_
    refine j_aload_n hX dX11_run_9 rfl ?_
    refine j_ifnull hX dX11_run_10 ?_
    refine j_aload_n hX dX11_run_13 rfl ?_
    obtain ⟨v5, hh6, hf⟩ := bd1 hf
    refine j_cV0i hX lk_X11_120 kX11 dX11_run_14 (sh_0 hG) (okX11_noCar hG hh6) rfl rfl (rmm (by omega) hRf hRl (by decide)) (Nat.le_of_ble_eq_true rfl) (Nat.le_add_right _ _) (Nat.le_add_right _ _) ?_
    refine jpc (b := 17) rfl ?_
    refine j_if_ne (tgt := 29) hX dX11_run_17 (by decide) (fun hc => ?_) (fun hc => ?_)
    · have hf := ifn hc hf
      refine j_ldc hX kc_X11_219 dX11_run_29 ?_
      cases hf
      exact j_ret hX hr hlk rfl dX11_run_31
    · have hf := ifp hc hf
      refine j_iload_n hX dX11_run_20 rfl ?_
      refine j_if_lt (tgt := 29) hX dX11_run_21 (by decide) (fun hc => ?_) (fun hc => ?_)
      · have hf := ifp hc hf
        refine j_ldc hX kc_X11_219 dX11_run_29 ?_
        cases hf
        exact j_ret hX hr hlk rfl dX11_run_31
      · have hf := ifn hc hf
        refine j_iload_n hX dX11_run_24 rfl ?_
        refine j_iconst hX dX11_run_25 ic_1 ?_
        refine j_icmp_le (tgt := 32) hX dX11_run_26 (by decide) (fun hc => ?_) (fun hc => ?_)
        · have hf := ifp hc hf
          refine j_aload_n hX dX11_run_32 rfl ?_
          refine j_getR (k := 5) hX kX11 (by decide) fk_X11_40 (rf_0_5 hG) dX11_run_33 (sh_0 hG) rfl ?_
          refine j_aload_n hX dX11_run_36 rfl ?_
          refine j_getR (k := 4) hX kX11 (by decide) fk_X11_36 (rf_0_4 hG) dX11_run_37 (sh_0 hG) rfl ?_
          obtain ⟨i7, hh8, hf⟩ := bd1 hf
          refine j_cV1v hX lk_X11_223 kX8 dX11_run_40 (sh_21 hG) (okX8_copyFrom hG (sc_21 hG) (sc_19 hG) hh8) rfl rfl (rmm (by omega) hRf hRl (by decide)) (Nat.le_of_ble_eq_true rfl) (Nat.le_add_right _ _) (Nat.le_add_right _ _) ?_
          refine jpc (b := 43) rfl ?_
          refine j_iconst hX dX11_run_43 ic_0 ?_
          refine j_istore hX dX11_run_44 (by decide) rfl ?_
          exact aJx (kX11_run_46 hX hr hlk hRf hRl fuel _ _ _ _ hG hLb4 hf) (And.intro rfl (And.intro rfl (And.intro rfl (And.intro rfl (rfl)))))
        · have hf := ifn hc hf
          refine j_ldc hX kc_X11_219 dX11_run_29 ?_
          cases hf
          exact j_ret hX hr hlk rfl dX11_run_31
theorem okX11_run {l : Launch} {sh : List aSh} {i : Nat → Nat → Int32} {lo : Nat → Nat → Int64} {rv : Nat → Nat → Option Nat}  {a1 : Int32} {a2 : Int32} {vR : Int32} {iR : Nat → Nat → Int32} (hG : aGood sh rv) (hf : fX11_run a1 a2 i rv = some (vR, iR)) : aM l yX11_run cX11_run 5 (some .int) 7 [.ref (100 + 0), .int a1, .int a2] (sh, i, lo, rv) (some (.int vR)) (sh, iR, lo, rv) :=
  aM_of (by decide) (Nat.le_of_ble_eq_true rfl) (Nat.le_refl _) (Nat.le_refl _) (fun p e s m args below meth c D cA A ad0 hX hr hlk hnm => kX11_run hX hr hlk (Nat.le_refl _) (Nat.le_refl _) hG hf)
def fX11_perform_24 : Nat → Nat → Int32 → (Nat → Nat → Int32) → (Nat → Nat → Option Nat) → Option ((Int32) × (Nat → Nat → Int32))
  | 0, _, _, _, _ => none
  | n + 1, y2, x3, i, rv => bn1 (fX5_size y2 i) fun v7 =>
    if v7 ≤ x3 then (some (x3, i)) else (bn1 (fX5_part y2 x3 0 i) fun v9 =>
    bn1 (fX5_part y2 x3 1 i) fun v11 =>
    bn1 (fX5_part y2 x3 2 i) fun v13 =>
    bn2 (fX11_act v9 v11 v13 i rv) fun v15 i16 =>
    if v15 = (-1) then (some (x3, i16)) else (fX11_perform_24 n y2 (x3 + 1) i16 rv))
theorem kX11_perform_24  {vR : Int32} {iR : Nat → Nat → Int32} (hX : aX p s m args c RX11 cX11_perform 4 D cA A ad0) (hr : meth.sig.returnType = (some .int)) (hlk : meth.locks = false) (hRf : 8 ≤ R.frames) (hRl : 64 * 8 ≤ R.locals) : ∀ (n : Nat) (y2 : Nat) (x3 : Int32) (i : Nat → Nat → Int32), aGood sh rv → isLin sh rv y2 → fX11_perform_24 n y2 x3 i rv = some (vR, iR) → aJ p l e R s m args below meth c (MQ below (aPost D cA ad0 A (sh, i0, lo0, rv0) (some (.int vR)) (sh, iR, lo, rv)) args s (sh.length - sh.length) (aSn sh - aSn sh) A) D cA A ad0 4 sh.length (aSn sh) 24 [some (.ref (100 + 0)), none, some (.ref (100 + y2)), some (.int x3)] [] (sh, i, lo, rv) := by
  intro n
  induction n with
  | zero => intros; rename_i hf; cases hf
  | succ n ih =>
    intro y2 x3 i hG hy2 hf
    rw [fX11_perform_24] at hf
    refine j_iload_n hX dX11_perform_24 rfl ?_
    refine j_aload_n hX dX11_perform_25 rfl ?_
    obtain ⟨v7, hh8, hf⟩ := bd1 hf
    refine j_cV0i hX lk_X11_218 kX5 dX11_perform_26 hy2.1 (okX5_size hG hy2 hh8) rfl rfl (rmm (by omega) hRf hRl (by decide)) (Nat.le_of_ble_eq_true rfl) (Nat.le_add_right _ _) (Nat.le_add_right _ _) ?_
    refine j_icmp_ge (tgt := 64) hX dX11_perform_29 (by decide) (fun hc => ?_) (fun hc => ?_)
    · have hf := ifp hc hf
      refine j_iload_n hX dX11_perform_64 rfl ?_
      cases hf
      exact j_ret hX hr hlk rfl dX11_perform_65
    · have hf := ifn hc hf
      refine j_aload_n hX dX11_perform_32 rfl ?_
      refine j_aload_n hX dX11_perform_33 rfl ?_
      refine j_iload_n hX dX11_perform_34 rfl ?_
      refine j_iconst hX dX11_perform_35 ic_0 ?_
      obtain ⟨v9, hh10, hf⟩ := bd1 hf
      refine j_cV2i hX lk_X11_220 kX5 dX11_perform_36 hy2.1 (okX5_part hG hy2 hh10) rfl rfl (rmm (by omega) hRf hRl (by decide)) (Nat.le_of_ble_eq_true rfl) (Nat.le_add_right _ _) (Nat.le_add_right _ _) ?_
      refine jpc (b := 39) rfl ?_
      refine j_aload_n hX dX11_perform_39 rfl ?_
      refine j_iload_n hX dX11_perform_40 rfl ?_
      refine j_iconst hX dX11_perform_41 ic_1 ?_
      obtain ⟨v11, hh12, hf⟩ := bd1 hf
      refine j_cV2i hX lk_X11_220 kX5 dX11_perform_42 hy2.1 (okX5_part hG hy2 hh12) rfl rfl (rmm (by omega) hRf hRl (by decide)) (Nat.le_of_ble_eq_true rfl) (Nat.le_add_right _ _) (Nat.le_add_right _ _) ?_
      refine j_aload_n hX dX11_perform_45 rfl ?_
      refine j_iload_n hX dX11_perform_46 rfl ?_
      refine jpc (b := 47) rfl ?_
      refine j_iconst hX dX11_perform_47 ic_2 ?_
      obtain ⟨v13, hh14, hf⟩ := bd1 hf
      refine j_cV2i hX lk_X11_220 kX5 dX11_perform_48 hy2.1 (okX5_part hG hy2 hh14) rfl rfl (rmm (by omega) hRf hRl (by decide)) (Nat.le_of_ble_eq_true rfl) (Nat.le_add_right _ _) (Nat.le_add_right _ _) ?_
      obtain ⟨v15, i16, hh17, hf⟩ := bd2 hf
      refine j_cV3i hX lk_X11_181 kX11 dX11_perform_51 (sh_0 hG) (okX11_act hG hh17) rfl rfl (rmm (by omega) hRf hRl (by decide)) (Nat.le_of_ble_eq_true rfl) (Nat.le_add_right _ _) (Nat.le_add_right _ _) ?_
      refine j_iconst hX dX11_perform_54 ic_m1 ?_
      refine j_icmp_eq (tgt := 64) hX dX11_perform_55 (by decide) (fun hc => ?_) (fun hc => ?_)
      · have hf := ifp hc hf
        refine j_iload_n hX dX11_perform_64 rfl ?_
        cases hf
        exact j_ret hX hr hlk rfl dX11_perform_65
      · have hf := ifn hc hf
        refine j_iinc hX dX11_perform_58 rfl (congrArg (_ + ·) ic_1) (by decide) rfl ?_
        refine j_goto (tgt := 24) hX dX11_perform_61 (by decide) ?_
        exact aJx (ih _ _ _ hG hy2 hf) (And.intro rfl (And.intro rfl (And.intro rfl (rfl))))
def fX11_perform (a1 : Int32) (i : Nat → Nat → Int32) (rv : Nat → Nat → Option Nat) : Option ((Int32) × (Nat → Nat → Int32)) := bn1 (fX9_linesAt a1 i rv) fun v1 =>
    mO v1 (some ((-1), i)) fun r3 => (bn1 (fX11_noCar i) fun v5 =>
    if v5 = 0 then (fX11_perform_24 fuel (r3 - 100) 0 i rv) else (some ((-1), i)))
theorem kX11_perform  {vR : Int32} {iR : Nat → Nat → Int32} (hX : aX p s m args c RX11 cX11_perform 4 D cA A ad0) (hr : meth.sig.returnType = (some .int)) (hlk : meth.locks = false) (hRf : 8 ≤ R.frames) (hRl : 64 * 8 ≤ R.locals) {a1 : Int32} (hG : aGood sh rv) (hf : fX11_perform a1 i rv = some (vR, iR)) : aJ p l e R s m args below meth c (MQ below (aPost D cA ad0 A (sh, i0, lo0, rv0) (some (.int vR)) (sh, iR, lo, rv)) args s (sh.length - sh.length) (aSn sh - aSn sh) A) D cA A ad0 4 sh.length (aSn sh) 0 [some (.ref (100 + 0)), some (.int a1), none, none] [] (sh, i, lo, rv) := by
  unfold fX11_perform at hf
  refine j_aload_n hX dX11_perform_0 rfl ?_
  refine j_getR (k := 1) hX kX11 (by decide) fk_X11_19 (rf_0_1 hG) dX11_perform_1 (sh_0 hG) rfl ?_
  refine j_iload_n hX dX11_perform_4 rfl ?_
  obtain ⟨v1, hh2, hf⟩ := bd1 hf
  refine j_cV1r hX lk_X11_214 kX9 dX11_perform_5 (sh_3 hG) (okX9_linesAt hG hh2) rfl rfl (rmm (by omega) hRf hRl (by decide)) (Nat.le_of_ble_eq_true rfl) (Nat.le_add_right _ _) (Nat.le_add_right _ _) ?_
  rcases v1 with _ | r3
  · have hf := mO_n hf
    refine j_astore_nN hX dX11_perform_8 (by decide) rfl ?_
    refine j_aload_nN hX dX11_perform_9 rfl ?_
    refine j_ifnullN (tgt := 20) hX dX11_perform_10 (by decide) ?_
    refine j_iconst hX dX11_perform_20 ic_m1 ?_
    cases hf
    exact j_ret hX hr hlk rfl dX11_perform_21
  · have hf := mO_s hf
    obtain ⟨eb4, hLb4⟩ := vrX9_linesAt hG hh2
    rw [show (va_rf (some r3)) = .ref (100 + (r3 - 100)) from congrArg Value.ref eb4]
    refine j_astore_n hX dX11_perform_8 (by decide) rfl ?_
    refine j_aload_n hX dX11_perform_9 rfl ?_
    refine j_ifnull hX dX11_perform_10 ?_
    refine j_aload_n hX dX11_perform_13 rfl ?_
    obtain ⟨v5, hh6, hf⟩ := bd1 hf
    refine j_cV0i hX lk_X11_120 kX11 dX11_perform_14 (sh_0 hG) (okX11_noCar hG hh6) rfl rfl (rmm (by omega) hRf hRl (by decide)) (Nat.le_of_ble_eq_true rfl) (Nat.le_add_right _ _) (Nat.le_add_right _ _) ?_
    refine jpc (b := 17) rfl ?_
    refine j_if_eq (tgt := 22) hX dX11_perform_17 (by decide) (fun hc => ?_) (fun hc => ?_)
    · have hf := ifp hc hf
      refine j_iconst hX dX11_perform_22 ic_0 ?_
      refine j_istore_n hX dX11_perform_23 (by decide) rfl ?_
      exact aJx (kX11_perform_24 hX hr hlk hRf hRl fuel _ _ _ hG hLb4 hf) (And.intro rfl (And.intro rfl (And.intro rfl (rfl))))
    · have hf := ifn hc hf
      refine j_iconst hX dX11_perform_20 ic_m1 ?_
      cases hf
      exact j_ret hX hr hlk rfl dX11_perform_21
theorem okX11_perform {l : Launch} {sh : List aSh} {i : Nat → Nat → Int32} {lo : Nat → Nat → Int64} {rv : Nat → Nat → Option Nat}  {a1 : Int32} {vR : Int32} {iR : Nat → Nat → Int32} (hG : aGood sh rv) (hf : fX11_perform a1 i rv = some (vR, iR)) : aM l yX11_perform cX11_perform 4 (some .int) 8 [.ref (100 + 0), .int a1] (sh, i, lo, rv) (some (.int vR)) (sh, iR, lo, rv) :=
  aM_of (by decide) (Nat.le_of_ble_eq_true rfl) (Nat.le_refl _) (Nat.le_refl _) (fun p e s m args below meth c D cA A ad0 hX hr hlk hnm => kX11_perform hX hr hlk (Nat.le_refl _) (Nat.le_refl _) hG hf)
def fX11_time (a1 : Int32) (a2 : Int32) (i : Nat → Nat → Int32) (rv : Nat → Nat → Option Nat) : Option ((Int32) × (Nat → Nat → Int32)) := bn1 (fX1_hasOfficer 15 a1 i) fun v1 =>
    if v1 = 0 then (some ((-1), i)) else (if a2 < 0 then (some ((-1), i)) else (if a2 ≤ 1 then (bn2 (fX3_pass 19 a1 0 i rv) fun v3 i4 =>
    if a2 = 0 then (some (v3, i4)) else (bn1 (fX3_sleepLost i4) fun v6 =>
    some (v6, i4))) else (some ((-1), i))))
theorem kX11_time  {vR : Int32} {iR : Nat → Nat → Int32} (hX : aX p s m args c RX11 cX11_time 4 D cA A ad0) (hr : meth.sig.returnType = (some .int)) (hlk : meth.locks = false) (hRf : 5 ≤ R.frames) (hRl : 64 * 5 ≤ R.locals) {a1 : Int32} {a2 : Int32} (hG : aGood sh rv) (hf : fX11_time a1 a2 i rv = some (vR, iR)) : aJ p l e R s m args below meth c (MQ below (aPost D cA ad0 A (sh, i0, lo0, rv0) (some (.int vR)) (sh, iR, lo, rv)) args s (sh.length - sh.length) (aSn sh - aSn sh) A) D cA A ad0 4 sh.length (aSn sh) 0 [some (.ref (100 + 0)), some (.int a1), some (.int a2), none] [] (sh, i, lo, rv) := by
  unfold fX11_time at hf
  refine j_aload_n hX dX11_time_0 rfl ?_
  refine j_getR (k := 3) hX kX11 (by decide) fk_X11_30 (rf_0_3 hG) dX11_time_1 (sh_0 hG) rfl ?_
  refine j_iload_n hX dX11_time_4 rfl ?_
  obtain ⟨v1, hh2, hf⟩ := bd1 hf
  refine j_cV1i hX lk_X11_162 kX1 dX11_time_5 (sh_15 hG) (okX1_hasOfficer hG (cr_15 hG) hh2) rfl rfl (rmm (by omega) hRf hRl (by decide)) (Nat.le_of_ble_eq_true rfl) (Nat.le_add_right _ _) (Nat.le_add_right _ _) ?_
  refine j_if_eq (tgt := 20) hX dX11_time_8 (by decide) (fun hc => ?_) (fun hc => ?_)
  · have hf := ifp hc hf
    refine j_iconst hX dX11_time_20 ic_m1 ?_
    cases hf
    exact j_ret hX hr hlk rfl dX11_time_21
  · have hf := ifn hc hf
    refine j_iload_n hX dX11_time_11 rfl ?_
    refine j_if_lt (tgt := 20) hX dX11_time_12 (by decide) (fun hc => ?_) (fun hc => ?_)
    · have hf := ifp hc hf
      refine j_iconst hX dX11_time_20 ic_m1 ?_
      cases hf
      exact j_ret hX hr hlk rfl dX11_time_21
    · have hf := ifn hc hf
      refine j_iload_n hX dX11_time_15 rfl ?_
      refine j_iconst hX dX11_time_16 ic_1 ?_
      refine j_icmp_le (tgt := 22) hX dX11_time_17 (by decide) (fun hc => ?_) (fun hc => ?_)
      · have hf := ifp hc hf
        refine j_aload_n hX dX11_time_22 rfl ?_
        refine j_getR (k := 6) hX kX11 (by decide) fk_X11_48 (rf_0_6 hG) dX11_time_23 (sh_0 hG) rfl ?_
        refine j_aload_n hX dX11_time_26 rfl ?_
        refine j_getR (k := 4) hX kX11 (by decide) fk_X11_36 (rf_0_4 hG) dX11_time_27 (sh_0 hG) rfl ?_
        refine j_iload_n hX dX11_time_30 rfl ?_
        refine jpc (b := 31) rfl ?_
        refine j_iconst hX dX11_time_31 ic_0 ?_
        obtain ⟨v3, i4, hh5, hf⟩ := bd2 hf
        refine j_cV3i hX lk_X11_233 kX3 dX11_time_32 (sh_23 hG) (okX3_pass hG (sc_19 hG) hh5) rfl rfl (rmm (by omega) hRf hRl (by decide)) (Nat.le_of_ble_eq_true rfl) (Nat.le_add_right _ _) (Nat.le_add_right _ _) ?_
        refine j_istore_n hX dX11_time_35 (by decide) rfl ?_
        refine j_iload_n hX dX11_time_36 rfl ?_
        refine j_if_ne (tgt := 44) hX dX11_time_37 (by decide) (fun hc => ?_) (fun hc => ?_)
        · have hf := ifn hc hf
          refine j_aload_n hX dX11_time_44 rfl ?_
          refine j_getR (k := 6) hX kX11 (by decide) fk_X11_48 (rf_0_6 hG) dX11_time_45 (sh_0 hG) rfl ?_
          obtain ⟨v6, hh7, hf⟩ := bd1 hf
          refine j_cV0i hX lk_X11_237 kX3 dX11_time_48 (sh_23 hG) (okX3_sleepLost hG hh7) rfl rfl (rmm (by omega) hRf hRl (by decide)) (Nat.le_of_ble_eq_true rfl) (Nat.le_add_right _ _) (Nat.le_add_right _ _) ?_
          cases hf
          exact j_ret hX hr hlk rfl dX11_time_51
        · have hf := ifp hc hf
          refine j_iload_n hX dX11_time_40 rfl ?_
          refine j_goto (tgt := 51) hX dX11_time_41 (by decide) ?_
          cases hf
          exact j_ret hX hr hlk rfl dX11_time_51
      · have hf := ifn hc hf
        refine j_iconst hX dX11_time_20 ic_m1 ?_
        cases hf
        exact j_ret hX hr hlk rfl dX11_time_21
theorem okX11_time {l : Launch} {sh : List aSh} {i : Nat → Nat → Int32} {lo : Nat → Nat → Int64} {rv : Nat → Nat → Option Nat}  {a1 : Int32} {a2 : Int32} {vR : Int32} {iR : Nat → Nat → Int32} (hG : aGood sh rv) (hf : fX11_time a1 a2 i rv = some (vR, iR)) : aM l yX11_time cX11_time 4 (some .int) 5 [.ref (100 + 0), .int a1, .int a2] (sh, i, lo, rv) (some (.int vR)) (sh, iR, lo, rv) :=
  aM_of (by decide) (Nat.le_of_ble_eq_true rfl) (Nat.le_refl _) (Nat.le_refl _) (fun p e s m args below meth c D cA A ad0 hX hr hlk hnm => kX11_time hX hr hlk (Nat.le_refl _) (Nat.le_refl _) hG hf)
def fX7_layOutPapers_173 (kh19 : Int32 → Int32 → (Nat → Nat → Int32) → Option ((Nat → Nat → Int32))) (x1 : Int32) (x2 : Int32) (i : Nat → Nat → Int32) : Option ((Nat → Nat → Int32)) := kh19 x1 (x2 + 1) i
theorem kX7_layOutPapers_173  {iR : Nat → Nat → Int32} (hX : aX p s m args c RX7 cX7_layOutPapers 4 D cA A ad0) (hr : meth.sig.returnType = none) (hlk : meth.locks = false) (hRf : 4 ≤ R.frames) (hRl : 64 * 4 ≤ R.locals) {kh19 : Int32 → Int32 → (Nat → Nat → Int32) → Option ((Nat → Nat → Int32))} (Hkh19 : ∀ (x1 : Int32) (x2 : Int32) (i : Nat → Nat → Int32), aGood sh rv → kh19 x1 x2 i = some (iR) → aJ p l e R s m args below meth c (MQ below (aPost D cA ad0 A (sh, i0, lo0, rv0) none (sh, iR, lo, rv)) args s (sh.length - sh.length) (aSn sh - aSn sh) A) D cA A ad0 4 sh.length (aSn sh) 19 [some (.ref (100 + 30)), some (.int x1), some (.int x2), none] [] (sh, i, lo, rv)) {x1 : Int32} {x2 : Int32} (hG : aGood sh rv) (hf : fX7_layOutPapers_173 kh19 x1 x2 i = some (iR)) : aJ p l e R s m args below meth c (MQ below (aPost D cA ad0 A (sh, i0, lo0, rv0) none (sh, iR, lo, rv)) args s (sh.length - sh.length) (aSn sh - aSn sh) A) D cA A ad0 4 sh.length (aSn sh) 173 [some (.ref (100 + 30)), some (.int x1), some (.int x2), none] [] (sh, i, lo, rv) := by
  unfold fX7_layOutPapers_173 at hf
  refine j_iinc hX dX7_layOutPapers_173 rfl (congrArg (_ + ·) ic_1) (by decide) rfl ?_
  refine j_goto (tgt := 19) hX dX7_layOutPapers_176 (by decide) ?_
  exact aJx (Hkh19 _ _ _ hG  hf) (And.intro rfl (And.intro rfl (And.intro rfl (rfl))))
def fX7_layOutPapers_118 (kh19 : Int32 → Int32 → (Nat → Nat → Int32) → Option ((Nat → Nat → Int32))) : Nat → Int32 → Int32 → Int32 → (Nat → Nat → Int32) → Option ((Nat → Nat → Int32))
  | 0, _, _, _, _ => none
  | n + 1, x1, x2, x3, i => if ((1 : Int32) <<< ((i 30 7) &&& 31)) ≤ x3 then (lt (u2 i 30 7 ((i 30 7) + (1 : Int32))) fun i15 =>
    fX7_layOutPapers_173 kh19 x1 x2 i15) else (if aIn x3 128 = true then
    (if aIn (i 30 7) 7 = true then
    (if aIn (x3 ||| ((1 : Int32) <<< ((i 30 7) &&& 31))) 128 = true then
    (lt (u2 i 33 ((x3 ||| ((1 : Int32) <<< ((i 30 7) &&& 31))) : Int32).toNatClampNeg ((i 33 (x3 : Int32).toNatClampNeg) + (i 32 ((i 30 7) : Int32).toNatClampNeg))) fun i16 => fX7_layOutPapers_118 kh19 n x1 x2 (x3 + 1) i16) else none) else none) else none)
theorem kX7_layOutPapers_118  {iR : Nat → Nat → Int32} (hX : aX p s m args c RX7 cX7_layOutPapers 4 D cA A ad0) (hr : meth.sig.returnType = none) (hlk : meth.locks = false) (hRf : 4 ≤ R.frames) (hRl : 64 * 4 ≤ R.locals) {kh19 : Int32 → Int32 → (Nat → Nat → Int32) → Option ((Nat → Nat → Int32))} (Hkh19 : ∀ (x1 : Int32) (x2 : Int32) (i : Nat → Nat → Int32), aGood sh rv → kh19 x1 x2 i = some (iR) → aJ p l e R s m args below meth c (MQ below (aPost D cA ad0 A (sh, i0, lo0, rv0) none (sh, iR, lo, rv)) args s (sh.length - sh.length) (aSn sh - aSn sh) A) D cA A ad0 4 sh.length (aSn sh) 19 [some (.ref (100 + 30)), some (.int x1), some (.int x2), none] [] (sh, i, lo, rv)) : ∀ (n : Nat) (x1 : Int32) (x2 : Int32) (x3 : Int32) (i : Nat → Nat → Int32), aGood sh rv → fX7_layOutPapers_118 kh19 n x1 x2 x3 i = some (iR) → aJ p l e R s m args below meth c (MQ below (aPost D cA ad0 A (sh, i0, lo0, rv0) none (sh, iR, lo, rv)) args s (sh.length - sh.length) (aSn sh - aSn sh) A) D cA A ad0 4 sh.length (aSn sh) 118 [some (.ref (100 + 30)), some (.int x1), some (.int x2), some (.int x3)] [] (sh, i, lo, rv) := by
  intro n
  induction n with
  | zero => intros; rename_i hf; cases hf
  | succ n ih =>
    intro x1 x2 x3 i hG hf
    rw [fX7_layOutPapers_118] at hf
    refine j_iload_n hX dX7_layOutPapers_118 rfl ?_
    refine j_iconst hX dX7_layOutPapers_119 ic_1 ?_
    refine j_aload_n hX dX7_layOutPapers_120 rfl ?_
    refine j_getI (k := 7) hX kX7 (by decide) fk_X7_77 dX7_layOutPapers_121 (sh_30 hG) rfl ?_
    refine j_ishl hX dX7_layOutPapers_124 ?_
    refine jpc (b := 125) rfl ?_
    refine j_icmp_ge (tgt := 163) hX dX7_layOutPapers_125 (by decide) (fun hc => ?_) (fun hc => ?_)
    · have hf := ifp hc hf
      refine j_aload_n hX dX7_layOutPapers_163 rfl ?_
      refine j_dup hX dX7_layOutPapers_164 rfl ?_
      refine j_getI (k := 7) hX kX7 (by decide) fk_X7_77 dX7_layOutPapers_165 (sh_30 hG) rfl ?_
      refine j_iconst hX dX7_layOutPapers_168 ic_1 ?_
      refine j_iadd hX dX7_layOutPapers_169 ?_
      refine jpc (b := 170) rfl ?_
      have hf := ltd hf
      refine j_putI (k := 7) hX kX7 (by decide) fk_X7_77 dX7_layOutPapers_170 (sh_30 hG) rfl rfl rfl rfl ?_
      exact aJx (kX7_layOutPapers_173 hX hr hlk hRf hRl Hkh19 hG  hf) (And.intro rfl (And.intro rfl (And.intro rfl (rfl))))
    · have hf := ifn hc hf
      refine j_aload_n hX dX7_layOutPapers_128 rfl ?_
      refine j_getR (k := 5) hX kX7 (by decide) fk_X7_20 (rf_30_5 hG) dX7_layOutPapers_129 (sh_30 hG) rfl ?_
      refine j_iload_n hX dX7_layOutPapers_132 rfl ?_
      refine j_iconst hX dX7_layOutPapers_133 ic_1 ?_
      refine j_aload_n hX dX7_layOutPapers_134 rfl ?_
      refine jpc (b := 135) rfl ?_
      refine j_getI (k := 7) hX kX7 (by decide) fk_X7_77 dX7_layOutPapers_135 (sh_30 hG) rfl ?_
      refine j_ishl hX dX7_layOutPapers_138 ?_
      refine j_ior hX dX7_layOutPapers_139 ?_
      refine j_aload_n hX dX7_layOutPapers_140 rfl ?_
      refine j_getR (k := 5) hX kX7 (by decide) fk_X7_20 (rf_30_5 hG) dX7_layOutPapers_141 (sh_30 hG) rfl ?_
      refine j_iload_n hX dX7_layOutPapers_144 rfl ?_
      refine jpc (b := 145) rfl ?_
      obtain ⟨hg, hf⟩ := gd hf
      refine j_iald hX (sh_33 hG) hg dX7_layOutPapers_145 ?_
      refine j_aload_n hX dX7_layOutPapers_146 rfl ?_
      refine j_getR (k := 4) hX kX7 (by decide) fk_X7_17 (rf_30_4 hG) dX7_layOutPapers_147 (sh_30 hG) rfl ?_
      refine j_aload_n hX dX7_layOutPapers_150 rfl ?_
      refine j_getI (k := 7) hX kX7 (by decide) fk_X7_77 dX7_layOutPapers_151 (sh_30 hG) rfl ?_
      obtain ⟨hg, hf⟩ := gd hf
      refine j_iald hX (sh_32 hG) hg dX7_layOutPapers_154 ?_
      refine j_iadd hX dX7_layOutPapers_155 ?_
      obtain ⟨hg, hf⟩ := gd hf
      have hf := ltd hf
      refine j_iast hX (sh_33 hG) hg dX7_layOutPapers_156 ?_
      refine j_iinc hX dX7_layOutPapers_157 rfl (congrArg (_ + ·) ic_1) (by decide) rfl ?_
      refine j_goto (tgt := 118) hX dX7_layOutPapers_160 (by decide) ?_
      exact aJx (ih _ _ _ _ hG  hf) (And.intro rfl (And.intro rfl (And.intro rfl (And.intro rfl (rfl)))))
def fX7_layOutPapers_112 (kh19 : Int32 → Int32 → (Nat → Nat → Int32) → Option ((Nat → Nat → Int32))) (x1 : Int32) (x2 : Int32) (s1 : Int32) (s2 : Int32) (i : Nat → Nat → Int32) : Option ((Nat → Nat → Int32)) := lt (u2 i 30 8 (s1 ||| s2)) fun i14 =>
    fX7_layOutPapers_118 kh19 fuel x1 x2 0 i14
theorem kX7_layOutPapers_112  {iR : Nat → Nat → Int32} (hX : aX p s m args c RX7 cX7_layOutPapers 4 D cA A ad0) (hr : meth.sig.returnType = none) (hlk : meth.locks = false) (hRf : 4 ≤ R.frames) (hRl : 64 * 4 ≤ R.locals) {kh19 : Int32 → Int32 → (Nat → Nat → Int32) → Option ((Nat → Nat → Int32))} (Hkh19 : ∀ (x1 : Int32) (x2 : Int32) (i : Nat → Nat → Int32), aGood sh rv → kh19 x1 x2 i = some (iR) → aJ p l e R s m args below meth c (MQ below (aPost D cA ad0 A (sh, i0, lo0, rv0) none (sh, iR, lo, rv)) args s (sh.length - sh.length) (aSn sh - aSn sh) A) D cA A ad0 4 sh.length (aSn sh) 19 [some (.ref (100 + 30)), some (.int x1), some (.int x2), none] [] (sh, i, lo, rv)) {x1 : Int32} {x2 : Int32} {s1 : Int32} {s2 : Int32} (hG : aGood sh rv) (hf : fX7_layOutPapers_112 kh19 x1 x2 s1 s2 i = some (iR)) : aJ p l e R s m args below meth c (MQ below (aPost D cA ad0 A (sh, i0, lo0, rv0) none (sh, iR, lo, rv)) args s (sh.length - sh.length) (aSn sh - aSn sh) A) D cA A ad0 4 sh.length (aSn sh) 112 [some (.ref (100 + 30)), some (.int x1), some (.int x2), none] [.int s2, .int s1, .ref (100 + 30)] (sh, i, lo, rv) := by
  unfold fX7_layOutPapers_112 at hf
  refine j_ior hX dX7_layOutPapers_112 ?_
  have hf := ltd hf
  refine j_putI (k := 8) hX kX7 (by decide) fk_X7_88 dX7_layOutPapers_113 (sh_30 hG) rfl rfl rfl rfl ?_
  refine j_iconst hX dX7_layOutPapers_116 ic_0 ?_
  refine j_istore_n hX dX7_layOutPapers_117 (by decide) rfl ?_
  exact aJx (kX7_layOutPapers_118 hX hr hlk hRf hRl Hkh19 fuel _ _ _ _ hG  hf) (And.intro rfl (And.intro rfl (And.intro rfl (And.intro rfl (rfl)))))
def fX7_layOutPapers_19 : Nat → Int32 → Int32 → (Nat → Nat → Int32) → Option ((Nat → Nat → Int32))
  | 0, _, _, _ => none
  | n + 1, x1, x2, i => bn1 (fX1_sleepers 15 i) fun v4 =>
    if v4 ≤ x2 then (some (i)) else (if 7 ≤ (i 30 7) then (some (i)) else (bn1 (fX1_hasPaper 15 x2 i) fun v6 =>
    if v6 = 0 then (fX7_layOutPapers_173 (fX7_layOutPapers_19 n) x1 x2 i) else (if aIn (i 30 7) 9 = true then
    (lt (u2 i 31 ((i 30 7) : Int32).toNatClampNeg x2) fun i8 => bn1 (fX3_turnOf 19 x2 x1 i8) fun v9 =>
    if aIn (i8 30 7) 7 = true then
    (lt (u2 i8 32 ((i8 30 7) : Int32).toNatClampNeg v9) fun i11 => bn1 (fX3_takesCoffee 19 x2 i11) fun v12 =>
    if v12 = 0 then (fX7_layOutPapers_112 (fX7_layOutPapers_19 n) x1 x2 (i11 30 8) 0 i11) else (fX7_layOutPapers_112 (fX7_layOutPapers_19 n) x1 x2 (i11 30 8) ((1 : Int32) <<< ((i11 30 7) &&& 31)) i11)) else none) else none)))
theorem kX7_layOutPapers_19  {iR : Nat → Nat → Int32} (hX : aX p s m args c RX7 cX7_layOutPapers 4 D cA A ad0) (hr : meth.sig.returnType = none) (hlk : meth.locks = false) (hRf : 4 ≤ R.frames) (hRl : 64 * 4 ≤ R.locals) : ∀ (n : Nat) (x1 : Int32) (x2 : Int32) (i : Nat → Nat → Int32), aGood sh rv → fX7_layOutPapers_19 n x1 x2 i = some (iR) → aJ p l e R s m args below meth c (MQ below (aPost D cA ad0 A (sh, i0, lo0, rv0) none (sh, iR, lo, rv)) args s (sh.length - sh.length) (aSn sh - aSn sh) A) D cA A ad0 4 sh.length (aSn sh) 19 [some (.ref (100 + 30)), some (.int x1), some (.int x2), none] [] (sh, i, lo, rv) := by
  intro n
  induction n with
  | zero => intros; rename_i hf; cases hf
  | succ n ih =>
    intro x1 x2 i hG hf
    rw [fX7_layOutPapers_19] at hf
    refine j_iload_n hX dX7_layOutPapers_19 rfl ?_
    refine j_aload_n hX dX7_layOutPapers_20 rfl ?_
    refine j_getR (k := 0) hX kX7 (by decide) fk_X7_26 (rf_30_0 hG) dX7_layOutPapers_21 (sh_30 hG) rfl ?_
    obtain ⟨v4, hh5, hf⟩ := bd1 hf
    refine j_cV0i hX lk_X7_91 kX1 dX7_layOutPapers_24 (sh_15 hG) (okX1_sleepers hG (cr_15 hG) hh5) rfl rfl (rmm (by omega) hRf hRl (by decide)) (Nat.le_of_ble_eq_true rfl) (Nat.le_add_right _ _) (Nat.le_add_right _ _) ?_
    refine j_icmp_ge (tgt := 179) hX dX7_layOutPapers_27 (by decide) (fun hc => ?_) (fun hc => ?_)
    · have hf := ifp hc hf
      cases hf
      exact j_vret hX hr hlk dX7_layOutPapers_179
    · have hf := ifn hc hf
      refine j_aload_n hX dX7_layOutPapers_30 rfl ?_
      refine j_getI (k := 7) hX kX7 (by decide) fk_X7_77 dX7_layOutPapers_31 (sh_30 hG) rfl ?_
      refine j_bipush hX dX7_layOutPapers_34 bp_7 ?_
      refine j_icmp_ge (tgt := 179) hX dX7_layOutPapers_36 (by decide) (fun hc => ?_) (fun hc => ?_)
      · have hf := ifp hc hf
        cases hf
        exact j_vret hX hr hlk dX7_layOutPapers_179
      · have hf := ifn hc hf
        refine j_aload_n hX dX7_layOutPapers_39 rfl ?_
        refine j_getR (k := 0) hX kX7 (by decide) fk_X7_26 (rf_30_0 hG) dX7_layOutPapers_40 (sh_30 hG) rfl ?_
        refine j_iload_n hX dX7_layOutPapers_43 rfl ?_
        obtain ⟨v6, hh7, hf⟩ := bd1 hf
        refine j_cV1i hX lk_X7_94 kX1 dX7_layOutPapers_44 (sh_15 hG) (okX1_hasPaper hG (cr_15 hG) hh7) rfl rfl (rmm (by omega) hRf hRl (by decide)) (Nat.le_of_ble_eq_true rfl) (Nat.le_add_right _ _) (Nat.le_add_right _ _) ?_
        refine j_if_eq (tgt := 173) hX dX7_layOutPapers_47 (by decide) (fun hc => ?_) (fun hc => ?_)
        · have hf := ifp hc hf
          exact aJx (kX7_layOutPapers_173 hX hr hlk hRf hRl ih hG  hf) (And.intro rfl (And.intro rfl (And.intro rfl (rfl))))
        · have hf := ifn hc hf
          refine j_aload_n hX dX7_layOutPapers_50 rfl ?_
          refine j_getR (k := 3) hX kX7 (by decide) fk_X7_13 (rf_30_3 hG) dX7_layOutPapers_51 (sh_30 hG) rfl ?_
          refine j_aload_n hX dX7_layOutPapers_54 rfl ?_
          refine j_getI (k := 7) hX kX7 (by decide) fk_X7_77 dX7_layOutPapers_55 (sh_30 hG) rfl ?_
          refine j_iload_n hX dX7_layOutPapers_58 rfl ?_
          refine jpc (b := 59) rfl ?_
          obtain ⟨hg, hf⟩ := gd hf
          have hf := ltd hf
          refine j_iast hX (sh_31 hG) hg dX7_layOutPapers_59 ?_
          refine j_aload_n hX dX7_layOutPapers_60 rfl ?_
          refine j_getR (k := 4) hX kX7 (by decide) fk_X7_17 (rf_30_4 hG) dX7_layOutPapers_61 (sh_30 hG) rfl ?_
          refine j_aload_n hX dX7_layOutPapers_64 rfl ?_
          refine j_getI (k := 7) hX kX7 (by decide) fk_X7_77 dX7_layOutPapers_65 (sh_30 hG) rfl ?_
          refine j_aload_n hX dX7_layOutPapers_68 rfl ?_
          refine jpc (b := 69) rfl ?_
          refine j_getR (k := 1) hX kX7 (by decide) fk_X7_30 (rf_30_1 hG) dX7_layOutPapers_69 (sh_30 hG) rfl ?_
          refine j_aload_n hX dX7_layOutPapers_72 rfl ?_
          refine j_getR (k := 2) hX kX7 (by decide) fk_X7_34 (rf_30_2 hG) dX7_layOutPapers_73 (sh_30 hG) rfl ?_
          refine j_iload_n hX dX7_layOutPapers_76 rfl ?_
          refine j_iload_n hX dX7_layOutPapers_77 rfl ?_
          obtain ⟨v9, hh10, hf⟩ := bd1 hf
          refine j_cV3i hX lk_X7_54 kX3 dX7_layOutPapers_78 (sh_23 hG) (okX3_turnOf hG (sc_19 hG) hh10) rfl rfl (rmm (by omega) hRf hRl (by decide)) (Nat.le_of_ble_eq_true rfl) (Nat.le_add_right _ _) (Nat.le_add_right _ _) ?_
          refine jpc (b := 81) rfl ?_
          obtain ⟨hg, hf⟩ := gd hf
          have hf := ltd hf
          refine j_iast hX (sh_32 hG) hg dX7_layOutPapers_81 ?_
          refine j_aload_n hX dX7_layOutPapers_82 rfl ?_
          refine j_dup hX dX7_layOutPapers_83 rfl ?_
          refine j_getI (k := 8) hX kX7 (by decide) fk_X7_88 dX7_layOutPapers_84 (sh_30 hG) rfl ?_
          refine j_aload_n hX dX7_layOutPapers_87 rfl ?_
          refine j_getR (k := 1) hX kX7 (by decide) fk_X7_30 (rf_30_1 hG) dX7_layOutPapers_88 (sh_30 hG) rfl ?_
          refine jpc (b := 91) rfl ?_
          refine j_aload_n hX dX7_layOutPapers_91 rfl ?_
          refine j_getR (k := 2) hX kX7 (by decide) fk_X7_34 (rf_30_2 hG) dX7_layOutPapers_92 (sh_30 hG) rfl ?_
          refine j_iload_n hX dX7_layOutPapers_95 rfl ?_
          obtain ⟨v12, hh13, hf⟩ := bd1 hf
          refine j_cV2i hX lk_X7_98 kX3 dX7_layOutPapers_96 (sh_23 hG) (okX3_takesCoffee hG (sc_19 hG) hh13) rfl rfl (rmm (by omega) hRf hRl (by decide)) (Nat.le_of_ble_eq_true rfl) (Nat.le_add_right _ _) (Nat.le_add_right _ _) ?_
          refine j_if_eq (tgt := 111) hX dX7_layOutPapers_99 (by decide) (fun hc => ?_) (fun hc => ?_)
          · have hf := ifp hc hf
            refine j_iconst hX dX7_layOutPapers_111 ic_0 ?_
            exact aJx (kX7_layOutPapers_112 hX hr hlk hRf hRl ih hG  hf) (And.intro rfl (And.intro rfl (And.intro rfl (rfl))))
          · have hf := ifn hc hf
            refine j_iconst hX dX7_layOutPapers_102 ic_1 ?_
            refine j_aload_n hX dX7_layOutPapers_103 rfl ?_
            refine j_getI (k := 7) hX kX7 (by decide) fk_X7_77 dX7_layOutPapers_104 (sh_30 hG) rfl ?_
            refine j_ishl hX dX7_layOutPapers_107 ?_
            refine j_goto (tgt := 112) hX dX7_layOutPapers_108 (by decide) ?_
            exact aJx (kX7_layOutPapers_112 hX hr hlk hRf hRl ih hG  hf) (And.intro rfl (And.intro rfl (And.intro rfl (rfl))))
def fX7_layOutPapers (a1 : Int32) (i : Nat → Nat → Int32) : Option ((Nat → Nat → Int32)) := lt (u2 i 30 7 0) fun i1 =>
    lt (u2 i1 30 8 0) fun i2 =>
    if aIn 0 128 = true then
    (lt (u2 i2 33 (0 : Int32).toNatClampNeg 0) fun i3 => fX7_layOutPapers_19 fuel a1 0 i3) else none
theorem kX7_layOutPapers  {iR : Nat → Nat → Int32} (hX : aX p s m args c RX7 cX7_layOutPapers 4 D cA A ad0) (hr : meth.sig.returnType = none) (hlk : meth.locks = false) (hRf : 4 ≤ R.frames) (hRl : 64 * 4 ≤ R.locals) {a1 : Int32} (hG : aGood sh rv) (hf : fX7_layOutPapers a1 i = some (iR)) : aJ p l e R s m args below meth c (MQ below (aPost D cA ad0 A (sh, i0, lo0, rv0) none (sh, iR, lo, rv)) args s (sh.length - sh.length) (aSn sh - aSn sh) A) D cA A ad0 4 sh.length (aSn sh) 0 [some (.ref (100 + 30)), some (.int a1), none, none] [] (sh, i, lo, rv) := by
  unfold fX7_layOutPapers at hf
  refine j_aload_n hX dX7_layOutPapers_0 rfl ?_
  refine j_iconst hX dX7_layOutPapers_1 ic_0 ?_
  have hf := ltd hf
  refine j_putI (k := 7) hX kX7 (by decide) fk_X7_77 dX7_layOutPapers_2 (sh_30 hG) rfl rfl rfl rfl ?_
  refine j_aload_n hX dX7_layOutPapers_5 rfl ?_
  refine j_iconst hX dX7_layOutPapers_6 ic_0 ?_
  refine jpc (b := 7) rfl ?_
  have hf := ltd hf
  refine j_putI (k := 8) hX kX7 (by decide) fk_X7_88 dX7_layOutPapers_7 (sh_30 hG) rfl rfl rfl rfl ?_
  refine j_aload_n hX dX7_layOutPapers_10 rfl ?_
  refine j_getR (k := 5) hX kX7 (by decide) fk_X7_20 (rf_30_5 hG) dX7_layOutPapers_11 (sh_30 hG) rfl ?_
  refine j_iconst hX dX7_layOutPapers_14 ic_0 ?_
  refine j_iconst hX dX7_layOutPapers_15 ic_0 ?_
  obtain ⟨hg, hf⟩ := gd hf
  have hf := ltd hf
  refine j_iast hX (sh_33 hG) hg dX7_layOutPapers_16 ?_
  refine j_iconst hX dX7_layOutPapers_17 ic_0 ?_
  refine j_istore_n hX dX7_layOutPapers_18 (by decide) rfl ?_
  exact aJx (kX7_layOutPapers_19 hX hr hlk hRf hRl fuel _ _ _ hG  hf) (And.intro rfl (And.intro rfl (And.intro rfl (rfl))))
theorem okX7_layOutPapers {l : Launch} {sh : List aSh} {i : Nat → Nat → Int32} {lo : Nat → Nat → Int64} {rv : Nat → Nat → Option Nat}  {a1 : Int32} {iR : Nat → Nat → Int32} (hG : aGood sh rv) (hf : fX7_layOutPapers a1 i = some (iR)) : aM l yX7_layOutPapers cX7_layOutPapers 4 none 4 [.ref (100 + 30), .int a1] (sh, i, lo, rv) none (sh, iR, lo, rv) :=
  aM_of (by decide) (Nat.le_of_ble_eq_true rfl) (Nat.le_refl _) (Nat.le_refl _) (fun p e s m args below meth c D cA A ad0 hX hr hlk hnm => kX7_layOutPapers hX hr hlk (Nat.le_refl _) (Nat.le_refl _) hG hf)
def fJ6_bitCount_0f7a4 (a0 : Int32) : Option ((Int32)) := lt (a0 - (((a0).toUInt32 >>> (((1 : Int32) : Int32).toUInt32 &&& Int32.toUInt32 31)).toInt32 &&& (1431655765 : Int32))) fun t1 =>
    lt ((t1 &&& (858993459 : Int32)) + (((t1).toUInt32 >>> (((2 : Int32) : Int32).toUInt32 &&& Int32.toUInt32 31)).toInt32 &&& (858993459 : Int32))) fun t2 =>
    lt ((t2 + ((t2).toUInt32 >>> (((4 : Int32) : Int32).toUInt32 &&& Int32.toUInt32 31)).toInt32) &&& (252645135 : Int32)) fun t3 =>
    lt (t3 + ((t3).toUInt32 >>> (((8 : Int32) : Int32).toUInt32 &&& Int32.toUInt32 31)).toInt32) fun t4 =>
    lt (t4 + ((t4).toUInt32 >>> (((16 : Int32) : Int32).toUInt32 &&& Int32.toUInt32 31)).toInt32) fun t5 =>
    some ((t5 &&& (63 : Int32)))
theorem kJ6_bitCount_0f7a4  {vR : Int32} (hX : aX p s m args c RJ6 cJ6_bitCount_0f7a4 1 D cA A ad0) (hr : meth.sig.returnType = (some .int)) (hlk : meth.locks = false) (hRf : 0 ≤ R.frames) (hRl : 64 * 0 ≤ R.locals) {a0 : Int32} (hG : aGood sh rv) (hf : fJ6_bitCount_0f7a4 a0 = some (vR)) : aJ p l e R s m args below meth c (MQ below (aPost D cA ad0 A (sh, i0, lo0, rv0) (some (.int vR)) (sh, i, lo, rv)) args s (sh.length - sh.length) (aSn sh - aSn sh) A) D cA A ad0 1 sh.length (aSn sh) 0 [some (.int a0)] [] (sh, i, lo, rv) := by
  unfold fJ6_bitCount_0f7a4 at hf
  refine j_iload_n hX dJ6_bitCount_0f7a4_0 rfl ?_
  refine j_iload_n hX dJ6_bitCount_0f7a4_1 rfl ?_
  refine j_iconst hX dJ6_bitCount_0f7a4_2 ic_1 ?_
  refine j_iushr hX dJ6_bitCount_0f7a4_3 ?_
  refine j_ldc_w hX kc_J6_265 dJ6_bitCount_0f7a4_4 ?_
  refine jpc (b := 7) rfl ?_
  refine j_iand hX dJ6_bitCount_0f7a4_7 ?_
  refine j_isub hX dJ6_bitCount_0f7a4_8 ?_
  have hf := ltd hf
  refine j_istore_n hX dJ6_bitCount_0f7a4_9 (by decide) rfl ?_
  refine j_iload_n hX dJ6_bitCount_0f7a4_10 rfl ?_
  refine j_ldc_w hX kc_J6_266 dJ6_bitCount_0f7a4_11 ?_
  refine j_iand hX dJ6_bitCount_0f7a4_14 ?_
  refine jpc (b := 15) rfl ?_
  refine j_iload_n hX dJ6_bitCount_0f7a4_15 rfl ?_
  refine j_iconst hX dJ6_bitCount_0f7a4_16 ic_2 ?_
  refine j_iushr hX dJ6_bitCount_0f7a4_17 ?_
  refine j_ldc_w hX kc_J6_266 dJ6_bitCount_0f7a4_18 ?_
  refine j_iand hX dJ6_bitCount_0f7a4_21 ?_
  refine j_iadd hX dJ6_bitCount_0f7a4_22 ?_
  refine jpc (b := 23) rfl ?_
  have hf := ltd hf
  refine j_istore_n hX dJ6_bitCount_0f7a4_23 (by decide) rfl ?_
  refine j_iload_n hX dJ6_bitCount_0f7a4_24 rfl ?_
  refine j_iload_n hX dJ6_bitCount_0f7a4_25 rfl ?_
  refine j_iconst hX dJ6_bitCount_0f7a4_26 ic_4 ?_
  refine j_iushr hX dJ6_bitCount_0f7a4_27 ?_
  refine j_iadd hX dJ6_bitCount_0f7a4_28 ?_
  refine jpc (b := 29) rfl ?_
  refine j_ldc_w hX kc_J6_267 dJ6_bitCount_0f7a4_29 ?_
  refine j_iand hX dJ6_bitCount_0f7a4_32 ?_
  have hf := ltd hf
  refine j_istore_n hX dJ6_bitCount_0f7a4_33 (by decide) rfl ?_
  refine j_iload_n hX dJ6_bitCount_0f7a4_34 rfl ?_
  refine j_iload_n hX dJ6_bitCount_0f7a4_35 rfl ?_
  refine j_bipush hX dJ6_bitCount_0f7a4_36 bp_8 ?_
  refine jpc (b := 38) rfl ?_
  refine j_iushr hX dJ6_bitCount_0f7a4_38 ?_
  refine j_iadd hX dJ6_bitCount_0f7a4_39 ?_
  have hf := ltd hf
  refine j_istore_n hX dJ6_bitCount_0f7a4_40 (by decide) rfl ?_
  refine j_iload_n hX dJ6_bitCount_0f7a4_41 rfl ?_
  refine j_iload_n hX dJ6_bitCount_0f7a4_42 rfl ?_
  refine j_bipush hX dJ6_bitCount_0f7a4_43 bp_16 ?_
  refine jpc (b := 45) rfl ?_
  refine j_iushr hX dJ6_bitCount_0f7a4_45 ?_
  refine j_iadd hX dJ6_bitCount_0f7a4_46 ?_
  have hf := ltd hf
  refine j_istore_n hX dJ6_bitCount_0f7a4_47 (by decide) rfl ?_
  refine j_iload_n hX dJ6_bitCount_0f7a4_48 rfl ?_
  refine j_bipush hX dJ6_bitCount_0f7a4_49 bp_63 ?_
  refine j_iand hX dJ6_bitCount_0f7a4_51 ?_
  refine jpc (b := 52) rfl ?_
  cases hf
  exact j_ret hX hr hlk rfl dJ6_bitCount_0f7a4_52
theorem okJ6_bitCount_0f7a4 {l : Launch} {sh : List aSh} {i : Nat → Nat → Int32} {lo : Nat → Nat → Int64} {rv : Nat → Nat → Option Nat}  {a0 : Int32} {vR : Int32} (hG : aGood sh rv) (hf : fJ6_bitCount_0f7a4 a0 = some (vR)) : aM l yJ6_bitCount_0f7a4 cJ6_bitCount_0f7a4 1 (some .int) 0 [.int a0] (sh, i, lo, rv) (some (.int vR)) (sh, i, lo, rv) :=
  aM_of (by decide) (Nat.le_of_ble_eq_true rfl) (Nat.le_refl _) (Nat.le_refl _) (fun p e s m args below meth c D cA A ad0 hX hr hlk hnm => kJ6_bitCount_0f7a4 hX hr hlk (Nat.le_refl _) (Nat.le_refl _) hG hf)
end DC
