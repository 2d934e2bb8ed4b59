/-! decompiled: X8_shiftPaper X3_movePaper X1_isLacking X8_putSaid X3_sayAnother X8_timesWoken X8_areBeside X3_snoresBeside X4_push X4_pop X4_joined X4_worth X3_lossOf X3_lossByHand X8_rouse X3_wakeByHand X8_layDown X8_sumFrom X8_asleepInAll X3_lieDown X8_exchange X3_swapBerths X8_inDrawer X1_looksAtFaces X3_wakes X3_turnAwake X3_turnOf X3_waitOf X3_takesCoffee X8_leaveCoffees X3_pass -/
section DC
variable {p : Program} {l : Launch} {e : Env} {R : Room} {s : State} {m : MethodId} {args : Array Value} {below : List Frame} {meth : Method} {c : Code} {D : va_G} {cA : FieldType → ClassId} {A : Nat → Prop} {ad0 : Nat → Nat} {sh : List aSh} {i i0 : Nat → Nat → Int32} {lo lo0 : Nat → Nat → Int64} {rv rv0 : Nat → Nat → Option Nat}
def fX8_shiftPaper_50 (p0 : Nat) : Nat → Int32 → Int32 → Int32 → (Nat → Nat → Int32) → Option ((Nat → Nat → Int32))
  | 0, _, _, _, _ => none
  | n + 1, x2, x3, x4, i => if x4 ≤ x2 then (if aIn ((9 : Int32) + x2) 56 = true then
    (lt (u2 i (p0 + 1) (((9 : Int32) + x2) : Int32).toNatClampNeg x3) fun i3 => some (i3)) else none) else (if aIn (((9 : Int32) + x4) - (1 : Int32)) 56 = true then
    (if aIn ((9 : Int32) + x4) 56 = true then
    (lt (u2 i (p0 + 1) (((9 : Int32) + x4) : Int32).toNatClampNeg (i (p0 + 1) ((((9 : Int32) + x4) - (1 : Int32)) : Int32).toNatClampNeg)) fun i4 => fX8_shiftPaper_50 p0 n x2 x3 (x4 + (-1)) i4) else none) else none)
theorem kX8_shiftPaper_50  {p0 : Nat} {iR : Nat → Nat → Int32} (hX : aX p s m args c RX8 cX8_shiftPaper 5 D cA A ad0) (hr : meth.sig.returnType = none) (hlk : meth.locks = false) (hRf : 0 ≤ R.frames) (hRl : 64 * 0 ≤ R.locals) (h0 : isScn sh rv p0) : ∀ (n : Nat) (x2 : Int32) (x3 : Int32) (x4 : Int32) (i : Nat → Nat → Int32), aGood sh rv → fX8_shiftPaper_50 p0 n x2 x3 x4 i = some (iR) → aJ p l e R s m args below meth c (MQ below (aPost D cA ad0 A (sh, i0, lo0, rv0) none (sh, iR, lo, rv)) args s (sh.length - sh.length) (aSn sh - aSn sh) A) D cA A ad0 5 sh.length (aSn sh) 50 [some (.ref (100 + p0)), none, some (.int x2), some (.int x3), some (.int x4)] [] (sh, i, lo, rv) := by
  intro n
  induction n with
  | zero => intros; rename_i hf; cases hf
  | succ n ih =>
    intro x2 x3 x4 i hG hf
    rw [fX8_shiftPaper_50] at hf
    refine j_iload hX dX8_shiftPaper_50 rfl ?_
    refine j_iload_n hX dX8_shiftPaper_52 rfl ?_
    refine j_icmp_le (tgt := 84) hX dX8_shiftPaper_53 (by decide) (fun hc => ?_) (fun hc => ?_)
    · have hf := ifp hc hf
      refine j_aload_n hX dX8_shiftPaper_84 rfl ?_
      refine j_getR (k := 0) hX kX8 (by decide) fk_X8_11 h0.2.2 dX8_shiftPaper_85 h0.1 rfl ?_
      refine j_bipush hX dX8_shiftPaper_88 bp_9 ?_
      refine j_iload_n hX dX8_shiftPaper_90 rfl ?_
      refine j_iadd hX dX8_shiftPaper_91 ?_
      refine jpc (b := 92) rfl ?_
      refine j_iload_n hX dX8_shiftPaper_92 rfl ?_
      obtain ⟨hg, hf⟩ := gd hf
      have hf := ltd hf
      refine j_iast hX h0.2.1 hg dX8_shiftPaper_93 ?_
      cases hf
      exact j_vret hX hr hlk dX8_shiftPaper_94
    · have hf := ifn hc hf
      refine j_aload_n hX dX8_shiftPaper_56 rfl ?_
      refine j_getR (k := 0) hX kX8 (by decide) fk_X8_11 h0.2.2 dX8_shiftPaper_57 h0.1 rfl ?_
      refine j_bipush hX dX8_shiftPaper_60 bp_9 ?_
      refine j_iload hX dX8_shiftPaper_62 rfl ?_
      refine j_iadd hX dX8_shiftPaper_64 ?_
      refine jpc (b := 65) rfl ?_
      refine j_aload_n hX dX8_shiftPaper_65 rfl ?_
      refine j_getR (k := 0) hX kX8 (by decide) fk_X8_11 h0.2.2 dX8_shiftPaper_66 h0.1 rfl ?_
      refine j_bipush hX dX8_shiftPaper_69 bp_9 ?_
      refine j_iload hX dX8_shiftPaper_71 rfl ?_
      refine j_iadd hX dX8_shiftPaper_73 ?_
      refine j_iconst hX dX8_shiftPaper_74 ic_1 ?_
      refine jpc (b := 75) rfl ?_
      refine j_isub hX dX8_shiftPaper_75 ?_
      obtain ⟨hg, hf⟩ := gd hf
      refine j_iald hX h0.2.1 hg dX8_shiftPaper_76 ?_
      obtain ⟨hg, hf⟩ := gd hf
      have hf := ltd hf
      refine j_iast hX h0.2.1 hg dX8_shiftPaper_77 ?_
      refine j_iinc hX dX8_shiftPaper_78 rfl (congrArg (_ + ·) ic_m1) (by decide) rfl ?_
      refine j_goto (tgt := 50) hX dX8_shiftPaper_81 (by decide) ?_
      exact aJx (ih _ _ _ _ hG  hf) (And.intro rfl (And.intro rfl (And.intro rfl (And.intro rfl (rfl)))))
def fX8_shiftPaper_13 (p0 : Nat) : Nat → Int32 → Int32 → Int32 → Int32 → (Nat → Nat → Int32) → Option ((Nat → Nat → Int32))
  | 0, _, _, _, _, _ => none
  | n + 1, x1, x2, x3, x4, i => if x2 ≤ x4 then (fX8_shiftPaper_50 p0 fuel x2 x3 x1 i) else (if aIn (((9 : Int32) + x4) + (1 : Int32)) 56 = true then
    (if aIn ((9 : Int32) + x4) 56 = true then
    (lt (u2 i (p0 + 1) (((9 : Int32) + x4) : Int32).toNatClampNeg (i (p0 + 1) ((((9 : Int32) + x4) + (1 : Int32)) : Int32).toNatClampNeg)) fun i2 => fX8_shiftPaper_13 p0 n x1 x2 x3 (x4 + 1) i2) else none) else none)
theorem kX8_shiftPaper_13  {p0 : Nat} {iR : Nat → Nat → Int32} (hX : aX p s m args c RX8 cX8_shiftPaper 5 D cA A ad0) (hr : meth.sig.returnType = none) (hlk : meth.locks = false) (hRf : 0 ≤ R.frames) (hRl : 64 * 0 ≤ R.locals) (h0 : isScn sh rv p0) : ∀ (n : Nat) (x1 : Int32) (x2 : Int32) (x3 : Int32) (x4 : Int32) (i : Nat → Nat → Int32), aGood sh rv → fX8_shiftPaper_13 p0 n x1 x2 x3 x4 i = some (iR) → aJ p l e R s m args below meth c (MQ below (aPost D cA ad0 A (sh, i0, lo0, rv0) none (sh, iR, lo, rv)) args s (sh.length - sh.length) (aSn sh - aSn sh) A) D cA A ad0 5 sh.length (aSn sh) 13 [some (.ref (100 + p0)), some (.int x1), some (.int x2), some (.int x3), some (.int x4)] [] (sh, i, lo, rv) := by
  intro n
  induction n with
  | zero => intros; rename_i hf; cases hf
  | succ n ih =>
    intro x1 x2 x3 x4 i hG hf
    rw [fX8_shiftPaper_13] at hf
    refine j_iload hX dX8_shiftPaper_13 rfl ?_
    refine j_iload_n hX dX8_shiftPaper_15 rfl ?_
    refine j_icmp_ge (tgt := 47) hX dX8_shiftPaper_16 (by decide) (fun hc => ?_) (fun hc => ?_)
    · have hf := ifp hc hf
      refine j_iload_n hX dX8_shiftPaper_47 rfl ?_
      refine j_istore hX dX8_shiftPaper_48 (by decide) rfl ?_
      exact aJx (kX8_shiftPaper_50 hX hr hlk hRf hRl h0 fuel _ _ _ _ hG  hf) (And.intro rfl (And.intro rfl (And.intro rfl (And.intro rfl (rfl)))))
    · have hf := ifn hc hf
      refine j_aload_n hX dX8_shiftPaper_19 rfl ?_
      refine j_getR (k := 0) hX kX8 (by decide) fk_X8_11 h0.2.2 dX8_shiftPaper_20 h0.1 rfl ?_
      refine j_bipush hX dX8_shiftPaper_23 bp_9 ?_
      refine j_iload hX dX8_shiftPaper_25 rfl ?_
      refine j_iadd hX dX8_shiftPaper_27 ?_
      refine jpc (b := 28) rfl ?_
      refine j_aload_n hX dX8_shiftPaper_28 rfl ?_
      refine j_getR (k := 0) hX kX8 (by decide) fk_X8_11 h0.2.2 dX8_shiftPaper_29 h0.1 rfl ?_
      refine j_bipush hX dX8_shiftPaper_32 bp_9 ?_
      refine j_iload hX dX8_shiftPaper_34 rfl ?_
      refine j_iadd hX dX8_shiftPaper_36 ?_
      refine j_iconst hX dX8_shiftPaper_37 ic_1 ?_
      refine jpc (b := 38) rfl ?_
      refine j_iadd hX dX8_shiftPaper_38 ?_
      obtain ⟨hg, hf⟩ := gd hf
      refine j_iald hX h0.2.1 hg dX8_shiftPaper_39 ?_
      obtain ⟨hg, hf⟩ := gd hf
      have hf := ltd hf
      refine j_iast hX h0.2.1 hg dX8_shiftPaper_40 ?_
      refine j_iinc hX dX8_shiftPaper_41 rfl (congrArg (_ + ·) ic_1) (by decide) rfl ?_
      refine j_goto (tgt := 13) hX dX8_shiftPaper_44 (by decide) ?_
      exact aJx (ih _ _ _ _ _ hG  hf) (And.intro rfl (And.intro rfl (And.intro rfl (And.intro rfl (And.intro rfl (rfl))))))
def fX8_shiftPaper (p0 : Nat) (a1 : Int32) (a2 : Int32) (i : Nat → Nat → Int32) : Option ((Nat → Nat → Int32)) := if aIn ((9 : Int32) + a1) 56 = true then
    (lt (i (p0 + 1) (((9 : Int32) + a1) : Int32).toNatClampNeg) fun t1 =>
    fX8_shiftPaper_13 p0 fuel a1 a2 t1 a1 i) else none
theorem kX8_shiftPaper  {p0 : Nat} {iR : Nat → Nat → Int32} (hX : aX p s m args c RX8 cX8_shiftPaper 5 D cA A ad0) (hr : meth.sig.returnType = none) (hlk : meth.locks = false) (hRf : 0 ≤ R.frames) (hRl : 64 * 0 ≤ R.locals) (h0 : isScn sh rv p0) {a1 : Int32} {a2 : Int32} (hG : aGood sh rv) (hf : fX8_shiftPaper p0 a1 a2 i = some (iR)) : aJ p l e R s m args below meth c (MQ below (aPost D cA ad0 A (sh, i0, lo0, rv0) none (sh, iR, lo, rv)) args s (sh.length - sh.length) (aSn sh - aSn sh) A) D cA A ad0 5 sh.length (aSn sh) 0 [some (.ref (100 + p0)), some (.int a1), some (.int a2), none, none] [] (sh, i, lo, rv) := by
  unfold fX8_shiftPaper at hf
  refine j_aload_n hX dX8_shiftPaper_0 rfl ?_
  refine j_getR (k := 0) hX kX8 (by decide) fk_X8_11 h0.2.2 dX8_shiftPaper_1 h0.1 rfl ?_
  refine j_bipush hX dX8_shiftPaper_4 bp_9 ?_
  refine j_iload_n hX dX8_shiftPaper_6 rfl ?_
  refine j_iadd hX dX8_shiftPaper_7 ?_
  refine jpc (b := 8) rfl ?_
  obtain ⟨hg, hf⟩ := gd hf
  refine j_iald hX h0.2.1 hg dX8_shiftPaper_8 ?_
  have hf := ltd hf
  refine j_istore_n hX dX8_shiftPaper_9 (by decide) rfl ?_
  refine j_iload_n hX dX8_shiftPaper_10 rfl ?_
  refine j_istore hX dX8_shiftPaper_11 (by decide) rfl ?_
  exact aJx (kX8_shiftPaper_13 hX hr hlk hRf hRl h0 fuel _ _ _ _ _ hG  hf) (And.intro rfl (And.intro rfl (And.intro rfl (And.intro rfl (And.intro rfl (rfl))))))
theorem okX8_shiftPaper {l : Launch} {sh : List aSh} {i : Nat → Nat → Int32} {lo : Nat → Nat → Int64} {rv : Nat → Nat → Option Nat}  {p0 : Nat} {a1 : Int32} {a2 : Int32} {iR : Nat → Nat → Int32} (hG : aGood sh rv) (h0 : isScn sh rv p0) (hf : fX8_shiftPaper p0 a1 a2 i = some (iR)) : aM l yX8_shiftPaper cX8_shiftPaper 5 none 0 [.ref (100 + p0), .int a1, .int a2] (sh, i, lo, rv) none (sh, iR, lo, rv) :=
  aM_of (by decide) (Nat.le_of_ble_eq_true rfl) (Nat.le_refl _) (Nat.le_refl _) (fun p e s m args below meth c D cA A ad0 hX hr hlk hnm => kX8_shiftPaper hX hr hlk (Nat.le_refl _) (Nat.le_refl _) h0 hG hf)
def fX3_movePaper (p1 : Nat) (a2 : Int32) (a3 : Int32) (i : Nat → Nat → Int32) : Option ((Int32) × (Nat → Nat → Int32)) := bn1 (fX1_hasPaper 15 a2 i) fun v1 =>
    if v1 = 0 then (some ((-1), i)) else (if a3 < 0 then (some ((-1), i)) else (bn1 (fX1_papers 15 i) fun v3 =>
    if a3 < v3 then (bn1 (fX1_papers 15 i) fun v5 =>
    bn1 (fX8_placeOf p1 a2 v5 i) fun v7 =>
    if v7 = (-1) then (some ((-1), i)) else (if v7 = a3 then (some ((-1), i)) else (bn1 (fX8_shiftPaper p1 v7 a3 i) fun i9 =>
    some (v7, i9)))) else (some ((-1), i))))
theorem kX3_movePaper  {p1 : Nat} {vR : Int32} {iR : Nat → Nat → Int32} (hX : aX p s m args c RX3 cX3_movePaper 5 D cA A ad0) (hr : meth.sig.returnType = (some .int)) (hlk : meth.locks = false) (hRf : 2 ≤ R.frames) (hRl : 64 * 2 ≤ R.locals) (h1 : isScn sh rv p1) {a2 : Int32} {a3 : Int32} (hG : aGood sh rv) (hf : fX3_movePaper p1 a2 a3 i = some (vR, iR)) : aJ p l e R s m args below meth c (MQ below (aPost D cA ad0 A (sh, i0, lo0, rv0) (some (.int vR)) (sh, iR, lo, rv)) args s (sh.length - sh.length) (aSn sh - aSn sh) A) D cA A ad0 5 sh.length (aSn sh) 0 [some (.ref (100 + 23)), some (.ref (100 + p1)), some (.int a2), some (.int a3), none] [] (sh, i, lo, rv) := by
  unfold fX3_movePaper at hf
  refine j_aload_n hX dX3_movePaper_0 rfl ?_
  refine j_getR (k := 0) hX kX3 (by decide) fk_X3_17 (rf_23_0 hG) dX3_movePaper_1 (sh_23 hG) rfl ?_
  refine j_iload_n hX dX3_movePaper_4 rfl ?_
  obtain ⟨v1, hh2, hf⟩ := bd1 hf
  refine j_cV1i hX lk_X3_152 kX1 dX3_movePaper_5 (sh_15 hG) (okX1_hasPaper hG (cr_15 hG) hh2) rfl rfl (rmm (by omega) hRf hRl (by decide)) (Nat.le_of_ble_eq_true rfl) (Nat.le_add_right _ _) (Nat.le_add_right _ _) ?_
  refine j_if_eq (tgt := 26) hX dX3_movePaper_8 (by decide) (fun hc => ?_) (fun hc => ?_)
  · have hf := ifp hc hf
    refine j_iconst hX dX3_movePaper_26 ic_m1 ?_
    cases hf
    exact j_ret hX hr hlk rfl dX3_movePaper_27
  · have hf := ifn hc hf
    refine j_iload_n hX dX3_movePaper_11 rfl ?_
    refine j_if_lt (tgt := 26) hX dX3_movePaper_12 (by decide) (fun hc => ?_) (fun hc => ?_)
    · have hf := ifp hc hf
      refine j_iconst hX dX3_movePaper_26 ic_m1 ?_
      cases hf
      exact j_ret hX hr hlk rfl dX3_movePaper_27
    · have hf := ifn hc hf
      refine j_iload_n hX dX3_movePaper_15 rfl ?_
      refine j_aload_n hX dX3_movePaper_16 rfl ?_
      refine j_getR (k := 0) hX kX3 (by decide) fk_X3_17 (rf_23_0 hG) dX3_movePaper_17 (sh_23 hG) rfl ?_
      obtain ⟨v3, hh4, hf⟩ := bd1 hf
      refine j_cV0i hX lk_X3_36 kX1 dX3_movePaper_20 (sh_15 hG) (okX1_papers hG (cr_15 hG) hh4) rfl rfl (rmm (by omega) hRf hRl (by decide)) (Nat.le_of_ble_eq_true rfl) (Nat.le_add_right _ _) (Nat.le_add_right _ _) ?_
      refine j_icmp_lt (tgt := 28) hX dX3_movePaper_23 (by decide) (fun hc => ?_) (fun hc => ?_)
      · have hf := ifp hc hf
        refine j_aload_n hX dX3_movePaper_28 rfl ?_
        refine j_iload_n hX dX3_movePaper_29 rfl ?_
        refine j_aload_n hX dX3_movePaper_30 rfl ?_
        refine j_getR (k := 0) hX kX3 (by decide) fk_X3_17 (rf_23_0 hG) dX3_movePaper_31 (sh_23 hG) rfl ?_
        obtain ⟨v5, hh6, hf⟩ := bd1 hf
        refine j_cV0i hX lk_X3_36 kX1 dX3_movePaper_34 (sh_15 hG) (okX1_papers hG (cr_15 hG) hh6) rfl rfl (rmm (by omega) hRf hRl (by decide)) (Nat.le_of_ble_eq_true rfl) (Nat.le_add_right _ _) (Nat.le_add_right _ _) ?_
        refine jpc (b := 37) rfl ?_
        obtain ⟨v7, hh8, hf⟩ := bd1 hf
        refine j_cV2i hX lk_X3_155 kX8 dX3_movePaper_37 h1.1 (okX8_placeOf hG h1 hh8) rfl rfl (rmm (by omega) hRf hRl (by decide)) (Nat.le_of_ble_eq_true rfl) (Nat.le_add_right _ _) (Nat.le_add_right _ _) ?_
        refine j_istore hX dX3_movePaper_40 (by decide) rfl ?_
        refine j_iload hX dX3_movePaper_42 rfl ?_
        refine j_iconst hX dX3_movePaper_44 ic_m1 ?_
        refine j_icmp_eq (tgt := 54) hX dX3_movePaper_45 (by decide) (fun hc => ?_) (fun hc => ?_)
        · have hf := ifp hc hf
          refine j_iconst hX dX3_movePaper_54 ic_m1 ?_
          cases hf
          exact j_ret hX hr hlk rfl dX3_movePaper_55
        · have hf := ifn hc hf
          refine j_iload hX dX3_movePaper_48 rfl ?_
          refine j_iload_n hX dX3_movePaper_50 rfl ?_
          refine j_icmp_ne (tgt := 56) hX dX3_movePaper_51 (by decide) (fun hc => ?_) (fun hc => ?_)
          · have hf := ifn hc hf
            refine j_aload_n hX dX3_movePaper_56 rfl ?_
            refine j_iload hX dX3_movePaper_57 rfl ?_
            refine j_iload_n hX dX3_movePaper_59 rfl ?_
            obtain ⟨i9, hh10, hf⟩ := bd1 hf
            refine j_cV2v hX lk_X3_158 kX8 dX3_movePaper_60 h1.1 (okX8_shiftPaper hG h1 hh10) rfl rfl (rmm (by omega) hRf hRl (by decide)) (Nat.le_of_ble_eq_true rfl) (Nat.le_add_right _ _) (Nat.le_add_right _ _) ?_
            refine j_iload hX dX3_movePaper_63 rfl ?_
            refine jpc (b := 65) rfl ?_
            cases hf
            exact j_ret hX hr hlk rfl dX3_movePaper_65
          · have hf := ifp hc hf
            refine j_iconst hX dX3_movePaper_54 ic_m1 ?_
            cases hf
            exact j_ret hX hr hlk rfl dX3_movePaper_55
      · have hf := ifn hc hf
        refine j_iconst hX dX3_movePaper_26 ic_m1 ?_
        cases hf
        exact j_ret hX hr hlk rfl dX3_movePaper_27
theorem okX3_movePaper {l : Launch} {sh : List aSh} {i : Nat → Nat → Int32} {lo : Nat → Nat → Int64} {rv : Nat → Nat → Option Nat}  {p1 : Nat} {a2 : Int32} {a3 : Int32} {vR : Int32} {iR : Nat → Nat → Int32} (hG : aGood sh rv) (h1 : isScn sh rv p1) (hf : fX3_movePaper p1 a2 a3 i = some (vR, iR)) : aM l yX3_movePaper cX3_movePaper 5 (some .int) 2 [.ref (100 + 23), .ref (100 + p1), .int a2, .int a3] (sh, i, lo, rv) (some (.int vR)) (sh, iR, lo, rv) :=
  aM_of (by decide) (Nat.le_of_ble_eq_true rfl) (Nat.le_refl _) (Nat.le_refl _) (fun p e s m args below meth c D cA A ad0 hX hr hlk hnm => kX3_movePaper hX hr hlk (Nat.le_refl _) (Nat.le_refl _) h1 hG hf)
def fX1_isLacking (p0 : Nat) (a1 : Int32) (i : Nat → Nat → Int32) : Option ((Int32)) := bn1 (fX1_hasPaper p0 a1 i) fun v1 =>
    if v1 = 0 then (some (0)) else (bn1 (fX1_ofSleeper p0 a1 1 i) fun v3 =>
    if v3 ≤ 0 then (some (0)) else (some (1)))
theorem kX1_isLacking  {p0 : Nat} {vR : Int32} (hX : aX p s m args c RX1 cX1_isLacking 2 D cA A ad0) (hr : meth.sig.returnType = (some .boolean)) (hlk : meth.locks = false) (hRf : 2 ≤ R.frames) (hRl : 64 * 2 ≤ R.locals) (h0 : isCar sh rv p0) {a1 : Int32} (hG : aGood sh rv) (hf : fX1_isLacking p0 a1 i = some (vR)) : aJ p l e R s m args below meth c (MQ below (aPost D cA ad0 A (sh, i0, lo0, rv0) (some (.int vR)) (sh, i, lo, rv)) args s (sh.length - sh.length) (aSn sh - aSn sh) A) D cA A ad0 2 sh.length (aSn sh) 0 [some (.ref (100 + p0)), some (.int a1)] [] (sh, i, lo, rv) := by
  unfold fX1_isLacking at hf
  refine j_aload_n hX dX1_isLacking_0 rfl ?_
  refine j_iload_n hX dX1_isLacking_1 rfl ?_
  obtain ⟨v1, hh2, hf⟩ := bd1 hf
  refine j_cV1i hX lk_X1_39 kX1 dX1_isLacking_2 h0.1 (okX1_hasPaper hG h0 hh2) rfl rfl (rmm (by omega) hRf hRl (by decide)) (Nat.le_of_ble_eq_true rfl) (Nat.le_add_right _ _) (Nat.le_add_right _ _) ?_
  refine j_if_eq (tgt := 21) hX dX1_isLacking_5 (by decide) (fun hc => ?_) (fun hc => ?_)
  · have hf := ifp hc hf
    refine j_iconst hX dX1_isLacking_21 ic_0 ?_
    cases hf
    exact j_ret hX hr hlk rfl dX1_isLacking_22
  · have hf := ifn hc hf
    refine j_aload_n hX dX1_isLacking_8 rfl ?_
    refine j_iload_n hX dX1_isLacking_9 rfl ?_
    refine j_iconst hX dX1_isLacking_10 ic_1 ?_
    obtain ⟨v3, hh4, hf⟩ := bd1 hf
    refine j_cV2i hX lk_X1_35 kX1 dX1_isLacking_11 h0.1 (okX1_ofSleeper hG h0 hh4) rfl rfl (rmm (by omega) hRf hRl (by decide)) (Nat.le_of_ble_eq_true rfl) (Nat.le_add_right _ _) (Nat.le_add_right _ _) ?_
    refine j_if_le (tgt := 21) hX dX1_isLacking_14 (by decide) (fun hc => ?_) (fun hc => ?_)
    · have hf := ifp hc hf
      refine j_iconst hX dX1_isLacking_21 ic_0 ?_
      cases hf
      exact j_ret hX hr hlk rfl dX1_isLacking_22
    · have hf := ifn hc hf
      refine j_iconst hX dX1_isLacking_17 ic_1 ?_
      refine j_goto (tgt := 22) hX dX1_isLacking_18 (by decide) ?_
      cases hf
      exact j_ret hX hr hlk rfl dX1_isLacking_22
theorem okX1_isLacking {l : Launch} {sh : List aSh} {i : Nat → Nat → Int32} {lo : Nat → Nat → Int64} {rv : Nat → Nat → Option Nat}  {p0 : Nat} {a1 : Int32} {vR : Int32} (hG : aGood sh rv) (h0 : isCar sh rv p0) (hf : fX1_isLacking p0 a1 i = some (vR)) : aM l yX1_isLacking cX1_isLacking 2 (some .boolean) 2 [.ref (100 + p0), .int a1] (sh, i, lo, rv) (some (.int vR)) (sh, i, lo, rv) :=
  aM_of (by decide) (Nat.le_of_ble_eq_true rfl) (Nat.le_refl _) (Nat.le_refl _) (fun p e s m args below meth c D cA A ad0 hX hr hlk hnm => kX1_isLacking hX hr hlk (Nat.le_refl _) (Nat.le_refl _) h0 hG hf)
def fX8_putSaid (p0 : Nat) (a1 : Int32) (a2 : Int32) (i : Nat → Nat → Int32) : Option ((Nat → Nat → Int32)) := if aIn ((18 : Int32) + a1) 56 = true then
    (lt (u2 i (p0 + 1) (((18 : Int32) + a1) : Int32).toNatClampNeg a2) fun i1 => some (i1)) else none
theorem kX8_putSaid  {p0 : Nat} {iR : Nat → Nat → Int32} (hX : aX p s m args c RX8 cX8_putSaid 3 D cA A ad0) (hr : meth.sig.returnType = none) (hlk : meth.locks = false) (hRf : 0 ≤ R.frames) (hRl : 64 * 0 ≤ R.locals) (h0 : isScn sh rv p0) {a1 : Int32} {a2 : Int32} (hG : aGood sh rv) (hf : fX8_putSaid p0 a1 a2 i = some (iR)) : aJ p l e R s m args below meth c (MQ below (aPost D cA ad0 A (sh, i0, lo0, rv0) none (sh, iR, lo, rv)) args s (sh.length - sh.length) (aSn sh - aSn sh) A) D cA A ad0 3 sh.length (aSn sh) 0 [some (.ref (100 + p0)), some (.int a1), some (.int a2)] [] (sh, i, lo, rv) := by
  unfold fX8_putSaid at hf
  refine j_aload_n hX dX8_putSaid_0 rfl ?_
  refine j_getR (k := 0) hX kX8 (by decide) fk_X8_11 h0.2.2 dX8_putSaid_1 h0.1 rfl ?_
  refine j_bipush hX dX8_putSaid_4 bp_18 ?_
  refine j_iload_n hX dX8_putSaid_6 rfl ?_
  refine j_iadd hX dX8_putSaid_7 ?_
  refine jpc (b := 8) rfl ?_
  refine j_iload_n hX dX8_putSaid_8 rfl ?_
  obtain ⟨hg, hf⟩ := gd hf
  have hf := ltd hf
  refine j_iast hX h0.2.1 hg dX8_putSaid_9 ?_
  cases hf
  exact j_vret hX hr hlk dX8_putSaid_10
theorem okX8_putSaid {l : Launch} {sh : List aSh} {i : Nat → Nat → Int32} {lo : Nat → Nat → Int64} {rv : Nat → Nat → Option Nat}  {p0 : Nat} {a1 : Int32} {a2 : Int32} {iR : Nat → Nat → Int32} (hG : aGood sh rv) (h0 : isScn sh rv p0) (hf : fX8_putSaid p0 a1 a2 i = some (iR)) : aM l yX8_putSaid cX8_putSaid 3 none 0 [.ref (100 + p0), .int a1, .int a2] (sh, i, lo, rv) none (sh, iR, lo, rv) :=
  aM_of (by decide) (Nat.le_of_ble_eq_true rfl) (Nat.le_refl _) (Nat.le_refl _) (fun p e s m args below meth c D cA A ad0 hX hr hlk hnm => kX8_putSaid hX hr hlk (Nat.le_refl _) (Nat.le_refl _) h0 hG hf)
def fX3_sayAnother (p1 : Nat) (a2 : Int32) (a3 : Int32) (i : Nat → Nat → Int32) : Option ((Int32) × (Nat → Nat → Int32)) := bn1 (fX1_isLacking 15 a2 i) fun v1 =>
    if v1 = 0 then (some ((-1), i)) else (if a3 < 0 then (some ((-1), i)) else (if 2 < a3 then (some ((-1), i)) else (bn1 (fX8_saidFor p1 a2 i) fun v3 =>
    if v3 = a3 then (some ((-1), i)) else (bn1 (fX8_saidFor p1 a2 i) fun v5 =>
    bn1 (fX8_putSaid p1 a2 a3 i) fun i7 =>
    some (v5, i7)))))
theorem kX3_sayAnother  {p1 : Nat} {vR : Int32} {iR : Nat → Nat → Int32} (hX : aX p s m args c RX3 cX3_sayAnother 5 D cA A ad0) (hr : meth.sig.returnType = (some .int)) (hlk : meth.locks = false) (hRf : 3 ≤ R.frames) (hRl : 64 * 3 ≤ R.locals) (h1 : isScn sh rv p1) {a2 : Int32} {a3 : Int32} (hG : aGood sh rv) (hf : fX3_sayAnother p1 a2 a3 i = some (vR, iR)) : aJ p l e R s m args below meth c (MQ below (aPost D cA ad0 A (sh, i0, lo0, rv0) (some (.int vR)) (sh, iR, lo, rv)) args s (sh.length - sh.length) (aSn sh - aSn sh) A) D cA A ad0 5 sh.length (aSn sh) 0 [some (.ref (100 + 23)), some (.ref (100 + p1)), some (.int a2), some (.int a3), none] [] (sh, i, lo, rv) := by
  unfold fX3_sayAnother at hf
  refine j_aload_n hX dX3_sayAnother_0 rfl ?_
  refine j_getR (k := 0) hX kX3 (by decide) fk_X3_17 (rf_23_0 hG) dX3_sayAnother_1 (sh_23 hG) rfl ?_
  refine j_iload_n hX dX3_sayAnother_4 rfl ?_
  obtain ⟨v1, hh2, hf⟩ := bd1 hf
  refine j_cV1i hX lk_X3_123 kX1 dX3_sayAnother_5 (sh_15 hG) (okX1_isLacking hG (cr_15 hG) hh2) rfl rfl (rmm (by omega) hRf hRl (by decide)) (Nat.le_of_ble_eq_true rfl) (Nat.le_add_right _ _) (Nat.le_add_right _ _) ?_
  refine j_if_eq (tgt := 29) hX dX3_sayAnother_8 (by decide) (fun hc => ?_) (fun hc => ?_)
  · have hf := ifp hc hf
    refine j_iconst hX dX3_sayAnother_29 ic_m1 ?_
    cases hf
    exact j_ret hX hr hlk rfl dX3_sayAnother_30
  · have hf := ifn hc hf
    refine j_iload_n hX dX3_sayAnother_11 rfl ?_
    refine j_if_lt (tgt := 29) hX dX3_sayAnother_12 (by decide) (fun hc => ?_) (fun hc => ?_)
    · have hf := ifp hc hf
      refine j_iconst hX dX3_sayAnother_29 ic_m1 ?_
      cases hf
      exact j_ret hX hr hlk rfl dX3_sayAnother_30
    · have hf := ifn hc hf
      refine j_iload_n hX dX3_sayAnother_15 rfl ?_
      refine j_iconst hX dX3_sayAnother_16 ic_2 ?_
      refine j_icmp_gt (tgt := 29) hX dX3_sayAnother_17 (by decide) (fun hc => ?_) (fun hc => ?_)
      · have hf := ifp hc hf
        refine j_iconst hX dX3_sayAnother_29 ic_m1 ?_
        cases hf
        exact j_ret hX hr hlk rfl dX3_sayAnother_30
      · have hf := ifn hc hf
        refine j_aload_n hX dX3_sayAnother_20 rfl ?_
        refine j_iload_n hX dX3_sayAnother_21 rfl ?_
        obtain ⟨v3, hh4, hf⟩ := bd1 hf
        refine j_cV1i hX lk_X3_101 kX8 dX3_sayAnother_22 h1.1 (okX8_saidFor hG h1 hh4) rfl rfl (rmm (by omega) hRf hRl (by decide)) (Nat.le_of_ble_eq_true rfl) (Nat.le_add_right _ _) (Nat.le_add_right _ _) ?_
        refine j_iload_n hX dX3_sayAnother_25 rfl ?_
        refine j_icmp_ne (tgt := 31) hX dX3_sayAnother_26 (by decide) (fun hc => ?_) (fun hc => ?_)
        · have hf := ifn hc hf
          refine j_aload_n hX dX3_sayAnother_31 rfl ?_
          refine j_iload_n hX dX3_sayAnother_32 rfl ?_
          obtain ⟨v5, hh6, hf⟩ := bd1 hf
          refine j_cV1i hX lk_X3_101 kX8 dX3_sayAnother_33 h1.1 (okX8_saidFor hG h1 hh6) rfl rfl (rmm (by omega) hRf hRl (by decide)) (Nat.le_of_ble_eq_true rfl) (Nat.le_add_right _ _) (Nat.le_add_right _ _) ?_
          refine j_istore hX dX3_sayAnother_36 (by decide) rfl ?_
          refine j_aload_n hX dX3_sayAnother_38 rfl ?_
          refine jpc (b := 39) rfl ?_
          refine j_iload_n hX dX3_sayAnother_39 rfl ?_
          refine j_iload_n hX dX3_sayAnother_40 rfl ?_
          obtain ⟨i7, hh8, hf⟩ := bd1 hf
          refine j_cV2v hX lk_X3_161 kX8 dX3_sayAnother_41 h1.1 (okX8_putSaid hG h1 hh8) rfl rfl (rmm (by omega) hRf hRl (by decide)) (Nat.le_of_ble_eq_true rfl) (Nat.le_add_right _ _) (Nat.le_add_right _ _) ?_
          refine j_iload hX dX3_sayAnother_44 rfl ?_
          cases hf
          exact j_ret hX hr hlk rfl dX3_sayAnother_46
        · have hf := ifp hc hf
          refine j_iconst hX dX3_sayAnother_29 ic_m1 ?_
          cases hf
          exact j_ret hX hr hlk rfl dX3_sayAnother_30
theorem okX3_sayAnother {l : Launch} {sh : List aSh} {i : Nat → Nat → Int32} {lo : Nat → Nat → Int64} {rv : Nat → Nat → Option Nat}  {p1 : Nat} {a2 : Int32} {a3 : Int32} {vR : Int32} {iR : Nat → Nat → Int32} (hG : aGood sh rv) (h1 : isScn sh rv p1) (hf : fX3_sayAnother p1 a2 a3 i = some (vR, iR)) : aM l yX3_sayAnother cX3_sayAnother 5 (some .int) 3 [.ref (100 + 23), .ref (100 + p1), .int a2, .int a3] (sh, i, lo, rv) (some (.int vR)) (sh, iR, lo, rv) :=
  aM_of (by decide) (Nat.le_of_ble_eq_true rfl) (Nat.le_refl _) (Nat.le_refl _) (fun p e s m args below meth c D cA A ad0 hX hr hlk hnm => kX3_sayAnother hX hr hlk (Nat.le_refl _) (Nat.le_refl _) h1 hG hf)
def fX8_timesWoken (p0 : Nat) (a1 : Int32) (i : Nat → Nat → Int32) : Option ((Int32)) := if aIn ((36 : Int32) + a1) 56 = true then
    (some ((i (p0 + 1) (((36 : Int32) + a1) : Int32).toNatClampNeg))) else none
theorem kX8_timesWoken  {p0 : Nat} {vR : Int32} (hX : aX p s m args c RX8 cX8_timesWoken 2 D cA A ad0) (hr : meth.sig.returnType = (some .int)) (hlk : meth.locks = false) (hRf : 0 ≤ R.frames) (hRl : 64 * 0 ≤ R.locals) (h0 : isScn sh rv p0) {a1 : Int32} (hG : aGood sh rv) (hf : fX8_timesWoken p0 a1 i = some (vR)) : aJ p l e R s m args below meth c (MQ below (aPost D cA ad0 A (sh, i0, lo0, rv0) (some (.int vR)) (sh, i, lo, rv)) args s (sh.length - sh.length) (aSn sh - aSn sh) A) D cA A ad0 2 sh.length (aSn sh) 0 [some (.ref (100 + p0)), some (.int a1)] [] (sh, i, lo, rv) := by
  unfold fX8_timesWoken at hf
  refine j_aload_n hX dX8_timesWoken_0 rfl ?_
  refine j_getR (k := 0) hX kX8 (by decide) fk_X8_11 h0.2.2 dX8_timesWoken_1 h0.1 rfl ?_
  refine j_bipush hX dX8_timesWoken_4 bp_36 ?_
  refine j_iload_n hX dX8_timesWoken_6 rfl ?_
  refine j_iadd hX dX8_timesWoken_7 ?_
  refine jpc (b := 8) rfl ?_
  obtain ⟨hg, hf⟩ := gd hf
  refine j_iald hX h0.2.1 hg dX8_timesWoken_8 ?_
  cases hf
  exact j_ret hX hr hlk rfl dX8_timesWoken_9
theorem okX8_timesWoken {l : Launch} {sh : List aSh} {i : Nat → Nat → Int32} {lo : Nat → Nat → Int64} {rv : Nat → Nat → Option Nat}  {p0 : Nat} {a1 : Int32} {vR : Int32} (hG : aGood sh rv) (h0 : isScn sh rv p0) (hf : fX8_timesWoken p0 a1 i = some (vR)) : aM l yX8_timesWoken cX8_timesWoken 2 (some .int) 0 [.ref (100 + p0), .int a1] (sh, i, lo, rv) (some (.int vR)) (sh, i, lo, rv) :=
  aM_of (by decide) (Nat.le_of_ble_eq_true rfl) (Nat.le_refl _) (Nat.le_refl _) (fun p e s m args below meth c D cA A ad0 hX hr hlk hnm => kX8_timesWoken hX hr hlk (Nat.le_refl _) (Nat.le_refl _) h0 hG hf)
def fX8_areBeside (p0 : Nat) (a1 : Int32) (a2 : Int32) (i : Nat → Nat → Int32) : Option ((Int32)) := if aIn ((0 : Int32) + a1) 56 = true then
    (if aIn ((0 : Int32) + a2) 56 = true then
    (if (if 0 ≤ ((i (p0 + 1) (((0 : Int32) + a1) : Int32).toNatClampNeg) - (i (p0 + 1) (((0 : Int32) + a2) : Int32).toNatClampNeg)) then ((i (p0 + 1) (((0 : Int32) + a1) : Int32).toNatClampNeg) - (i (p0 + 1) (((0 : Int32) + a2) : Int32).toNatClampNeg)) else 0 - ((i (p0 + 1) (((0 : Int32) + a1) : Int32).toNatClampNeg) - (i (p0 + 1) (((0 : Int32) + a2) : Int32).toNatClampNeg))) = 1 then (some (1)) else (some (0))) else none) else none
theorem kX8_areBeside  {p0 : Nat} {vR : Int32} (hX : aX p s m args c RX8 cX8_areBeside 3 D cA A ad0) (hr : meth.sig.returnType = (some .boolean)) (hlk : meth.locks = false) (hRf : 1 ≤ R.frames) (hRl : 64 * 1 ≤ R.locals) (h0 : isScn sh rv p0) {a1 : Int32} {a2 : Int32} (hG : aGood sh rv) (hf : fX8_areBeside p0 a1 a2 i = some (vR)) : aJ p l e R s m args below meth c (MQ below (aPost D cA ad0 A (sh, i0, lo0, rv0) (some (.int vR)) (sh, i, lo, rv)) args s (sh.length - sh.length) (aSn sh - aSn sh) A) D cA A ad0 3 sh.length (aSn sh) 0 [some (.ref (100 + p0)), some (.int a1), some (.int a2)] [] (sh, i, lo, rv) := by
  unfold fX8_areBeside at hf
  refine j_aload_n hX dX8_areBeside_0 rfl ?_
  refine j_getR (k := 0) hX kX8 (by decide) fk_X8_11 h0.2.2 dX8_areBeside_1 h0.1 rfl ?_
  refine j_iconst hX dX8_areBeside_4 ic_0 ?_
  refine j_iload_n hX dX8_areBeside_5 rfl ?_
  refine j_iadd hX dX8_areBeside_6 ?_
  refine jpc (b := 7) rfl ?_
  obtain ⟨hg, hf⟩ := gd hf
  refine j_iald hX h0.2.1 hg dX8_areBeside_7 ?_
  refine j_aload_n hX dX8_areBeside_8 rfl ?_
  refine j_getR (k := 0) hX kX8 (by decide) fk_X8_11 h0.2.2 dX8_areBeside_9 h0.1 rfl ?_
  refine j_iconst hX dX8_areBeside_12 ic_0 ?_
  refine j_iload_n hX dX8_areBeside_13 rfl ?_
  refine j_iadd hX dX8_areBeside_14 ?_
  refine jpc (b := 15) rfl ?_
  obtain ⟨hg, hf⟩ := gd hf
  refine j_iald hX h0.2.1 hg dX8_areBeside_15 ?_
  refine j_isub hX dX8_areBeside_16 ?_
  refine j_abs hX lk_X8_41 dX8_areBeside_17 ⟨by omega, Nat.le_trans (Nat.le_of_ble_eq_true rfl) hRl⟩ (Nat.le_add_right _ _) (Nat.le_add_right _ _) ?_
  refine j_iconst hX dX8_areBeside_20 ic_1 ?_
  refine j_icmp_ne (tgt := 28) hX dX8_areBeside_21 (by decide) (fun hc => ?_) (fun hc => ?_)
  · have hf := ifn hc hf
    refine j_iconst hX dX8_areBeside_28 ic_0 ?_
    cases hf
    exact j_ret hX hr hlk rfl dX8_areBeside_29
  · have hf := ifp hc hf
    refine j_iconst hX dX8_areBeside_24 ic_1 ?_
    refine j_goto (tgt := 29) hX dX8_areBeside_25 (by decide) ?_
    cases hf
    exact j_ret hX hr hlk rfl dX8_areBeside_29
theorem okX8_areBeside {l : Launch} {sh : List aSh} {i : Nat → Nat → Int32} {lo : Nat → Nat → Int64} {rv : Nat → Nat → Option Nat}  {p0 : Nat} {a1 : Int32} {a2 : Int32} {vR : Int32} (hG : aGood sh rv) (h0 : isScn sh rv p0) (hf : fX8_areBeside p0 a1 a2 i = some (vR)) : aM l yX8_areBeside cX8_areBeside 3 (some .boolean) 1 [.ref (100 + p0), .int a1, .int a2] (sh, i, lo, rv) (some (.int vR)) (sh, i, lo, rv) :=
  aM_of (by decide) (Nat.le_of_ble_eq_true rfl) (Nat.le_refl _) (Nat.le_refl _) (fun p e s m args below meth c D cA A ad0 hX hr hlk hnm => kX8_areBeside hX hr hlk (Nat.le_refl _) (Nat.le_refl _) h0 hG hf)
def fX3_snoresBeside_40 (p1 : Nat) (kh5 : Int32 → Int32 → Int32 → (Nat → Nat → Int32) → Option ((Int32))) (x2 : Int32) (x3 : Int32) (x4 : Int32) (i : Nat → Nat → Int32) : Option ((Int32)) := kh5 x2 x3 (x4 + 1) i
theorem kX3_snoresBeside_40  {p1 : Nat} {vR : Int32} (hX : aX p s m args c RX3 cX3_snoresBeside 5 D cA A ad0) (hr : meth.sig.returnType = (some .int)) (hlk : meth.locks = false) (hRf : 2 ≤ R.frames) (hRl : 64 * 2 ≤ R.locals) (h1 : isScn sh rv p1) {kh5 : Int32 → Int32 → Int32 → (Nat → Nat → Int32) → Option ((Int32))} (Hkh5 : ∀ (x2 : Int32) (x3 : Int32) (x4 : Int32), aGood sh rv → kh5 x2 x3 x4 i = some (vR) → aJ p l e R s m args below meth c (MQ below (aPost D cA ad0 A (sh, i0, lo0, rv0) (some (.int vR)) (sh, i, lo, rv)) args s (sh.length - sh.length) (aSn sh - aSn sh) A) D cA A ad0 5 sh.length (aSn sh) 5 [some (.ref (100 + 23)), some (.ref (100 + p1)), some (.int x2), some (.int x3), some (.int x4)] [] (sh, i, lo, rv)) {x2 : Int32} {x3 : Int32} {x4 : Int32} (hG : aGood sh rv) (hf : fX3_snoresBeside_40 p1 kh5 x2 x3 x4 i = some (vR)) : aJ p l e R s m args below meth c (MQ below (aPost D cA ad0 A (sh, i0, lo0, rv0) (some (.int vR)) (sh, i, lo, rv)) args s (sh.length - sh.length) (aSn sh - aSn sh) A) D cA A ad0 5 sh.length (aSn sh) 40 [some (.ref (100 + 23)), some (.ref (100 + p1)), some (.int x2), some (.int x3), some (.int x4)] [] (sh, i, lo, rv) := by
  unfold fX3_snoresBeside_40 at hf
  refine j_iinc hX dX3_snoresBeside_40 rfl (congrArg (_ + ·) ic_1) (by decide) rfl ?_
  refine j_goto (tgt := 5) hX dX3_snoresBeside_43 (by decide) ?_
  exact aJx (Hkh5 _ _ _ hG  hf) (And.intro rfl (And.intro rfl (And.intro rfl (And.intro rfl (And.intro rfl (rfl))))))
def fX3_snoresBeside_5 (p1 : Nat) : Nat → Int32 → Int32 → Int32 → (Nat → Nat → Int32) → Option ((Int32))
  | 0, _, _, _, _ => none
  | n + 1, x2, x3, x4, i => bn1 (fX1_sleepers 15 i) fun v1 =>
    if v1 ≤ x4 then (some (x3)) else (bn1 (fX8_areBeside p1 x2 x4 i) fun v3 =>
    if v3 = 0 then (fX3_snoresBeside_40 p1 (fX3_snoresBeside_5 p1 n) x2 x3 x4 i) else (bn1 (fX1_ofSleeper 15 x4 3 i) fun v5 =>
    fX3_snoresBeside_40 p1 (fX3_snoresBeside_5 p1 n) x2 (x3 + v5) x4 i))
theorem kX3_snoresBeside_5  {p1 : Nat} {vR : Int32} (hX : aX p s m args c RX3 cX3_snoresBeside 5 D cA A ad0) (hr : meth.sig.returnType = (some .int)) (hlk : meth.locks = false) (hRf : 2 ≤ R.frames) (hRl : 64 * 2 ≤ R.locals) (h1 : isScn sh rv p1) : ∀ (n : Nat) (x2 : Int32) (x3 : Int32) (x4 : Int32), aGood sh rv → fX3_snoresBeside_5 p1 n x2 x3 x4 i = some (vR) → aJ p l e R s m args below meth c (MQ below (aPost D cA ad0 A (sh, i0, lo0, rv0) (some (.int vR)) (sh, i, lo, rv)) args s (sh.length - sh.length) (aSn sh - aSn sh) A) D cA A ad0 5 sh.length (aSn sh) 5 [some (.ref (100 + 23)), some (.ref (100 + p1)), some (.int x2), some (.int x3), some (.int x4)] [] (sh, i, lo, rv) := by
  intro n
  induction n with
  | zero => intros; rename_i hf; cases hf
  | succ n ih =>
    intro x2 x3 x4 hG hf
    rw [fX3_snoresBeside_5] at hf
    refine j_iload hX dX3_snoresBeside_5 rfl ?_
    refine j_aload_n hX dX3_snoresBeside_7 rfl ?_
    refine j_getR (k := 0) hX kX3 (by decide) fk_X3_17 (rf_23_0 hG) dX3_snoresBeside_8 (sh_23 hG) rfl ?_
    obtain ⟨v1, hh2, hf⟩ := bd1 hf
    refine j_cV0i hX lk_X3_74 kX1 dX3_snoresBeside_11 (sh_15 hG) (okX1_sleepers hG (cr_15 hG) hh2) rfl rfl (rmm (by omega) hRf hRl (by decide)) (Nat.le_of_ble_eq_true rfl) (Nat.le_add_right _ _) (Nat.le_add_right _ _) ?_
    refine j_icmp_ge (tgt := 46) hX dX3_snoresBeside_14 (by decide) (fun hc => ?_) (fun hc => ?_)
    · have hf := ifp hc hf
      refine j_iload_n hX dX3_snoresBeside_46 rfl ?_
      cases hf
      exact j_ret hX hr hlk rfl dX3_snoresBeside_47
    · have hf := ifn hc hf
      refine j_aload_n hX dX3_snoresBeside_17 rfl ?_
      refine j_iload_n hX dX3_snoresBeside_18 rfl ?_
      refine j_iload hX dX3_snoresBeside_19 rfl ?_
      obtain ⟨v3, hh4, hf⟩ := bd1 hf
      refine j_cV2i hX lk_X3_77 kX8 dX3_snoresBeside_21 h1.1 (okX8_areBeside hG h1 hh4) rfl rfl (rmm (by omega) hRf hRl (by decide)) (Nat.le_of_ble_eq_true rfl) (Nat.le_add_right _ _) (Nat.le_add_right _ _) ?_
      refine j_if_eq (tgt := 40) hX dX3_snoresBeside_24 (by decide) (fun hc => ?_) (fun hc => ?_)
      · have hf := ifp hc hf
        exact aJx (kX3_snoresBeside_40 hX hr hlk hRf hRl h1 ih hG  hf) (And.intro rfl (And.intro rfl (And.intro rfl (And.intro rfl (And.intro rfl (rfl))))))
      · have hf := ifn hc hf
        refine j_iload_n hX dX3_snoresBeside_27 rfl ?_
        refine j_aload_n hX dX3_snoresBeside_28 rfl ?_
        refine j_getR (k := 0) hX kX3 (by decide) fk_X3_17 (rf_23_0 hG) dX3_snoresBeside_29 (sh_23 hG) rfl ?_
        refine j_iload hX dX3_snoresBeside_32 rfl ?_
        refine j_iconst hX dX3_snoresBeside_34 ic_3 ?_
        refine jpc (b := 35) rfl ?_
        obtain ⟨v5, hh6, hf⟩ := bd1 hf
        refine j_cV2i hX lk_X3_52 kX1 dX3_snoresBeside_35 (sh_15 hG) (okX1_ofSleeper hG (cr_15 hG) hh6) rfl rfl (rmm (by omega) hRf hRl (by decide)) (Nat.le_of_ble_eq_true rfl) (Nat.le_add_right _ _) (Nat.le_add_right _ _) ?_
        refine j_iadd hX dX3_snoresBeside_38 ?_
        refine j_istore_n hX dX3_snoresBeside_39 (by decide) rfl ?_
        exact aJx (kX3_snoresBeside_40 hX hr hlk hRf hRl h1 ih hG  hf) (And.intro rfl (And.intro rfl (And.intro rfl (And.intro rfl (And.intro rfl (rfl))))))
def fX3_snoresBeside (p1 : Nat) (a2 : Int32) (i : Nat → Nat → Int32) : Option ((Int32)) := fX3_snoresBeside_5 p1 fuel a2 0 0 i
theorem kX3_snoresBeside  {p1 : Nat} {vR : Int32} (hX : aX p s m args c RX3 cX3_snoresBeside 5 D cA A ad0) (hr : meth.sig.returnType = (some .int)) (hlk : meth.locks = false) (hRf : 2 ≤ R.frames) (hRl : 64 * 2 ≤ R.locals) (h1 : isScn sh rv p1) {a2 : Int32} (hG : aGood sh rv) (hf : fX3_snoresBeside p1 a2 i = some (vR)) : aJ p l e R s m args below meth c (MQ below (aPost D cA ad0 A (sh, i0, lo0, rv0) (some (.int vR)) (sh, i, lo, rv)) args s (sh.length - sh.length) (aSn sh - aSn sh) A) D cA A ad0 5 sh.length (aSn sh) 0 [some (.ref (100 + 23)), some (.ref (100 + p1)), some (.int a2), none, none] [] (sh, i, lo, rv) := by
  unfold fX3_snoresBeside at hf
  refine j_iconst hX dX3_snoresBeside_0 ic_0 ?_
  refine j_istore_n hX dX3_snoresBeside_1 (by decide) rfl ?_
  refine j_iconst hX dX3_snoresBeside_2 ic_0 ?_
  refine j_istore hX dX3_snoresBeside_3 (by decide) rfl ?_
  exact aJx (kX3_snoresBeside_5 hX hr hlk hRf hRl h1 fuel _ _ _ hG  hf) (And.intro rfl (And.intro rfl (And.intro rfl (And.intro rfl (And.intro rfl (rfl))))))
theorem okX3_snoresBeside {l : Launch} {sh : List aSh} {i : Nat → Nat → Int32} {lo : Nat → Nat → Int64} {rv : Nat → Nat → Option Nat}  {p1 : Nat} {a2 : Int32} {vR : Int32} (hG : aGood sh rv) (h1 : isScn sh rv p1) (hf : fX3_snoresBeside p1 a2 i = some (vR)) : aM l yX3_snoresBeside cX3_snoresBeside 5 (some .int) 2 [.ref (100 + 23), .ref (100 + p1), .int a2] (sh, i, lo, rv) (some (.int vR)) (sh, i, lo, rv) :=
  aM_of (by decide) (Nat.le_of_ble_eq_true rfl) (Nat.le_refl _) (Nat.le_refl _) (fun p e s m args below meth c D cA A ad0 hX hr hlk hnm => kX3_snoresBeside hX hr hlk (Nat.le_refl _) (Nat.le_refl _) h1 hG hf)
def fX4_push (p0 : Nat) (a1 : Int32) (i : Nat → Nat → Int32) : Option ((Nat → Nat → Int32)) := if (nI 32) ≤ (i p0 3) then (some (i)) else (if aIn (i p0 3) 32 = true then
    (lt (u2 i (p0 + 2) ((i p0 3) : Int32).toNatClampNeg a1) fun i1 => lt (u2 i1 p0 3 ((i1 p0 3) + (1 : Int32))) fun i2 =>
    some (i2)) else none)
theorem kX4_push  {p0 : Nat} {iR : Nat → Nat → Int32} (hX : aX p s m args c RX4 cX4_push 2 D cA A ad0) (hr : meth.sig.returnType = none) (hlk : meth.locks = false) (hRf : 0 ≤ R.frames) (hRl : 64 * 0 ≤ R.locals) (h0 : isLaw sh rv p0) {a1 : Int32} (hG : aGood sh rv) (hf : fX4_push p0 a1 i = some (iR)) : aJ p l e R s m args below meth c (MQ below (aPost D cA ad0 A (sh, i0, lo0, rv0) none (sh, iR, lo, rv)) args s (sh.length - sh.length) (aSn sh - aSn sh) A) D cA A ad0 2 sh.length (aSn sh) 0 [some (.ref (100 + p0)), some (.int a1)] [] (sh, i, lo, rv) := by
  unfold fX4_push at hf
  refine j_aload_n hX dX4_push_0 rfl ?_
  refine j_getI (k := 3) hX kX4 (by decide) fk_X4_87 dX4_push_1 h0.1 rfl ?_
  refine j_aload_n hX dX4_push_4 rfl ?_
  refine j_getR (k := 1) hX kX4 (by decide) fk_X4_17 h0.2.2.2.2 dX4_push_5 h0.1 rfl ?_
  refine j_alen (t0 := 0) hX h0.2.2.1 (fun _ => rfl) dX4_push_8 ?_
  refine jpc (b := 9) rfl ?_
  refine j_icmp_ge (tgt := 32) hX dX4_push_9 (by decide) (fun hc => ?_) (fun hc => ?_)
  · have hf := ifp hc hf
    cases hf
    exact j_vret hX hr hlk dX4_push_32
  · have hf := ifn hc hf
    refine j_aload_n hX dX4_push_12 rfl ?_
    refine j_getR (k := 1) hX kX4 (by decide) fk_X4_17 h0.2.2.2.2 dX4_push_13 h0.1 rfl ?_
    refine j_aload_n hX dX4_push_16 rfl ?_
    refine j_getI (k := 3) hX kX4 (by decide) fk_X4_87 dX4_push_17 h0.1 rfl ?_
    refine j_iload_n hX dX4_push_20 rfl ?_
    refine jpc (b := 21) rfl ?_
    obtain ⟨hg, hf⟩ := gd hf
    have hf := ltd hf
    refine j_iast hX h0.2.2.1 hg dX4_push_21 ?_
    refine j_aload_n hX dX4_push_22 rfl ?_
    refine j_dup hX dX4_push_23 rfl ?_
    refine j_getI (k := 3) hX kX4 (by decide) fk_X4_87 dX4_push_24 h0.1 rfl ?_
    refine j_iconst hX dX4_push_27 ic_1 ?_
    refine j_iadd hX dX4_push_28 ?_
    refine jpc (b := 29) rfl ?_
    have hf := ltd hf
    refine j_putI (k := 3) hX kX4 (by decide) fk_X4_87 dX4_push_29 h0.1 rfl rfl rfl rfl ?_
    cases hf
    exact j_vret hX hr hlk dX4_push_32
theorem okX4_push {l : Launch} {sh : List aSh} {i : Nat → Nat → Int32} {lo : Nat → Nat → Int64} {rv : Nat → Nat → Option Nat}  {p0 : Nat} {a1 : Int32} {iR : Nat → Nat → Int32} (hG : aGood sh rv) (h0 : isLaw sh rv p0) (hf : fX4_push p0 a1 i = some (iR)) : aM l yX4_push cX4_push 2 none 0 [.ref (100 + p0), .int a1] (sh, i, lo, rv) none (sh, iR, lo, rv) :=
  aM_of (by decide) (Nat.le_of_ble_eq_true rfl) (Nat.le_refl _) (Nat.le_refl _) (fun p e s m args below meth c D cA A ad0 hX hr hlk hnm => kX4_push hX hr hlk (Nat.le_refl _) (Nat.le_refl _) h0 hG hf)
def fX4_pop (p0 : Nat) (i : Nat → Nat → Int32) : Option ((Int32) × (Nat → Nat → Int32)) := if (i p0 3) = 0 then (some (0, i)) else (lt (u2 i p0 3 ((i p0 3) - (1 : Int32))) fun i1 =>
    if aIn (i1 p0 3) 32 = true then
    (some ((i1 (p0 + 2) ((i1 p0 3) : Int32).toNatClampNeg), i1)) else none)
theorem kX4_pop  {p0 : Nat} {vR : Int32} {iR : Nat → Nat → Int32} (hX : aX p s m args c RX4 cX4_pop 1 D cA A ad0) (hr : meth.sig.returnType = (some .int)) (hlk : meth.locks = false) (hRf : 0 ≤ R.frames) (hRl : 64 * 0 ≤ R.locals) (h0 : isLaw sh rv p0) (hG : aGood sh rv) (hf : fX4_pop p0 i = some (vR, iR)) : aJ p l e R s m args below meth c (MQ below (aPost D cA ad0 A (sh, i0, lo0, rv0) (some (.int vR)) (sh, iR, lo, rv)) args s (sh.length - sh.length) (aSn sh - aSn sh) A) D cA A ad0 1 sh.length (aSn sh) 0 [some (.ref (100 + p0))] [] (sh, i, lo, rv) := by
  unfold fX4_pop at hf
  refine j_aload_n hX dX4_pop_0 rfl ?_
  refine j_getI (k := 3) hX kX4 (by decide) fk_X4_87 dX4_pop_1 h0.1 rfl ?_
  refine j_if_ne (tgt := 9) hX dX4_pop_4 (by decide) (fun hc => ?_) (fun hc => ?_)
  · have hf := ifn hc hf
    refine j_aload_n hX dX4_pop_9 rfl ?_
    refine j_dup hX dX4_pop_10 rfl ?_
    refine j_getI (k := 3) hX kX4 (by decide) fk_X4_87 dX4_pop_11 h0.1 rfl ?_
    refine j_iconst hX dX4_pop_14 ic_1 ?_
    refine j_isub hX dX4_pop_15 ?_
    refine jpc (b := 16) rfl ?_
    have hf := ltd hf
    refine j_putI (k := 3) hX kX4 (by decide) fk_X4_87 dX4_pop_16 h0.1 rfl rfl rfl rfl ?_
    refine j_aload_n hX dX4_pop_19 rfl ?_
    refine j_getR (k := 1) hX kX4 (by decide) fk_X4_17 h0.2.2.2.2 dX4_pop_20 h0.1 rfl ?_
    refine j_aload_n hX dX4_pop_23 rfl ?_
    refine j_getI (k := 3) hX kX4 (by decide) fk_X4_87 dX4_pop_24 h0.1 rfl ?_
    obtain ⟨hg, hf⟩ := gd hf
    refine j_iald hX h0.2.2.1 hg dX4_pop_27 ?_
    cases hf
    exact j_ret hX hr hlk rfl dX4_pop_28
  · have hf := ifp hc hf
    refine j_iconst hX dX4_pop_7 ic_0 ?_
    cases hf
    exact j_ret hX hr hlk rfl dX4_pop_8
theorem okX4_pop {l : Launch} {sh : List aSh} {i : Nat → Nat → Int32} {lo : Nat → Nat → Int64} {rv : Nat → Nat → Option Nat}  {p0 : Nat} {vR : Int32} {iR : Nat → Nat → Int32} (hG : aGood sh rv) (h0 : isLaw sh rv p0) (hf : fX4_pop p0 i = some (vR, iR)) : aM l yX4_pop cX4_pop 1 (some .int) 0 [.ref (100 + p0)] (sh, i, lo, rv) (some (.int vR)) (sh, iR, lo, rv) :=
  aM_of (by decide) (Nat.le_of_ble_eq_true rfl) (Nat.le_refl _) (Nat.le_refl _) (fun p e s m args below meth c D cA A ad0 hX hr hlk hnm => kX4_pop hX hr hlk (Nat.le_refl _) (Nat.le_refl _) h0 hG hf)
def fX4_joined_159 (s0 : Int32) (s1 : Int32) (s2 : Int32) : Option ((Int32)) := some ((if s0 < (if s2 < s1 then s2 else s1) then (if s2 < s1 then s2 else s1) else s0))
theorem kX4_joined_159  {vR : Int32} (hX : aX p s m args c RX4 cX4_joined 3 D cA A ad0) (hr : meth.sig.returnType = (some .int)) (hlk : meth.locks = false) (hRf : 1 ≤ R.frames) (hRl : 64 * 1 ≤ R.locals) {s0 : Int32} {s1 : Int32} {s2 : Int32} (hG : aGood sh rv) (hf : fX4_joined_159 s0 s1 s2 = some (vR)) : aJ p l e R s m args below meth c (MQ below (aPost D cA ad0 A (sh, i0, lo0, rv0) (some (.int vR)) (sh, i, lo, rv)) args s (sh.length - sh.length) (aSn sh - aSn sh) A) D cA A ad0 3 sh.length (aSn sh) 159 [none, none, none] [.int s2, .int s1, .int s0] (sh, i, lo, rv) := by
  unfold fX4_joined_159 at hf
  refine j_min hX lk_X4_115 dX4_joined_159 ⟨by omega, Nat.le_trans (Nat.le_of_ble_eq_true rfl) hRl⟩ (Nat.le_add_right _ _) (Nat.le_add_right _ _) ?_
  refine j_max hX lk_X4_118 dX4_joined_162 ⟨by omega, Nat.le_trans (Nat.le_of_ble_eq_true rfl) hRl⟩ (Nat.le_add_right _ _) (Nat.le_add_right _ _) ?_
  cases hf
  exact j_ret hX hr hlk rfl dX4_joined_165
def fX4_joined (a0 : Int32) (a1 : Int32) (a2 : Int32) : Option ((Int32)) := if a0 = 38 then (some ((a1 &&& a2))) else
    if a0 = 42 then (some (((if (if ((a1 : Int32).toInt64 * (a2 : Int32).toInt64) < (1000000 : Int64) then ((a1 : Int32).toInt64 * (a2 : Int32).toInt64) else (1000000 : Int64)) < ((-1000000) : Int64) then ((-1000000) : Int64) else (if ((a1 : Int32).toInt64 * (a2 : Int32).toInt64) < (1000000 : Int64) then ((a1 : Int32).toInt64 * (a2 : Int32).toInt64) else (1000000 : Int64)))).toInt32)) else
    if a0 = 47 then (if a2 = 0 then (some (0)) else (if a2 = 0 then none else
    some ((a1 / a2)))) else
    if a0 = 60 then (if a2 ≤ a1 then (some (0)) else (some (1))) else
    if a0 = 61 then (if a1 = a2 then (some (1)) else (some (0))) else
    if a0 = 62 then (if a1 ≤ a2 then (some (0)) else (some (1))) else
    if a0 = 124 then (some ((a1 ||| a2))) else
    (if a0 = 43 then (fX4_joined_159 (-1000000) 1000000 (a1 + a2)) else (fX4_joined_159 (-1000000) 1000000 (a1 - a2)))
theorem kX4_joined  {vR : Int32} (hX : aX p s m args c RX4 cX4_joined 3 D cA A ad0) (hr : meth.sig.returnType = (some .int)) (hlk : meth.locks = false) (hRf : 1 ≤ R.frames) (hRl : 64 * 1 ≤ R.locals) {a0 : Int32} {a1 : Int32} {a2 : Int32} (hG : aGood sh rv) (hf : fX4_joined a0 a1 a2 = some (vR)) : aJ p l e R s m args below meth c (MQ below (aPost D cA ad0 A (sh, i0, lo0, rv0) (some (.int vR)) (sh, i, lo, rv)) args s (sh.length - sh.length) (aSn sh - aSn sh) A) D cA A ad0 3 sh.length (aSn sh) 0 [some (.int a0), some (.int a1), some (.int a2)] [] (sh, i, lo, rv) := by
  unfold fX4_joined at hf
  refine j_iload_n hX dX4_joined_0 rfl ?_
  refine sw2 (k := 38) hf (fun hc0 hf => ?_) (fun hc0 hf => ?_)
  · refine j_lookup (off := 100) (tgt := 101) hX dX4_joined_1 (by decide) (by rw [hc0]; decide) (by decide) ?_
    refine j_iload_n hX dX4_joined_101 rfl ?_
    refine j_iload_n hX dX4_joined_102 rfl ?_
    refine j_iand hX dX4_joined_103 ?_
    cases hf
    exact j_ret hX hr hlk rfl dX4_joined_104
  refine sw2 (k := 42) hf (fun hc1 hf => ?_) (fun hc1 hf => ?_)
  · refine j_lookup (off := 120) (tgt := 121) hX dX4_joined_1 (by decide) (by rw [hc1]; decide) (by decide) ?_
    refine j_ldc2_w hX kc_X4_100 dX4_joined_121 ?_
    refine j_ldc2_w hX kc_X4_102 dX4_joined_124 ?_
    refine j_iload_n hX dX4_joined_127 rfl ?_
    refine j_i2l hX dX4_joined_128 ?_
    refine j_iload_n hX dX4_joined_129 rfl ?_
    refine jpc (b := 130) rfl ?_
    refine j_i2l hX dX4_joined_130 ?_
    refine j_lmul hX dX4_joined_131 ?_
    refine j_minL hX lk_X4_104 dX4_joined_132 ⟨by omega, Nat.le_trans (Nat.le_of_ble_eq_true rfl) hRl⟩ (Nat.le_add_right _ _) (Nat.le_add_right _ _) ?_
    refine j_maxL hX lk_X4_110 dX4_joined_135 ⟨by omega, Nat.le_trans (Nat.le_of_ble_eq_true rfl) hRl⟩ (Nat.le_add_right _ _) (Nat.le_add_right _ _) ?_
    refine j_l2i hX dX4_joined_138 ?_
    cases hf
    exact j_ret hX hr hlk rfl dX4_joined_139
  refine sw2 (k := 47) hf (fun hc2 hf => ?_) (fun hc2 hf => ?_)
  · refine j_lookup (off := 108) (tgt := 109) hX dX4_joined_1 (by decide) (by rw [hc2]; decide) (by decide) ?_
    refine j_iload_n hX dX4_joined_109 rfl ?_
    refine j_if_ne (tgt := 117) hX dX4_joined_110 (by decide) (fun hc => ?_) (fun hc => ?_)
    · have hf := ifn hc hf
      refine j_iload_n hX dX4_joined_117 rfl ?_
      refine j_iload_n hX dX4_joined_118 rfl ?_
      obtain ⟨hz, hf⟩ := gdn hf
      refine j_idiv hX dX4_joined_119 hz ?_
      cases hf
      exact j_ret hX hr hlk rfl dX4_joined_120
    · have hf := ifp hc hf
      refine j_iconst hX dX4_joined_113 ic_0 ?_
      refine j_goto (tgt := 120) hX dX4_joined_114 (by decide) ?_
      cases hf
      exact j_ret hX hr hlk rfl dX4_joined_120
  refine sw2 (k := 60) hf (fun hc3 hf => ?_) (fun hc3 hf => ?_)
  · refine j_lookup (off := 78) (tgt := 79) hX dX4_joined_1 (by decide) (by rw [hc3]; decide) (by decide) ?_
    refine j_iload_n hX dX4_joined_79 rfl ?_
    refine j_iload_n hX dX4_joined_80 rfl ?_
    refine j_icmp_ge (tgt := 88) hX dX4_joined_81 (by decide) (fun hc => ?_) (fun hc => ?_)
    · have hf := ifp hc hf
      refine j_iconst hX dX4_joined_88 ic_0 ?_
      cases hf
      exact j_ret hX hr hlk rfl dX4_joined_89
    · have hf := ifn hc hf
      refine j_iconst hX dX4_joined_84 ic_1 ?_
      refine j_goto (tgt := 89) hX dX4_joined_85 (by decide) ?_
      cases hf
      exact j_ret hX hr hlk rfl dX4_joined_89
  refine sw2 (k := 61) hf (fun hc4 hf => ?_) (fun hc4 hf => ?_)
  · refine j_lookup (off := 67) (tgt := 68) hX dX4_joined_1 (by decide) (by rw [hc4]; decide) (by decide) ?_
    refine j_iload_n hX dX4_joined_68 rfl ?_
    refine j_iload_n hX dX4_joined_69 rfl ?_
    refine j_icmp_ne (tgt := 77) hX dX4_joined_70 (by decide) (fun hc => ?_) (fun hc => ?_)
    · have hf := ifn hc hf
      refine j_iconst hX dX4_joined_77 ic_0 ?_
      cases hf
      exact j_ret hX hr hlk rfl dX4_joined_78
    · have hf := ifp hc hf
      refine j_iconst hX dX4_joined_73 ic_1 ?_
      refine j_goto (tgt := 78) hX dX4_joined_74 (by decide) ?_
      cases hf
      exact j_ret hX hr hlk rfl dX4_joined_78
  refine sw2 (k := 62) hf (fun hc5 hf => ?_) (fun hc5 hf => ?_)
  · refine j_lookup (off := 89) (tgt := 90) hX dX4_joined_1 (by decide) (by rw [hc5]; decide) (by decide) ?_
    refine j_iload_n hX dX4_joined_90 rfl ?_
    refine j_iload_n hX dX4_joined_91 rfl ?_
    refine j_icmp_le (tgt := 99) hX dX4_joined_92 (by decide) (fun hc => ?_) (fun hc => ?_)
    · have hf := ifp hc hf
      refine j_iconst hX dX4_joined_99 ic_0 ?_
      cases hf
      exact j_ret hX hr hlk rfl dX4_joined_100
    · have hf := ifn hc hf
      refine j_iconst hX dX4_joined_95 ic_1 ?_
      refine j_goto (tgt := 100) hX dX4_joined_96 (by decide) ?_
      cases hf
      exact j_ret hX hr hlk rfl dX4_joined_100
  refine sw2 (k := 124) hf (fun hc6 hf => ?_) (fun hc6 hf => ?_)
  · refine j_lookup (off := 104) (tgt := 105) hX dX4_joined_1 (by decide) (by rw [hc6]; decide) (by decide) ?_
    refine j_iload_n hX dX4_joined_105 rfl ?_
    refine j_iload_n hX dX4_joined_106 rfl ?_
    refine j_ior hX dX4_joined_107 ?_
    cases hf
    exact j_ret hX hr hlk rfl dX4_joined_108
  refine j_lookup (off := 139) (tgt := 140) hX dX4_joined_1 (by decide) (by have g0 := i32ne (z := 38) hc0 (by decide); have g1 := i32ne (z := 42) hc1 (by decide); have g2 := i32ne (z := 47) hc2 (by decide); have g3 := i32ne (z := 60) hc3 (by decide); have g4 := i32ne (z := 61) hc4 (by decide); have g5 := i32ne (z := 62) hc5 (by decide); have g6 := i32ne (z := 124) hc6 (by decide); simp [Op.lookupswitch.offset, Ne.symm g0, Ne.symm g1, Ne.symm g2, Ne.symm g3, Ne.symm g4, Ne.symm g5, Ne.symm g6]) (by decide) ?_
  refine j_ldc hX kc_X4_113 dX4_joined_140 ?_
  refine j_ldc hX kc_X4_114 dX4_joined_142 ?_
  refine j_iload_n hX dX4_joined_144 rfl ?_
  refine j_bipush hX dX4_joined_145 bp_43 ?_
  refine j_icmp_ne (tgt := 156) hX dX4_joined_147 (by decide) (fun hc => ?_) (fun hc => ?_)
  · have hf := ifn hc hf
    refine j_iload_n hX dX4_joined_156 rfl ?_
    refine j_iload_n hX dX4_joined_157 rfl ?_
    refine j_isub hX dX4_joined_158 ?_
    exact aJx (kX4_joined_159 hX hr hlk hRf hRl hG  hf) (rfl)
  · have hf := ifp hc hf
    refine j_iload_n hX dX4_joined_150 rfl ?_
    refine j_iload_n hX dX4_joined_151 rfl ?_
    refine j_iadd hX dX4_joined_152 ?_
    refine j_goto (tgt := 159) hX dX4_joined_153 (by decide) ?_
    exact aJx (kX4_joined_159 hX hr hlk hRf hRl hG  hf) (rfl)
theorem okX4_joined {l : Launch} {sh : List aSh} {i : Nat → Nat → Int32} {lo : Nat → Nat → Int64} {rv : Nat → Nat → Option Nat}  {a0 : Int32} {a1 : Int32} {a2 : Int32} {vR : Int32} (hG : aGood sh rv) (hf : fX4_joined a0 a1 a2 = some (vR)) : aM l yX4_joined cX4_joined 3 (some .int) 1 [.int a0, .int a1, .int a2] (sh, i, lo, rv) (some (.int vR)) (sh, i, lo, rv) :=
  aM_of (by decide) (Nat.le_of_ble_eq_true rfl) (Nat.le_refl _) (Nat.le_refl _) (fun p e s m args below meth c D cA A ad0 hX hr hlk hnm => kX4_joined hX hr hlk (Nat.le_refl _) (Nat.le_refl _) hG hf)
def fX4_worth_153 (p0 : Nat) (w1 : Nat) (n1 : Nat) (kh9 : Int32 → Int32 → (Nat → Nat → Int32) → Option ((Int32) × (Nat → Nat → Int32))) (x2 : Int32) (x3 : Int32) (i : Nat → Nat → Int32) : Option ((Int32) × (Nat → Nat → Int32)) := kh9 x2 (x3 + 1) i
theorem kX4_worth_153  {p0 : Nat} {w1 : Nat} {n1 : Nat} {vR : Int32} {iR : Nat → Nat → Int32} (hX : aX p s m args c RX4 cX4_worth 6 D cA A ad0) (hr : meth.sig.returnType = (some .int)) (hlk : meth.locks = false) (hRf : 2 ≤ R.frames) (hRl : 64 * 2 ≤ R.locals) (h0 : isLaw sh rv p0) (h1 : sh[w1]? = some (.inl (.int, n1))) {kh9 : Int32 → Int32 → (Nat → Nat → Int32) → Option ((Int32) × (Nat → Nat → Int32))} (Hkh9 : ∀ (x2 : Int32) (x3 : Int32) (i : Nat → Nat → Int32), aGood sh rv → kh9 x2 x3 i = some (vR, iR) → aJ p l e R s m args below meth c (MQ below (aPost D cA ad0 A (sh, i0, lo0, rv0) (some (.int vR)) (sh, iR, lo, rv)) args s (sh.length - sh.length) (aSn sh - aSn sh) A) D cA A ad0 6 sh.length (aSn sh) 9 [some (.ref (100 + p0)), some (.ref (100 + w1)), some (.int x2), some (.int x3), none, none] [] (sh, i, lo, rv)) {x2 : Int32} {x3 : Int32} (hG : aGood sh rv) (hf : fX4_worth_153 p0 w1 n1 kh9 x2 x3 i = some (vR, iR)) : aJ p l e R s m args below meth c (MQ below (aPost D cA ad0 A (sh, i0, lo0, rv0) (some (.int vR)) (sh, iR, lo, rv)) args s (sh.length - sh.length) (aSn sh - aSn sh) A) D cA A ad0 6 sh.length (aSn sh) 153 [some (.ref (100 + p0)), some (.ref (100 + w1)), some (.int x2), some (.int x3), none, none] [] (sh, i, lo, rv) := by
  unfold fX4_worth_153 at hf
  refine j_iinc hX dX4_worth_153 rfl (congrArg (_ + ·) ic_1) (by decide) rfl ?_
  refine j_goto (tgt := 9) hX dX4_worth_156 (by decide) ?_
  exact aJx (Hkh9 _ _ _ hG  hf) (And.intro rfl (And.intro rfl (And.intro rfl (And.intro rfl (rfl)))))
def fX4_worth_107 (p0 : Nat) (w1 : Nat) (n1 : Nat) (kh9 : Int32 → Int32 → (Nat → Nat → Int32) → Option ((Int32) × (Nat → Nat → Int32))) (x3 : Int32) (s0 : Int32) (i : Nat → Nat → Int32) : Option ((Int32) × (Nat → Nat → Int32)) := fX4_worth_153 p0 w1 n1 kh9 s0 x3 i
theorem kX4_worth_107  {p0 : Nat} {w1 : Nat} {n1 : Nat} {vR : Int32} {iR : Nat → Nat → Int32} (hX : aX p s m args c RX4 cX4_worth 6 D cA A ad0) (hr : meth.sig.returnType = (some .int)) (hlk : meth.locks = false) (hRf : 2 ≤ R.frames) (hRl : 64 * 2 ≤ R.locals) (h0 : isLaw sh rv p0) (h1 : sh[w1]? = some (.inl (.int, n1))) {kh9 : Int32 → Int32 → (Nat → Nat → Int32) → Option ((Int32) × (Nat → Nat → Int32))} (Hkh9 : ∀ (x2 : Int32) (x3 : Int32) (i : Nat → Nat → Int32), aGood sh rv → kh9 x2 x3 i = some (vR, iR) → aJ p l e R s m args below meth c (MQ below (aPost D cA ad0 A (sh, i0, lo0, rv0) (some (.int vR)) (sh, iR, lo, rv)) args s (sh.length - sh.length) (aSn sh - aSn sh) A) D cA A ad0 6 sh.length (aSn sh) 9 [some (.ref (100 + p0)), some (.ref (100 + w1)), some (.int x2), some (.int x3), none, none] [] (sh, i, lo, rv)) {x3 : Int32} {s0 : Int32} (hG : aGood sh rv) (hf : fX4_worth_107 p0 w1 n1 kh9 x3 s0 i = some (vR, iR)) : aJ p l e R s m args below meth c (MQ below (aPost D cA ad0 A (sh, i0, lo0, rv0) (some (.int vR)) (sh, iR, lo, rv)) args s (sh.length - sh.length) (aSn sh - aSn sh) A) D cA A ad0 6 sh.length (aSn sh) 107 [some (.ref (100 + p0)), some (.ref (100 + w1)), none, some (.int x3), none, none] [.int s0] (sh, i, lo, rv) := by
  unfold fX4_worth_107 at hf
  refine j_istore_n hX dX4_worth_107 (by decide) rfl ?_
  refine j_goto (tgt := 153) hX dX4_worth_108 (by decide) ?_
  exact aJx (kX4_worth_153 hX hr hlk hRf hRl h0 h1 Hkh9 hG  hf) (And.intro rfl (And.intro rfl (And.intro rfl (And.intro rfl (rfl)))))
def fX4_worth_9 (p0 : Nat) (w1 : Nat) (n1 : Nat) : Nat → Int32 → Int32 → (Nat → Nat → Int32) → Option ((Int32) × (Nat → Nat → Int32))
  | 0, _, _, _ => none
  | n + 1, x2, x3, i => if (i p0 2) ≤ x3 then (some (0, i)) else (if (i p0 2) ≤ x2 then (some (0, i)) else (if aIn x2 240 = true then
    (lt (i (p0 + 1) (x2 : Int32).toNatClampNeg) fun t2 =>
    if t2 < 0 then (if t2 < (-6) then (if t2 = (-7) then (bn2 (fX4_pop p0 i) fun v21 i22 =>
    some (v21, i22)) else (if (-1000) < t2 then (if t2 = (-33) then (bn2 (fX4_pop p0 i) fun v13 i14 =>
    bn1 (fX4_push p0 ((1 : Int32) - v13) i14) fun i16 =>
    fX4_worth_153 p0 w1 n1 (fX4_worth_9 p0 w1 n1 n) (x2 + 1) x3 i16) else (bn2 (fX4_pop p0 i) fun v3 i4 =>
    bn2 (fX4_pop p0 i4) fun v6 i7 =>
    bn1 (fX4_joined (-t2) v6 v3) fun v9 =>
    bn1 (fX4_push p0 v9 i7) fun i11 =>
    fX4_worth_153 p0 w1 n1 (fX4_worth_9 p0 w1 n1 n) (x2 + 1) x3 i11)) else (bn2 (fX4_pop p0 i) fun v18 i19 =>
    if v18 = 0 then (fX4_worth_107 p0 w1 n1 (fX4_worth_9 p0 w1 n1 n) x3 (((-1000) : Int32) - t2) i19) else (fX4_worth_107 p0 w1 n1 (fX4_worth_9 p0 w1 n1 n) x3 (x2 + 1) i19)))) else (if aIn (((-1) : Int32) - t2) n1 = true then
    (bn1 (fX4_push p0 (i w1 ((((-1) : Int32) - t2) : Int32).toNatClampNeg) i) fun i24 =>
    fX4_worth_153 p0 w1 n1 (fX4_worth_9 p0 w1 n1 n) (x2 + 1) x3 i24) else none)) else (bn1 (fX4_push p0 t2 i) fun i26 =>
    fX4_worth_153 p0 w1 n1 (fX4_worth_9 p0 w1 n1 n) (x2 + 1) x3 i26)) else none))
theorem kX4_worth_9  {p0 : Nat} {w1 : Nat} {n1 : Nat} {vR : Int32} {iR : Nat → Nat → Int32} (hX : aX p s m args c RX4 cX4_worth 6 D cA A ad0) (hr : meth.sig.returnType = (some .int)) (hlk : meth.locks = false) (hRf : 2 ≤ R.frames) (hRl : 64 * 2 ≤ R.locals) (h0 : isLaw sh rv p0) (h1 : sh[w1]? = some (.inl (.int, n1))) : ∀ (n : Nat) (x2 : Int32) (x3 : Int32) (i : Nat → Nat → Int32), aGood sh rv → fX4_worth_9 p0 w1 n1 n x2 x3 i = some (vR, iR) → aJ p l e R s m args below meth c (MQ below (aPost D cA ad0 A (sh, i0, lo0, rv0) (some (.int vR)) (sh, iR, lo, rv)) args s (sh.length - sh.length) (aSn sh - aSn sh) A) D cA A ad0 6 sh.length (aSn sh) 9 [some (.ref (100 + p0)), some (.ref (100 + w1)), some (.int x2), some (.int x3), none, none] [] (sh, i, lo, rv) := by
  intro n
  induction n with
  | zero => intros; rename_i hf; cases hf
  | succ n ih =>
    intro x2 x3 i hG hf
    rw [fX4_worth_9] at hf
    refine j_iload_n hX dX4_worth_9 rfl ?_
    refine j_aload_n hX dX4_worth_10 rfl ?_
    refine j_getI (k := 2) hX kX4 (by decide) fk_X4_20 dX4_worth_11 h0.1 rfl ?_
    refine j_icmp_ge (tgt := 159) hX dX4_worth_14 (by decide) (fun hc => ?_) (fun hc => ?_)
    · have hf := ifp hc hf
      refine j_iconst hX dX4_worth_159 ic_0 ?_
      cases hf
      exact j_ret hX hr hlk rfl dX4_worth_160
    · have hf := ifn hc hf
      refine j_iload_n hX dX4_worth_17 rfl ?_
      refine j_aload_n hX dX4_worth_18 rfl ?_
      refine j_getI (k := 2) hX kX4 (by decide) fk_X4_20 dX4_worth_19 h0.1 rfl ?_
      refine j_icmp_ge (tgt := 159) hX dX4_worth_22 (by decide) (fun hc => ?_) (fun hc => ?_)
      · have hf := ifp hc hf
        refine j_iconst hX dX4_worth_159 ic_0 ?_
        cases hf
        exact j_ret hX hr hlk rfl dX4_worth_160
      · have hf := ifn hc hf
        refine j_aload_n hX dX4_worth_25 rfl ?_
        refine j_getR (k := 0) hX kX4 (by decide) fk_X4_11 h0.2.2.2.1 dX4_worth_26 h0.1 rfl ?_
        refine j_iload_n hX dX4_worth_29 rfl ?_
        obtain ⟨hg, hf⟩ := gd hf
        refine j_iald hX h0.2.1 hg dX4_worth_30 ?_
        have hf := ltd hf
        refine j_istore hX dX4_worth_31 (by decide) rfl ?_
        refine j_iinc hX dX4_worth_33 rfl (congrArg (_ + ·) ic_1) (by decide) rfl ?_
        refine j_iload hX dX4_worth_36 rfl ?_
        refine j_if_lt (tgt := 50) hX dX4_worth_38 (by decide) (fun hc => ?_) (fun hc => ?_)
        · have hf := ifp hc hf
          refine j_iload hX dX4_worth_50 rfl ?_
          refine j_bipush hX dX4_worth_52 bp_m6 ?_
          refine j_icmp_lt (tgt := 70) hX dX4_worth_54 (by decide) (fun hc => ?_) (fun hc => ?_)
          · have hf := ifp hc hf
            refine j_iload hX dX4_worth_70 rfl ?_
            refine j_bipush hX dX4_worth_72 bp_m7 ?_
            refine j_icmp_ne (tgt := 82) hX dX4_worth_74 (by decide) (fun hc => ?_) (fun hc => ?_)
            · have hf := ifn hc hf
              refine j_iload hX dX4_worth_82 rfl ?_
              refine j_sipush hX dX4_worth_84 sp_m1000 ?_
              refine j_icmp_gt (tgt := 111) hX dX4_worth_87 (by decide) (fun hc => ?_) (fun hc => ?_)
              · have hf := ifp hc hf
                refine j_iload hX dX4_worth_111 rfl ?_
                refine j_bipush hX dX4_worth_113 bp_m33 ?_
                refine j_icmp_ne (tgt := 131) hX dX4_worth_115 (by decide) (fun hc => ?_) (fun hc => ?_)
                · have hf := ifn hc hf
                  refine j_aload_n hX dX4_worth_131 rfl ?_
                  obtain ⟨v3, i4, hh5, hf⟩ := bd2 hf
                  refine j_cV0i hX lk_X4_93 kX4 dX4_worth_132 h0.1 (okX4_pop hG h0 hh5) rfl rfl (rmm (by omega) hRf hRl (by decide)) (Nat.le_of_ble_eq_true rfl) (Nat.le_add_right _ _) (Nat.le_add_right _ _) ?_
                  refine j_istore hX dX4_worth_135 (by decide) rfl ?_
                  refine j_aload_n hX dX4_worth_137 rfl ?_
                  refine j_iload hX dX4_worth_138 rfl ?_
                  refine jpc (b := 140) rfl ?_
                  refine j_ineg hX dX4_worth_140 ?_
                  refine j_aload_n hX dX4_worth_141 rfl ?_
                  obtain ⟨v6, i7, hh8, hf⟩ := bd2 hf
                  refine j_cV0i hX lk_X4_93 kX4 dX4_worth_142 h0.1 (okX4_pop hG h0 hh8) rfl rfl (rmm (by omega) hRf hRl (by decide)) (Nat.le_of_ble_eq_true rfl) (Nat.le_add_right _ _) (Nat.le_add_right _ _) ?_
                  refine j_iload hX dX4_worth_145 rfl ?_
                  obtain ⟨v9, hh10, hf⟩ := bd1 hf
                  refine j_cS3i hX lk_X4_96 dX4_worth_147 (okX4_joined hG hh10) rfl rfl (rmm (by omega) hRf hRl (by decide)) (Nat.le_of_ble_eq_true rfl) (Nat.le_add_right _ _) (Nat.le_add_right _ _) ?_
                  obtain ⟨i11, hh12, hf⟩ := bd1 hf
                  refine j_cV1v hX lk_X4_90 kX4 dX4_worth_150 h0.1 (okX4_push hG h0 hh12) rfl rfl (rmm (by omega) hRf hRl (by decide)) (Nat.le_of_ble_eq_true rfl) (Nat.le_add_right _ _) (Nat.le_add_right _ _) ?_
                  exact aJx (kX4_worth_153 hX hr hlk hRf hRl h0 h1 ih hG  hf) (And.intro rfl (And.intro rfl (And.intro rfl (And.intro rfl (rfl)))))
                · have hf := ifp hc hf
                  refine j_aload_n hX dX4_worth_118 rfl ?_
                  refine j_iconst hX dX4_worth_119 ic_1 ?_
                  refine j_aload_n hX dX4_worth_120 rfl ?_
                  obtain ⟨v13, i14, hh15, hf⟩ := bd2 hf
                  refine j_cV0i hX lk_X4_93 kX4 dX4_worth_121 h0.1 (okX4_pop hG h0 hh15) rfl rfl (rmm (by omega) hRf hRl (by decide)) (Nat.le_of_ble_eq_true rfl) (Nat.le_add_right _ _) (Nat.le_add_right _ _) ?_
                  refine j_isub hX dX4_worth_124 ?_
                  refine jpc (b := 125) rfl ?_
                  obtain ⟨i16, hh17, hf⟩ := bd1 hf
                  refine j_cV1v hX lk_X4_90 kX4 dX4_worth_125 h0.1 (okX4_push hG h0 hh17) rfl rfl (rmm (by omega) hRf hRl (by decide)) (Nat.le_of_ble_eq_true rfl) (Nat.le_add_right _ _) (Nat.le_add_right _ _) ?_
                  refine j_goto (tgt := 153) hX dX4_worth_128 (by decide) ?_
                  exact aJx (kX4_worth_153 hX hr hlk hRf hRl h0 h1 ih hG  hf) (And.intro rfl (And.intro rfl (And.intro rfl (And.intro rfl (rfl)))))
              · have hf := ifn hc hf
                refine j_aload_n hX dX4_worth_90 rfl ?_
                obtain ⟨v18, i19, hh20, hf⟩ := bd2 hf
                refine j_cV0i hX lk_X4_93 kX4 dX4_worth_91 h0.1 (okX4_pop hG h0 hh20) rfl rfl (rmm (by omega) hRf hRl (by decide)) (Nat.le_of_ble_eq_true rfl) (Nat.le_add_right _ _) (Nat.le_add_right _ _) ?_
                refine j_if_ne (tgt := 106) hX dX4_worth_94 (by decide) (fun hc => ?_) (fun hc => ?_)
                · have hf := ifn hc hf
                  refine j_iload_n hX dX4_worth_106 rfl ?_
                  exact aJx (kX4_worth_107 hX hr hlk hRf hRl h0 h1 ih hG  hf) (And.intro rfl (And.intro rfl (And.intro rfl (rfl))))
                · have hf := ifp hc hf
                  refine j_sipush hX dX4_worth_97 sp_m1000 ?_
                  refine j_iload hX dX4_worth_100 rfl ?_
                  refine j_isub hX dX4_worth_102 ?_
                  refine j_goto (tgt := 107) hX dX4_worth_103 (by decide) ?_
                  exact aJx (kX4_worth_107 hX hr hlk hRf hRl h0 h1 ih hG  hf) (And.intro rfl (And.intro rfl (And.intro rfl (rfl))))
            · have hf := ifp hc hf
              refine j_aload_n hX dX4_worth_77 rfl ?_
              obtain ⟨v21, i22, hh23, hf⟩ := bd2 hf
              refine j_cV0i hX lk_X4_93 kX4 dX4_worth_78 h0.1 (okX4_pop hG h0 hh23) rfl rfl (rmm (by omega) hRf hRl (by decide)) (Nat.le_of_ble_eq_true rfl) (Nat.le_add_right _ _) (Nat.le_add_right _ _) ?_
              cases hf
              exact j_ret hX hr hlk rfl dX4_worth_81
          · have hf := ifn hc hf
            refine j_aload_n hX dX4_worth_57 rfl ?_
            refine j_aload_n hX dX4_worth_58 rfl ?_
            refine j_iconst hX dX4_worth_59 ic_m1 ?_
            refine j_iload hX dX4_worth_60 rfl ?_
            refine j_isub hX dX4_worth_62 ?_
            refine jpc (b := 63) rfl ?_
            obtain ⟨hg, hf⟩ := gd hf
            refine j_iald hX h1 hg dX4_worth_63 ?_
            obtain ⟨i24, hh25, hf⟩ := bd1 hf
            refine j_cV1v hX lk_X4_90 kX4 dX4_worth_64 h0.1 (okX4_push hG h0 hh25) rfl rfl (rmm (by omega) hRf hRl (by decide)) (Nat.le_of_ble_eq_true rfl) (Nat.le_add_right _ _) (Nat.le_add_right _ _) ?_
            refine j_goto (tgt := 153) hX dX4_worth_67 (by decide) ?_
            exact aJx (kX4_worth_153 hX hr hlk hRf hRl h0 h1 ih hG  hf) (And.intro rfl (And.intro rfl (And.intro rfl (And.intro rfl (rfl)))))
        · have hf := ifn hc hf
          refine j_aload_n hX dX4_worth_41 rfl ?_
          refine j_iload hX dX4_worth_42 rfl ?_
          obtain ⟨i26, hh27, hf⟩ := bd1 hf
          refine j_cV1v hX lk_X4_90 kX4 dX4_worth_44 h0.1 (okX4_push hG h0 hh27) rfl rfl (rmm (by omega) hRf hRl (by decide)) (Nat.le_of_ble_eq_true rfl) (Nat.le_add_right _ _) (Nat.le_add_right _ _) ?_
          refine j_goto (tgt := 153) hX dX4_worth_47 (by decide) ?_
          exact aJx (kX4_worth_153 hX hr hlk hRf hRl h0 h1 ih hG  hf) (And.intro rfl (And.intro rfl (And.intro rfl (And.intro rfl (rfl)))))
def fX4_worth (p0 : Nat) (w1 : Nat) (n1 : Nat) (i : Nat → Nat → Int32) : Option ((Int32) × (Nat → Nat → Int32)) := lt (u2 i p0 3 0) fun i1 =>
    fX4_worth_9 p0 w1 n1 fuel 0 0 i1
theorem kX4_worth  {p0 : Nat} {w1 : Nat} {n1 : Nat} {vR : Int32} {iR : Nat → Nat → Int32} (hX : aX p s m args c RX4 cX4_worth 6 D cA A ad0) (hr : meth.sig.returnType = (some .int)) (hlk : meth.locks = false) (hRf : 2 ≤ R.frames) (hRl : 64 * 2 ≤ R.locals) (h0 : isLaw sh rv p0) (h1 : sh[w1]? = some (.inl (.int, n1))) (hG : aGood sh rv) (hf : fX4_worth p0 w1 n1 i = some (vR, iR)) : aJ p l e R s m args below meth c (MQ below (aPost D cA ad0 A (sh, i0, lo0, rv0) (some (.int vR)) (sh, iR, lo, rv)) args s (sh.length - sh.length) (aSn sh - aSn sh) A) D cA A ad0 6 sh.length (aSn sh) 0 [some (.ref (100 + p0)), some (.ref (100 + w1)), none, none, none, none] [] (sh, i, lo, rv) := by
  unfold fX4_worth at hf
  refine j_aload_n hX dX4_worth_0 rfl ?_
  refine j_iconst hX dX4_worth_1 ic_0 ?_
  have hf := ltd hf
  refine j_putI (k := 3) hX kX4 (by decide) fk_X4_87 dX4_worth_2 h0.1 rfl rfl rfl rfl ?_
  refine j_iconst hX dX4_worth_5 ic_0 ?_
  refine j_istore_n hX dX4_worth_6 (by decide) rfl ?_
  refine jpc (b := 7) rfl ?_
  refine j_iconst hX dX4_worth_7 ic_0 ?_
  refine j_istore_n hX dX4_worth_8 (by decide) rfl ?_
  exact aJx (kX4_worth_9 hX hr hlk hRf hRl h0 h1 fuel _ _ _ hG  hf) (And.intro rfl (And.intro rfl (And.intro rfl (And.intro rfl (rfl)))))
theorem okX4_worth {l : Launch} {sh : List aSh} {i : Nat → Nat → Int32} {lo : Nat → Nat → Int64} {rv : Nat → Nat → Option Nat}  {p0 : Nat} {w1 : Nat} {n1 : Nat} {vR : Int32} {iR : Nat → Nat → Int32} (hG : aGood sh rv) (h0 : isLaw sh rv p0) (h1 : sh[w1]? = some (.inl (.int, n1))) (hf : fX4_worth p0 w1 n1 i = some (vR, iR)) : aM l yX4_worth cX4_worth 6 (some .int) 2 [.ref (100 + p0), .ref (100 + w1)] (sh, i, lo, rv) (some (.int vR)) (sh, iR, lo, rv) :=
  aM_of (by decide) (Nat.le_of_ble_eq_true rfl) (Nat.le_refl _) (Nat.le_refl _) (fun p e s m args below meth c D cA A ad0 hX hr hlk hnm => kX4_worth hX hr hlk (Nat.le_refl _) (Nat.le_refl _) h0 h1 hG hf)
def fX3_lossOf_106 (p1 : Nat) (x6 : Int32) (i : Nat → Nat → Int32) (rv : Nat → Nat → Option Nat) : Option ((Int32) × (Nat → Nat → Int32)) := some ((if (0 : Int32) < (if x6 < (99 : Int32) then x6 else (99 : Int32)) then (if x6 < (99 : Int32) then x6 else (99 : Int32)) else (0 : Int32)), i)
theorem kX3_lossOf_106  {p1 : Nat} {vR : Int32} {iR : Nat → Nat → Int32} (hX : aX p s m args c RX3 cX3_lossOf 7 D cA A ad0) (hr : meth.sig.returnType = (some .int)) (hlk : meth.locks = false) (hRf : 3 ≤ R.frames) (hRl : 64 * 3 ≤ R.locals) (h1 : isScn sh rv p1) {x6 : Int32} (hG : aGood sh rv) (hf : fX3_lossOf_106 p1 x6 i rv = some (vR, iR)) : aJ p l e R s m args below meth c (MQ below (aPost D cA ad0 A (sh, i0, lo0, rv0) (some (.int vR)) (sh, iR, lo, rv)) args s (sh.length - sh.length) (aSn sh - aSn sh) A) D cA A ad0 7 sh.length (aSn sh) 106 [none, none, none, none, none, none, some (.int x6)] [] (sh, i, lo, rv) := by
  unfold fX3_lossOf_106 at hf
  refine j_iconst hX dX3_lossOf_106 ic_0 ?_
  refine j_bipush hX dX3_lossOf_107 bp_99 ?_
  refine j_iload hX dX3_lossOf_109 rfl ?_
  refine j_min hX lk_X3_66 dX3_lossOf_111 ⟨by omega, Nat.le_trans (Nat.le_of_ble_eq_true rfl) hRl⟩ (Nat.le_add_right _ _) (Nat.le_add_right _ _) ?_
  refine j_max hX lk_X3_71 dX3_lossOf_114 ⟨by omega, Nat.le_trans (Nat.le_of_ble_eq_true rfl) hRl⟩ (Nat.le_add_right _ _) (Nat.le_add_right _ _) ?_
  refine jpc (b := 117) rfl ?_
  cases hf
  exact j_ret hX hr hlk rfl dX3_lossOf_117
def fX3_lossOf (p1 : Nat) (a2 : Int32) (a3 : Int32) (a4 : Int32) (i : Nat → Nat → Int32) (rv : Nat → Nat → Option Nat) : Option ((Int32) × (Nat → Nat → Int32)) := bn1 (fX1_ofSleeper 15 a2 2 i) fun v1 =>
    bn1 (fX8_timesWoken p1 a2 i) fun v3 =>
    lt ((v1 + (5 : Int32)) + ((5 : Int32) * v3)) fun t5 =>
    mO (rv 23 2) (fX3_lossOf_106 p1 t5 i rv) fun r6 => (if aIn 0 6 = true then
    (lt (u2 i 24 (0 : Int32).toNatClampNeg v1) fun i8 => bn1 (fX8_timesWoken p1 a2 i8) fun v9 =>
    if aIn 1 6 = true then
    (lt (u2 i8 24 (1 : Int32).toNatClampNeg v9) fun i11 => if aIn 2 6 = true then
    (lt (u2 i11 24 (2 : Int32).toNatClampNeg a3) fun i12 => bn1 (fX1_ofSleeper 15 a2 5 i12) fun v13 =>
    if aIn 3 6 = true then
    (lt (u2 i12 24 (3 : Int32).toNatClampNeg v13) fun i15 => if aIn 4 6 = true then
    (lt (u2 i15 24 (4 : Int32).toNatClampNeg a4) fun i16 => bn1 (fX3_snoresBeside p1 a2 i16) fun v17 =>
    if aIn 5 6 = true then
    (lt (u2 i16 24 (5 : Int32).toNatClampNeg v17) fun i19 => bn2 (fX4_worth (r6 - 100) 24 6 i19) fun v20 i21 =>
    fX3_lossOf_106 p1 v20 i21 rv) else none) else none) else none) else none) else none) else none)
theorem kX3_lossOf  {p1 : Nat} {vR : Int32} {iR : Nat → Nat → Int32} (hX : aX p s m args c RX3 cX3_lossOf 7 D cA A ad0) (hr : meth.sig.returnType = (some .int)) (hlk : meth.locks = false) (hRf : 3 ≤ R.frames) (hRl : 64 * 3 ≤ R.locals) (h1 : isScn sh rv p1) {a2 : Int32} {a3 : Int32} {a4 : Int32} (hG : aGood sh rv) (hf : fX3_lossOf p1 a2 a3 a4 i rv = some (vR, iR)) : aJ p l e R s m args below meth c (MQ below (aPost D cA ad0 A (sh, i0, lo0, rv0) (some (.int vR)) (sh, iR, lo, rv)) args s (sh.length - sh.length) (aSn sh - aSn sh) A) D cA A ad0 7 sh.length (aSn sh) 0 [some (.ref (100 + 23)), some (.ref (100 + p1)), some (.int a2), some (.int a3), some (.int a4), none, none] [] (sh, i, lo, rv) := by
  unfold fX3_lossOf at hf
  refine j_aload_n hX dX3_lossOf_0 rfl ?_
  refine j_getR (k := 0) hX kX3 (by decide) fk_X3_17 (rf_23_0 hG) dX3_lossOf_1 (sh_23 hG) rfl ?_
  refine j_iload_n hX dX3_lossOf_4 rfl ?_
  refine j_iconst hX dX3_lossOf_5 ic_2 ?_
  obtain ⟨v1, hh2, hf⟩ := bd1 hf
  refine j_cV2i hX lk_X3_52 kX1 dX3_lossOf_6 (sh_15 hG) (okX1_ofSleeper hG (cr_15 hG) hh2) rfl rfl (rmm (by omega) hRf hRl (by decide)) (Nat.le_of_ble_eq_true rfl) (Nat.le_add_right _ _) (Nat.le_add_right _ _) ?_
  refine jpc (b := 9) rfl ?_
  refine j_istore hX dX3_lossOf_9 (by decide) rfl ?_
  refine j_iload hX dX3_lossOf_11 rfl ?_
  refine j_iconst hX dX3_lossOf_13 ic_5 ?_
  refine j_iadd hX dX3_lossOf_14 ?_
  refine j_iconst hX dX3_lossOf_15 ic_5 ?_
  refine j_aload_n hX dX3_lossOf_16 rfl ?_
  refine jpc (b := 17) rfl ?_
  refine j_iload_n hX dX3_lossOf_17 rfl ?_
  obtain ⟨v3, hh4, hf⟩ := bd1 hf
  refine j_cV1i hX lk_X3_56 kX8 dX3_lossOf_18 h1.1 (okX8_timesWoken hG h1 hh4) rfl rfl (rmm (by omega) hRf hRl (by decide)) (Nat.le_of_ble_eq_true rfl) (Nat.le_add_right _ _) (Nat.le_add_right _ _) ?_
  refine j_imul hX dX3_lossOf_21 ?_
  refine j_iadd hX dX3_lossOf_22 ?_
  have hf := ltd hf
  refine j_istore hX dX3_lossOf_23 (by decide) rfl ?_
  refine j_aload_n hX dX3_lossOf_25 rfl ?_
  refine jpc (b := 26) rfl ?_
  rcases hqb7 : (rv 23 2) with _ | r6
  · rw [hqb7] at hf
    have hf := mO_n hf
    refine j_getN (k := 2) hX kX3 (by decide) fk_X3_21 hqb7 dX3_lossOf_26 (sh_23 hG) rfl ?_
    refine j_ifnullN (tgt := 106) hX dX3_lossOf_29 (by decide) ?_
    exact aJx (kX3_lossOf_106 hX hr hlk hRf hRl h1 hG  hf) (And.intro rfl (rfl))
  · rw [hqb7] at hf
    have hf := mO_s hf
    obtain ⟨eb7, hLb7⟩ := hG.2.2.1 r6 hqb7
    refine j_getR (k := 2) hX kX3 (by decide) fk_X3_21 (hqb7.trans (congrArg some eb7)) dX3_lossOf_26 (sh_23 hG) rfl ?_
    refine j_ifnull hX dX3_lossOf_29 ?_
    refine j_aload_n hX dX3_lossOf_32 rfl ?_
    refine j_getR (k := 1) hX kX3 (by decide) fk_X3_11 (rf_23_1 hG) dX3_lossOf_33 (sh_23 hG) rfl ?_
    refine j_iconst hX dX3_lossOf_36 ic_0 ?_
    refine j_iload hX dX3_lossOf_37 rfl ?_
    refine jpc (b := 39) rfl ?_
    obtain ⟨hg, hf⟩ := gd hf
    have hf := ltd hf
    refine j_iast hX (sh_24 hG) hg dX3_lossOf_39 ?_
    refine j_aload_n hX dX3_lossOf_40 rfl ?_
    refine j_getR (k := 1) hX kX3 (by decide) fk_X3_11 (rf_23_1 hG) dX3_lossOf_41 (sh_23 hG) rfl ?_
    refine j_iconst hX dX3_lossOf_44 ic_1 ?_
    refine j_aload_n hX dX3_lossOf_45 rfl ?_
    refine j_iload_n hX dX3_lossOf_46 rfl ?_
    refine jpc (b := 47) rfl ?_
    obtain ⟨v9, hh10, hf⟩ := bd1 hf
    refine j_cV1i hX lk_X3_56 kX8 dX3_lossOf_47 h1.1 (okX8_timesWoken hG h1 hh10) rfl rfl (rmm (by omega) hRf hRl (by decide)) (Nat.le_of_ble_eq_true rfl) (Nat.le_add_right _ _) (Nat.le_add_right _ _) ?_
    obtain ⟨hg, hf⟩ := gd hf
    have hf := ltd hf
    refine j_iast hX (sh_24 hG) hg dX3_lossOf_50 ?_
    refine j_aload_n hX dX3_lossOf_51 rfl ?_
    refine j_getR (k := 1) hX kX3 (by decide) fk_X3_11 (rf_23_1 hG) dX3_lossOf_52 (sh_23 hG) rfl ?_
    refine j_iconst hX dX3_lossOf_55 ic_2 ?_
    refine j_iload_n hX dX3_lossOf_56 rfl ?_
    obtain ⟨hg, hf⟩ := gd hf
    have hf := ltd hf
    refine j_iast hX (sh_24 hG) hg dX3_lossOf_57 ?_
    refine j_aload_n hX dX3_lossOf_58 rfl ?_
    refine j_getR (k := 1) hX kX3 (by decide) fk_X3_11 (rf_23_1 hG) dX3_lossOf_59 (sh_23 hG) rfl ?_
    refine j_iconst hX dX3_lossOf_62 ic_3 ?_
    refine j_aload_n hX dX3_lossOf_63 rfl ?_
    refine j_getR (k := 0) hX kX3 (by decide) fk_X3_17 (rf_23_0 hG) dX3_lossOf_64 (sh_23 hG) rfl ?_
    refine jpc (b := 67) rfl ?_
    refine j_iload_n hX dX3_lossOf_67 rfl ?_
    refine j_iconst hX dX3_lossOf_68 ic_5 ?_
    obtain ⟨v13, hh14, hf⟩ := bd1 hf
    refine j_cV2i hX lk_X3_52 kX1 dX3_lossOf_69 (sh_15 hG) (okX1_ofSleeper hG (cr_15 hG) hh14) rfl rfl (rmm (by omega) hRf hRl (by decide)) (Nat.le_of_ble_eq_true rfl) (Nat.le_add_right _ _) (Nat.le_add_right _ _) ?_
    obtain ⟨hg, hf⟩ := gd hf
    have hf := ltd hf
    refine j_iast hX (sh_24 hG) hg dX3_lossOf_72 ?_
    refine j_aload_n hX dX3_lossOf_73 rfl ?_
    refine j_getR (k := 1) hX kX3 (by decide) fk_X3_11 (rf_23_1 hG) dX3_lossOf_74 (sh_23 hG) rfl ?_
    refine j_iconst hX dX3_lossOf_77 ic_4 ?_
    refine j_iload hX dX3_lossOf_78 rfl ?_
    obtain ⟨hg, hf⟩ := gd hf
    have hf := ltd hf
    refine j_iast hX (sh_24 hG) hg dX3_lossOf_80 ?_
    refine j_aload_n hX dX3_lossOf_81 rfl ?_
    refine j_getR (k := 1) hX kX3 (by decide) fk_X3_11 (rf_23_1 hG) dX3_lossOf_82 (sh_23 hG) rfl ?_
    refine j_iconst hX dX3_lossOf_85 ic_5 ?_
    refine j_aload_n hX dX3_lossOf_86 rfl ?_
    refine j_aload_n hX dX3_lossOf_87 rfl ?_
    refine jpc (b := 88) rfl ?_
    refine j_iload_n hX dX3_lossOf_88 rfl ?_
    obtain ⟨v17, hh18, hf⟩ := bd1 hf
    refine j_cV2i hX lk_X3_59 kX3 dX3_lossOf_89 (sh_23 hG) (okX3_snoresBeside hG h1 hh18) rfl rfl (rmm (by omega) hRf hRl (by decide)) (Nat.le_of_ble_eq_true rfl) (Nat.le_add_right _ _) (Nat.le_add_right _ _) ?_
    obtain ⟨hg, hf⟩ := gd hf
    have hf := ltd hf
    refine j_iast hX (sh_24 hG) hg dX3_lossOf_92 ?_
    refine j_aload_n hX dX3_lossOf_93 rfl ?_
    refine j_getR (k := 2) hX kX3 (by decide) fk_X3_21 (hqb7.trans (congrArg some eb7)) dX3_lossOf_94 (sh_23 hG) rfl ?_
    refine j_aload_n hX dX3_lossOf_97 rfl ?_
    refine j_getR (k := 1) hX kX3 (by decide) fk_X3_11 (rf_23_1 hG) dX3_lossOf_98 (sh_23 hG) rfl ?_
    obtain ⟨v20, i21, hh22, hf⟩ := bd2 hf
    refine j_cV1i hX lk_X3_62 kX4 dX3_lossOf_101 hLb7.1 (okX4_worth hG hLb7 (sh_24 hG) hh22) rfl rfl (rmm (by omega) hRf hRl (by decide)) (Nat.le_of_ble_eq_true rfl) (Nat.le_add_right _ _) (Nat.le_add_right _ _) ?_
    refine jpc (b := 104) rfl ?_
    refine j_istore hX dX3_lossOf_104 (by decide) rfl ?_
    exact aJx (kX3_lossOf_106 hX hr hlk hRf hRl h1 hG  hf) (And.intro rfl (rfl))
theorem okX3_lossOf {l : Launch} {sh : List aSh} {i : Nat → Nat → Int32} {lo : Nat → Nat → Int64} {rv : Nat → Nat → Option Nat}  {p1 : Nat} {a2 : Int32} {a3 : Int32} {a4 : Int32} {vR : Int32} {iR : Nat → Nat → Int32} (hG : aGood sh rv) (h1 : isScn sh rv p1) (hf : fX3_lossOf p1 a2 a3 a4 i rv = some (vR, iR)) : aM l yX3_lossOf cX3_lossOf 7 (some .int) 3 [.ref (100 + 23), .ref (100 + p1), .int a2, .int a3, .int a4] (sh, i, lo, rv) (some (.int vR)) (sh, iR, lo, rv) :=
  aM_of (by decide) (Nat.le_of_ble_eq_true rfl) (Nat.le_refl _) (Nat.le_refl _) (fun p e s m args below meth c D cA A ad0 hX hr hlk hnm => kX3_lossOf hX hr hlk (Nat.le_refl _) (Nat.le_refl _) h1 hG hf)
def fX3_lossByHand (p1 : Nat) (a2 : Int32) (i : Nat → Nat → Int32) (rv : Nat → Nat → Option Nat) : Option ((Int32) × (Nat → Nat → Int32)) := bn2 (fX3_lossOf p1 a2 0 9 i rv) fun v1 i2 =>
    some (v1, i2)
theorem kX3_lossByHand  {p1 : Nat} {vR : Int32} {iR : Nat → Nat → Int32} (hX : aX p s m args c RX3 cX3_lossByHand 3 D cA A ad0) (hr : meth.sig.returnType = (some .int)) (hlk : meth.locks = false) (hRf : 4 ≤ R.frames) (hRl : 64 * 4 ≤ R.locals) (h1 : isScn sh rv p1) {a2 : Int32} (hG : aGood sh rv) (hf : fX3_lossByHand p1 a2 i rv = some (vR, iR)) : aJ p l e R s m args below meth c (MQ below (aPost D cA ad0 A (sh, i0, lo0, rv0) (some (.int vR)) (sh, iR, lo, rv)) args s (sh.length - sh.length) (aSn sh - aSn sh) A) D cA A ad0 3 sh.length (aSn sh) 0 [some (.ref (100 + 23)), some (.ref (100 + p1)), some (.int a2)] [] (sh, i, lo, rv) := by
  unfold fX3_lossByHand at hf
  refine j_aload_n hX dX3_lossByHand_0 rfl ?_
  refine j_aload_n hX dX3_lossByHand_1 rfl ?_
  refine j_iload_n hX dX3_lossByHand_2 rfl ?_
  refine j_iconst hX dX3_lossByHand_3 ic_0 ?_
  refine j_bipush hX dX3_lossByHand_4 bp_9 ?_
  refine jpc (b := 6) rfl ?_
  obtain ⟨v1, i2, hh3, hf⟩ := bd2 hf
  refine j_cV4i hX lk_X3_32 kX3 dX3_lossByHand_6 (sh_23 hG) (okX3_lossOf hG h1 hh3) rfl rfl (rmm (by omega) hRf hRl (by decide)) (Nat.le_of_ble_eq_true rfl) (Nat.le_add_right _ _) (Nat.le_add_right _ _) ?_
  cases hf
  exact j_ret hX hr hlk rfl dX3_lossByHand_9
theorem okX3_lossByHand {l : Launch} {sh : List aSh} {i : Nat → Nat → Int32} {lo : Nat → Nat → Int64} {rv : Nat → Nat → Option Nat}  {p1 : Nat} {a2 : Int32} {vR : Int32} {iR : Nat → Nat → Int32} (hG : aGood sh rv) (h1 : isScn sh rv p1) (hf : fX3_lossByHand p1 a2 i rv = some (vR, iR)) : aM l yX3_lossByHand cX3_lossByHand 3 (some .int) 4 [.ref (100 + 23), .ref (100 + p1), .int a2] (sh, i, lo, rv) (some (.int vR)) (sh, iR, lo, rv) :=
  aM_of (by decide) (Nat.le_of_ble_eq_true rfl) (Nat.le_refl _) (Nat.le_refl _) (fun p e s m args below meth c D cA A ad0 hX hr hlk hnm => kX3_lossByHand hX hr hlk (Nat.le_refl _) (Nat.le_refl _) h1 hG hf)
def fX8_rouse (p0 : Nat) (a1 : Int32) (a2 : Int32) (i : Nat → Nat → Int32) : Option ((Nat → Nat → Int32)) := if aIn ((27 : Int32) + a1) 56 = true then
    (lt (u2 i (p0 + 1) (((27 : Int32) + a1) : Int32).toNatClampNeg 0) fun i1 => if aIn ((36 : Int32) + a1) 56 = true then
    (if aIn ((36 : Int32) + a1) 56 = true then
    (lt (u2 i1 (p0 + 1) (((36 : Int32) + a1) : Int32).toNatClampNeg ((i1 (p0 + 1) (((36 : Int32) + a1) : Int32).toNatClampNeg) + (1 : Int32))) fun i2 => if aIn ((45 : Int32) + a1) 56 = true then
    (if aIn ((45 : Int32) + a1) 56 = true then
    (lt (u2 i2 (p0 + 1) (((45 : Int32) + a1) : Int32).toNatClampNeg ((i2 (p0 + 1) (((45 : Int32) + a1) : Int32).toNatClampNeg) + a2)) fun i3 => some (i3)) else none) else none) else none) else none) else none
theorem kX8_rouse  {p0 : Nat} {iR : Nat → Nat → Int32} (hX : aX p s m args c RX8 cX8_rouse 3 D cA A ad0) (hr : meth.sig.returnType = none) (hlk : meth.locks = false) (hRf : 0 ≤ R.frames) (hRl : 64 * 0 ≤ R.locals) (h0 : isScn sh rv p0) {a1 : Int32} {a2 : Int32} (hG : aGood sh rv) (hf : fX8_rouse p0 a1 a2 i = some (iR)) : aJ p l e R s m args below meth c (MQ below (aPost D cA ad0 A (sh, i0, lo0, rv0) none (sh, iR, lo, rv)) args s (sh.length - sh.length) (aSn sh - aSn sh) A) D cA A ad0 3 sh.length (aSn sh) 0 [some (.ref (100 + p0)), some (.int a1), some (.int a2)] [] (sh, i, lo, rv) := by
  unfold fX8_rouse at hf
  refine j_aload_n hX dX8_rouse_0 rfl ?_
  refine j_getR (k := 0) hX kX8 (by decide) fk_X8_11 h0.2.2 dX8_rouse_1 h0.1 rfl ?_
  refine j_bipush hX dX8_rouse_4 bp_27 ?_
  refine j_iload_n hX dX8_rouse_6 rfl ?_
  refine j_iadd hX dX8_rouse_7 ?_
  refine jpc (b := 8) rfl ?_
  refine j_iconst hX dX8_rouse_8 ic_0 ?_
  obtain ⟨hg, hf⟩ := gd hf
  have hf := ltd hf
  refine j_iast hX h0.2.1 hg dX8_rouse_9 ?_
  refine j_aload_n hX dX8_rouse_10 rfl ?_
  refine j_getR (k := 0) hX kX8 (by decide) fk_X8_11 h0.2.2 dX8_rouse_11 h0.1 rfl ?_
  refine j_bipush hX dX8_rouse_14 bp_36 ?_
  refine j_iload_n hX dX8_rouse_16 rfl ?_
  refine j_iadd hX dX8_rouse_17 ?_
  refine jpc (b := 18) rfl ?_
  refine j_dup2 hX dX8_rouse_18 rfl rfl ?_
  obtain ⟨hg, hf⟩ := gd hf
  refine j_iald hX h0.2.1 hg dX8_rouse_19 ?_
  refine j_iconst hX dX8_rouse_20 ic_1 ?_
  refine j_iadd hX dX8_rouse_21 ?_
  obtain ⟨hg, hf⟩ := gd hf
  have hf := ltd hf
  refine j_iast hX h0.2.1 hg dX8_rouse_22 ?_
  refine j_aload_n hX dX8_rouse_23 rfl ?_
  refine j_getR (k := 0) hX kX8 (by decide) fk_X8_11 h0.2.2 dX8_rouse_24 h0.1 rfl ?_
  refine j_bipush hX dX8_rouse_27 bp_45 ?_
  refine j_iload_n hX dX8_rouse_29 rfl ?_
  refine j_iadd hX dX8_rouse_30 ?_
  refine jpc (b := 31) rfl ?_
  refine j_dup2 hX dX8_rouse_31 rfl rfl ?_
  obtain ⟨hg, hf⟩ := gd hf
  refine j_iald hX h0.2.1 hg dX8_rouse_32 ?_
  refine j_iload_n hX dX8_rouse_33 rfl ?_
  refine j_iadd hX dX8_rouse_34 ?_
  obtain ⟨hg, hf⟩ := gd hf
  have hf := ltd hf
  refine j_iast hX h0.2.1 hg dX8_rouse_35 ?_
  cases hf
  exact j_vret hX hr hlk dX8_rouse_36
theorem okX8_rouse {l : Launch} {sh : List aSh} {i : Nat → Nat → Int32} {lo : Nat → Nat → Int64} {rv : Nat → Nat → Option Nat}  {p0 : Nat} {a1 : Int32} {a2 : Int32} {iR : Nat → Nat → Int32} (hG : aGood sh rv) (h0 : isScn sh rv p0) (hf : fX8_rouse p0 a1 a2 i = some (iR)) : aM l yX8_rouse cX8_rouse 3 none 0 [.ref (100 + p0), .int a1, .int a2] (sh, i, lo, rv) none (sh, iR, lo, rv) :=
  aM_of (by decide) (Nat.le_of_ble_eq_true rfl) (Nat.le_refl _) (Nat.le_refl _) (fun p e s m args below meth c D cA A ad0 hX hr hlk hnm => kX8_rouse hX hr hlk (Nat.le_refl _) (Nat.le_refl _) h0 hG hf)
def fX3_wakeByHand (p1 : Nat) (a2 : Int32) (i : Nat → Nat → Int32) (rv : Nat → Nat → Option Nat) : Option ((Int32) × (Nat → Nat → Int32)) := bn1 (fX1_hasSleeper 15 a2 i) fun v1 =>
    if v1 = 0 then (some ((-1), i)) else (bn1 (fX8_isAsleep p1 a2 i) fun v3 =>
    if v3 = 0 then (some ((-1), i)) else (bn2 (fX3_lossByHand p1 a2 i rv) fun v5 i6 =>
    bn1 (fX8_rouse p1 a2 v5 i6) fun i8 =>
    some (v5, i8)))
theorem kX3_wakeByHand  {p1 : Nat} {vR : Int32} {iR : Nat → Nat → Int32} (hX : aX p s m args c RX3 cX3_wakeByHand 4 D cA A ad0) (hr : meth.sig.returnType = (some .int)) (hlk : meth.locks = false) (hRf : 5 ≤ R.frames) (hRl : 64 * 5 ≤ R.locals) (h1 : isScn sh rv p1) {a2 : Int32} (hG : aGood sh rv) (hf : fX3_wakeByHand p1 a2 i rv = some (vR, iR)) : aJ p l e R s m args below meth c (MQ below (aPost D cA ad0 A (sh, i0, lo0, rv0) (some (.int vR)) (sh, iR, lo, rv)) args s (sh.length - sh.length) (aSn sh - aSn sh) A) D cA A ad0 4 sh.length (aSn sh) 0 [some (.ref (100 + 23)), some (.ref (100 + p1)), some (.int a2), none] [] (sh, i, lo, rv) := by
  unfold fX3_wakeByHand at hf
  refine j_aload_n hX dX3_wakeByHand_0 rfl ?_
  refine j_getR (k := 0) hX kX3 (by decide) fk_X3_17 (rf_23_0 hG) dX3_wakeByHand_1 (sh_23 hG) rfl ?_
  refine j_iload_n hX dX3_wakeByHand_4 rfl ?_
  obtain ⟨v1, hh2, hf⟩ := bd1 hf
  refine j_cV1i hX lk_X3_164 kX1 dX3_wakeByHand_5 (sh_15 hG) (okX1_hasSleeper hG (cr_15 hG) hh2) rfl rfl (rmm (by omega) hRf hRl (by decide)) (Nat.le_of_ble_eq_true rfl) (Nat.le_add_right _ _) (Nat.le_add_right _ _) ?_
  refine j_if_eq (tgt := 19) hX dX3_wakeByHand_8 (by decide) (fun hc => ?_) (fun hc => ?_)
  · have hf := ifp hc hf
    refine j_iconst hX dX3_wakeByHand_19 ic_m1 ?_
    cases hf
    exact j_ret hX hr hlk rfl dX3_wakeByHand_20
  · have hf := ifn hc hf
    refine j_aload_n hX dX3_wakeByHand_11 rfl ?_
    refine j_iload_n hX dX3_wakeByHand_12 rfl ?_
    obtain ⟨v3, hh4, hf⟩ := bd1 hf
    refine j_cV1i hX lk_X3_88 kX8 dX3_wakeByHand_13 h1.1 (okX8_isAsleep hG h1 hh4) rfl rfl (rmm (by omega) hRf hRl (by decide)) (Nat.le_of_ble_eq_true rfl) (Nat.le_add_right _ _) (Nat.le_add_right _ _) ?_
    refine j_if_ne (tgt := 21) hX dX3_wakeByHand_16 (by decide) (fun hc => ?_) (fun hc => ?_)
    · have hf := ifn hc hf
      refine j_aload_n hX dX3_wakeByHand_21 rfl ?_
      refine j_aload_n hX dX3_wakeByHand_22 rfl ?_
      refine j_iload_n hX dX3_wakeByHand_23 rfl ?_
      obtain ⟨v5, i6, hh7, hf⟩ := bd2 hf
      refine j_cV2i hX lk_X3_48 kX3 dX3_wakeByHand_24 (sh_23 hG) (okX3_lossByHand hG h1 hh7) rfl rfl (rmm (by omega) hRf hRl (by decide)) (Nat.le_of_ble_eq_true rfl) (Nat.le_add_right _ _) (Nat.le_add_right _ _) ?_
      refine j_istore_n hX dX3_wakeByHand_27 (by decide) rfl ?_
      refine jpc (b := 28) rfl ?_
      refine j_aload_n hX dX3_wakeByHand_28 rfl ?_
      refine j_iload_n hX dX3_wakeByHand_29 rfl ?_
      refine j_iload_n hX dX3_wakeByHand_30 rfl ?_
      obtain ⟨i8, hh9, hf⟩ := bd1 hf
      refine j_cV2v hX lk_X3_111 kX8 dX3_wakeByHand_31 h1.1 (okX8_rouse hG h1 hh9) rfl rfl (rmm (by omega) hRf hRl (by decide)) (Nat.le_of_ble_eq_true rfl) (Nat.le_add_right _ _) (Nat.le_add_right _ _) ?_
      refine j_iload_n hX dX3_wakeByHand_34 rfl ?_
      cases hf
      exact j_ret hX hr hlk rfl dX3_wakeByHand_35
    · have hf := ifp hc hf
      refine j_iconst hX dX3_wakeByHand_19 ic_m1 ?_
      cases hf
      exact j_ret hX hr hlk rfl dX3_wakeByHand_20
theorem okX3_wakeByHand {l : Launch} {sh : List aSh} {i : Nat → Nat → Int32} {lo : Nat → Nat → Int64} {rv : Nat → Nat → Option Nat}  {p1 : Nat} {a2 : Int32} {vR : Int32} {iR : Nat → Nat → Int32} (hG : aGood sh rv) (h1 : isScn sh rv p1) (hf : fX3_wakeByHand p1 a2 i rv = some (vR, iR)) : aM l yX3_wakeByHand cX3_wakeByHand 4 (some .int) 5 [.ref (100 + 23), .ref (100 + p1), .int a2] (sh, i, lo, rv) (some (.int vR)) (sh, iR, lo, rv) :=
  aM_of (by decide) (Nat.le_of_ble_eq_true rfl) (Nat.le_refl _) (Nat.le_refl _) (fun p e s m args below meth c D cA A ad0 hX hr hlk hnm => kX3_wakeByHand hX hr hlk (Nat.le_refl _) (Nat.le_refl _) h1 hG hf)
def fX8_layDown (p0 : Nat) (a1 : Int32) (i : Nat → Nat → Int32) : Option ((Nat → Nat → Int32)) := if aIn ((27 : Int32) + a1) 56 = true then
    (lt (u2 i (p0 + 1) (((27 : Int32) + a1) : Int32).toNatClampNeg 1) fun i1 => some (i1)) else none
theorem kX8_layDown  {p0 : Nat} {iR : Nat → Nat → Int32} (hX : aX p s m args c RX8 cX8_layDown 2 D cA A ad0) (hr : meth.sig.returnType = none) (hlk : meth.locks = false) (hRf : 0 ≤ R.frames) (hRl : 64 * 0 ≤ R.locals) (h0 : isScn sh rv p0) {a1 : Int32} (hG : aGood sh rv) (hf : fX8_layDown p0 a1 i = some (iR)) : aJ p l e R s m args below meth c (MQ below (aPost D cA ad0 A (sh, i0, lo0, rv0) none (sh, iR, lo, rv)) args s (sh.length - sh.length) (aSn sh - aSn sh) A) D cA A ad0 2 sh.length (aSn sh) 0 [some (.ref (100 + p0)), some (.int a1)] [] (sh, i, lo, rv) := by
  unfold fX8_layDown at hf
  refine j_aload_n hX dX8_layDown_0 rfl ?_
  refine j_getR (k := 0) hX kX8 (by decide) fk_X8_11 h0.2.2 dX8_layDown_1 h0.1 rfl ?_
  refine j_bipush hX dX8_layDown_4 bp_27 ?_
  refine j_iload_n hX dX8_layDown_6 rfl ?_
  refine j_iadd hX dX8_layDown_7 ?_
  refine jpc (b := 8) rfl ?_
  refine j_iconst hX dX8_layDown_8 ic_1 ?_
  obtain ⟨hg, hf⟩ := gd hf
  have hf := ltd hf
  refine j_iast hX h0.2.1 hg dX8_layDown_9 ?_
  cases hf
  exact j_vret hX hr hlk dX8_layDown_10
theorem okX8_layDown {l : Launch} {sh : List aSh} {i : Nat → Nat → Int32} {lo : Nat → Nat → Int64} {rv : Nat → Nat → Option Nat}  {p0 : Nat} {a1 : Int32} {iR : Nat → Nat → Int32} (hG : aGood sh rv) (h0 : isScn sh rv p0) (hf : fX8_layDown p0 a1 i = some (iR)) : aM l yX8_layDown cX8_layDown 2 none 0 [.ref (100 + p0), .int a1] (sh, i, lo, rv) none (sh, iR, lo, rv) :=
  aM_of (by decide) (Nat.le_of_ble_eq_true rfl) (Nat.le_refl _) (Nat.le_refl _) (fun p e s m args below meth c D cA A ad0 hX hr hlk hnm => kX8_layDown hX hr hlk (Nat.le_refl _) (Nat.le_refl _) h0 hG hf)
def fX8_sumFrom_4 (p0 : Nat) : Nat → Int32 → Int32 → Int32 → (Nat → Nat → Int32) → Option ((Int32))
  | 0, _, _, _, _ => none
  | n + 1, x1, x2, x3, i => if 9 ≤ x3 then (some (x2)) else (if aIn (x1 + x3) 56 = true then
    (lt (x2 + (i (p0 + 1) ((x1 + x3) : Int32).toNatClampNeg)) fun t1 =>
    fX8_sumFrom_4 p0 n x1 t1 (x3 + 1) i) else none)
theorem kX8_sumFrom_4  {p0 : Nat} {vR : Int32} (hX : aX p s m args c RX8 cX8_sumFrom 4 D cA A ad0) (hr : meth.sig.returnType = (some .int)) (hlk : meth.locks = false) (hRf : 0 ≤ R.frames) (hRl : 64 * 0 ≤ R.locals) (h0 : isScn sh rv p0) : ∀ (n : Nat) (x1 : Int32) (x2 : Int32) (x3 : Int32), aGood sh rv → fX8_sumFrom_4 p0 n x1 x2 x3 i = some (vR) → aJ p l e R s m args below meth c (MQ below (aPost D cA ad0 A (sh, i0, lo0, rv0) (some (.int vR)) (sh, i, lo, rv)) args s (sh.length - sh.length) (aSn sh - aSn sh) A) D cA A ad0 4 sh.length (aSn sh) 4 [some (.ref (100 + p0)), some (.int x1), some (.int x2), some (.int x3)] [] (sh, i, lo, rv) := by
  intro n
  induction n with
  | zero => intros; rename_i hf; cases hf
  | succ n ih =>
    intro x1 x2 x3 hG hf
    rw [fX8_sumFrom_4] at hf
    refine j_iload_n hX dX8_sumFrom_4 rfl ?_
    refine j_bipush hX dX8_sumFrom_5 bp_9 ?_
    refine j_icmp_ge (tgt := 27) hX dX8_sumFrom_7 (by decide) (fun hc => ?_) (fun hc => ?_)
    · have hf := ifp hc hf
      refine j_iload_n hX dX8_sumFrom_27 rfl ?_
      cases hf
      exact j_ret hX hr hlk rfl dX8_sumFrom_28
    · have hf := ifn hc hf
      refine j_iload_n hX dX8_sumFrom_10 rfl ?_
      refine j_aload_n hX dX8_sumFrom_11 rfl ?_
      refine j_getR (k := 0) hX kX8 (by decide) fk_X8_11 h0.2.2 dX8_sumFrom_12 h0.1 rfl ?_
      refine j_iload_n hX dX8_sumFrom_15 rfl ?_
      refine j_iload_n hX dX8_sumFrom_16 rfl ?_
      refine jpc (b := 17) rfl ?_
      refine j_iadd hX dX8_sumFrom_17 ?_
      obtain ⟨hg, hf⟩ := gd hf
      refine j_iald hX h0.2.1 hg dX8_sumFrom_18 ?_
      refine j_iadd hX dX8_sumFrom_19 ?_
      have hf := ltd hf
      refine j_istore_n hX dX8_sumFrom_20 (by decide) rfl ?_
      refine j_iinc hX dX8_sumFrom_21 rfl (congrArg (_ + ·) ic_1) (by decide) rfl ?_
      refine j_goto (tgt := 4) hX dX8_sumFrom_24 (by decide) ?_
      exact aJx (ih _ _ _ hG  hf) (And.intro rfl (And.intro rfl (And.intro rfl (And.intro rfl (rfl)))))
def fX8_sumFrom (p0 : Nat) (a1 : Int32) (i : Nat → Nat → Int32) : Option ((Int32)) := fX8_sumFrom_4 p0 fuel a1 0 0 i
theorem kX8_sumFrom  {p0 : Nat} {vR : Int32} (hX : aX p s m args c RX8 cX8_sumFrom 4 D cA A ad0) (hr : meth.sig.returnType = (some .int)) (hlk : meth.locks = false) (hRf : 0 ≤ R.frames) (hRl : 64 * 0 ≤ R.locals) (h0 : isScn sh rv p0) {a1 : Int32} (hG : aGood sh rv) (hf : fX8_sumFrom p0 a1 i = some (vR)) : aJ p l e R s m args below meth c (MQ below (aPost D cA ad0 A (sh, i0, lo0, rv0) (some (.int vR)) (sh, i, lo, rv)) args s (sh.length - sh.length) (aSn sh - aSn sh) A) D cA A ad0 4 sh.length (aSn sh) 0 [some (.ref (100 + p0)), some (.int a1), none, none] [] (sh, i, lo, rv) := by
  unfold fX8_sumFrom at hf
  refine j_iconst hX dX8_sumFrom_0 ic_0 ?_
  refine j_istore_n hX dX8_sumFrom_1 (by decide) rfl ?_
  refine j_iconst hX dX8_sumFrom_2 ic_0 ?_
  refine j_istore_n hX dX8_sumFrom_3 (by decide) rfl ?_
  exact aJx (kX8_sumFrom_4 hX hr hlk hRf hRl h0 fuel _ _ _ hG  hf) (And.intro rfl (And.intro rfl (And.intro rfl (And.intro rfl (rfl)))))
theorem okX8_sumFrom {l : Launch} {sh : List aSh} {i : Nat → Nat → Int32} {lo : Nat → Nat → Int64} {rv : Nat → Nat → Option Nat}  {p0 : Nat} {a1 : Int32} {vR : Int32} (hG : aGood sh rv) (h0 : isScn sh rv p0) (hf : fX8_sumFrom p0 a1 i = some (vR)) : aM l yX8_sumFrom cX8_sumFrom 4 (some .int) 0 [.ref (100 + p0), .int a1] (sh, i, lo, rv) (some (.int vR)) (sh, i, lo, rv) :=
  aM_of (by decide) (Nat.le_of_ble_eq_true rfl) (Nat.le_refl _) (Nat.le_refl _) (fun p e s m args below meth c D cA A ad0 hX hr hlk hnm => kX8_sumFrom hX hr hlk (Nat.le_refl _) (Nat.le_refl _) h0 hG hf)
def fX8_asleepInAll (p0 : Nat) (i : Nat → Nat → Int32) : Option ((Int32)) := bn1 (fX8_sumFrom p0 27 i) fun v1 =>
    some (v1)
theorem kX8_asleepInAll  {p0 : Nat} {vR : Int32} (hX : aX p s m args c RX8 cX8_asleepInAll 1 D cA A ad0) (hr : meth.sig.returnType = (some .int)) (hlk : meth.locks = false) (hRf : 1 ≤ R.frames) (hRl : 64 * 1 ≤ R.locals) (h0 : isScn sh rv p0) (hG : aGood sh rv) (hf : fX8_asleepInAll p0 i = some (vR)) : aJ p l e R s m args below meth c (MQ below (aPost D cA ad0 A (sh, i0, lo0, rv0) (some (.int vR)) (sh, i, lo, rv)) args s (sh.length - sh.length) (aSn sh - aSn sh) A) D cA A ad0 1 sh.length (aSn sh) 0 [some (.ref (100 + p0))] [] (sh, i, lo, rv) := by
  unfold fX8_asleepInAll at hf
  refine j_aload_n hX dX8_asleepInAll_0 rfl ?_
  refine j_bipush hX dX8_asleepInAll_1 bp_27 ?_
  obtain ⟨v1, hh2, hf⟩ := bd1 hf
  refine j_cV1i hX lk_X8_46 kX8 dX8_asleepInAll_3 h0.1 (okX8_sumFrom hG h0 hh2) rfl rfl (rmm (by omega) hRf hRl (by decide)) (Nat.le_of_ble_eq_true rfl) (Nat.le_add_right _ _) (Nat.le_add_right _ _) ?_
  cases hf
  exact j_ret hX hr hlk rfl dX8_asleepInAll_6
theorem okX8_asleepInAll {l : Launch} {sh : List aSh} {i : Nat → Nat → Int32} {lo : Nat → Nat → Int64} {rv : Nat → Nat → Option Nat}  {p0 : Nat} {vR : Int32} (hG : aGood sh rv) (h0 : isScn sh rv p0) (hf : fX8_asleepInAll p0 i = some (vR)) : aM l yX8_asleepInAll cX8_asleepInAll 1 (some .int) 1 [.ref (100 + p0)] (sh, i, lo, rv) (some (.int vR)) (sh, i, lo, rv) :=
  aM_of (by decide) (Nat.le_of_ble_eq_true rfl) (Nat.le_refl _) (Nat.le_refl _) (fun p e s m args below meth c D cA A ad0 hX hr hlk hnm => kX8_asleepInAll hX hr hlk (Nat.le_refl _) (Nat.le_refl _) h0 hG hf)
def fX3_lieDown (p1 : Nat) (a2 : Int32) (i : Nat → Nat → Int32) : Option ((Int32) × (Nat → Nat → Int32)) := bn1 (fX1_hasSleeper 15 a2 i) fun v1 =>
    if v1 = 0 then (some ((-1), i)) else (bn1 (fX8_isAsleep p1 a2 i) fun v3 =>
    if v3 = 0 then (bn1 (fX8_layDown p1 a2 i) fun i5 =>
    bn1 (fX8_asleepInAll p1 i5) fun v7 =>
    some (v7, i5)) else (some ((-1), i)))
theorem kX3_lieDown  {p1 : Nat} {vR : Int32} {iR : Nat → Nat → Int32} (hX : aX p s m args c RX3 cX3_lieDown 3 D cA A ad0) (hr : meth.sig.returnType = (some .int)) (hlk : meth.locks = false) (hRf : 2 ≤ R.frames) (hRl : 64 * 2 ≤ R.locals) (h1 : isScn sh rv p1) {a2 : Int32} (hG : aGood sh rv) (hf : fX3_lieDown p1 a2 i = some (vR, iR)) : aJ p l e R s m args below meth c (MQ below (aPost D cA ad0 A (sh, i0, lo0, rv0) (some (.int vR)) (sh, iR, lo, rv)) args s (sh.length - sh.length) (aSn sh - aSn sh) A) D cA A ad0 3 sh.length (aSn sh) 0 [some (.ref (100 + 23)), some (.ref (100 + p1)), some (.int a2)] [] (sh, i, lo, rv) := by
  unfold fX3_lieDown at hf
  refine j_aload_n hX dX3_lieDown_0 rfl ?_
  refine j_getR (k := 0) hX kX3 (by decide) fk_X3_17 (rf_23_0 hG) dX3_lieDown_1 (sh_23 hG) rfl ?_
  refine j_iload_n hX dX3_lieDown_4 rfl ?_
  obtain ⟨v1, hh2, hf⟩ := bd1 hf
  refine j_cV1i hX lk_X3_164 kX1 dX3_lieDown_5 (sh_15 hG) (okX1_hasSleeper hG (cr_15 hG) hh2) rfl rfl (rmm (by omega) hRf hRl (by decide)) (Nat.le_of_ble_eq_true rfl) (Nat.le_add_right _ _) (Nat.le_add_right _ _) ?_
  refine j_if_eq (tgt := 19) hX dX3_lieDown_8 (by decide) (fun hc => ?_) (fun hc => ?_)
  · have hf := ifp hc hf
    refine j_iconst hX dX3_lieDown_19 ic_m1 ?_
    cases hf
    exact j_ret hX hr hlk rfl dX3_lieDown_20
  · have hf := ifn hc hf
    refine j_aload_n hX dX3_lieDown_11 rfl ?_
    refine j_iload_n hX dX3_lieDown_12 rfl ?_
    obtain ⟨v3, hh4, hf⟩ := bd1 hf
    refine j_cV1i hX lk_X3_88 kX8 dX3_lieDown_13 h1.1 (okX8_isAsleep hG h1 hh4) rfl rfl (rmm (by omega) hRf hRl (by decide)) (Nat.le_of_ble_eq_true rfl) (Nat.le_add_right _ _) (Nat.le_add_right _ _) ?_
    refine j_if_eq (tgt := 21) hX dX3_lieDown_16 (by decide) (fun hc => ?_) (fun hc => ?_)
    · have hf := ifp hc hf
      refine j_aload_n hX dX3_lieDown_21 rfl ?_
      refine j_iload_n hX dX3_lieDown_22 rfl ?_
      obtain ⟨i5, hh6, hf⟩ := bd1 hf
      refine j_cV1v hX lk_X3_167 kX8 dX3_lieDown_23 h1.1 (okX8_layDown hG h1 hh6) rfl rfl (rmm (by omega) hRf hRl (by decide)) (Nat.le_of_ble_eq_true rfl) (Nat.le_add_right _ _) (Nat.le_add_right _ _) ?_
      refine j_aload_n hX dX3_lieDown_26 rfl ?_
      obtain ⟨v7, hh8, hf⟩ := bd1 hf
      refine j_cV0i hX lk_X3_170 kX8 dX3_lieDown_27 h1.1 (okX8_asleepInAll hG h1 hh8) rfl rfl (rmm (by omega) hRf hRl (by decide)) (Nat.le_of_ble_eq_true rfl) (Nat.le_add_right _ _) (Nat.le_add_right _ _) ?_
      refine jpc (b := 30) rfl ?_
      cases hf
      exact j_ret hX hr hlk rfl dX3_lieDown_30
    · have hf := ifn hc hf
      refine j_iconst hX dX3_lieDown_19 ic_m1 ?_
      cases hf
      exact j_ret hX hr hlk rfl dX3_lieDown_20
theorem okX3_lieDown {l : Launch} {sh : List aSh} {i : Nat → Nat → Int32} {lo : Nat → Nat → Int64} {rv : Nat → Nat → Option Nat}  {p1 : Nat} {a2 : Int32} {vR : Int32} {iR : Nat → Nat → Int32} (hG : aGood sh rv) (h1 : isScn sh rv p1) (hf : fX3_lieDown p1 a2 i = some (vR, iR)) : aM l yX3_lieDown cX3_lieDown 3 (some .int) 2 [.ref (100 + 23), .ref (100 + p1), .int a2] (sh, i, lo, rv) (some (.int vR)) (sh, iR, lo, rv) :=
  aM_of (by decide) (Nat.le_of_ble_eq_true rfl) (Nat.le_refl _) (Nat.le_refl _) (fun p e s m args below meth c D cA A ad0 hX hr hlk hnm => kX3_lieDown hX hr hlk (Nat.le_refl _) (Nat.le_refl _) h1 hG hf)
def fX8_exchange (p0 : Nat) (a1 : Int32) (a2 : Int32) (i : Nat → Nat → Int32) : Option ((Nat → Nat → Int32)) := if aIn ((0 : Int32) + a1) 56 = true then
    (lt (i (p0 + 1) (((0 : Int32) + a1) : Int32).toNatClampNeg) fun t1 =>
    if aIn ((0 : Int32) + a2) 56 = true then
    (if aIn ((0 : Int32) + a1) 56 = true then
    (lt (u2 i (p0 + 1) (((0 : Int32) + a1) : Int32).toNatClampNeg (i (p0 + 1) (((0 : Int32) + a2) : Int32).toNatClampNeg)) fun i2 => if aIn ((0 : Int32) + a2) 56 = true then
    (lt (u2 i2 (p0 + 1) (((0 : Int32) + a2) : Int32).toNatClampNeg t1) fun i3 => some (i3)) else none) else none) else none) else none
theorem kX8_exchange  {p0 : Nat} {iR : Nat → Nat → Int32} (hX : aX p s m args c RX8 cX8_exchange 4 D cA A ad0) (hr : meth.sig.returnType = none) (hlk : meth.locks = false) (hRf : 0 ≤ R.frames) (hRl : 64 * 0 ≤ R.locals) (h0 : isScn sh rv p0) {a1 : Int32} {a2 : Int32} (hG : aGood sh rv) (hf : fX8_exchange p0 a1 a2 i = some (iR)) : aJ p l e R s m args below meth c (MQ below (aPost D cA ad0 A (sh, i0, lo0, rv0) none (sh, iR, lo, rv)) args s (sh.length - sh.length) (aSn sh - aSn sh) A) D cA A ad0 4 sh.length (aSn sh) 0 [some (.ref (100 + p0)), some (.int a1), some (.int a2), none] [] (sh, i, lo, rv) := by
  unfold fX8_exchange at hf
  refine j_aload_n hX dX8_exchange_0 rfl ?_
  refine j_getR (k := 0) hX kX8 (by decide) fk_X8_11 h0.2.2 dX8_exchange_1 h0.1 rfl ?_
  refine j_iconst hX dX8_exchange_4 ic_0 ?_
  refine j_iload_n hX dX8_exchange_5 rfl ?_
  refine j_iadd hX dX8_exchange_6 ?_
  refine jpc (b := 7) rfl ?_
  obtain ⟨hg, hf⟩ := gd hf
  refine j_iald hX h0.2.1 hg dX8_exchange_7 ?_
  have hf := ltd hf
  refine j_istore_n hX dX8_exchange_8 (by decide) rfl ?_
  refine j_aload_n hX dX8_exchange_9 rfl ?_
  refine j_getR (k := 0) hX kX8 (by decide) fk_X8_11 h0.2.2 dX8_exchange_10 h0.1 rfl ?_
  refine j_iconst hX dX8_exchange_13 ic_0 ?_
  refine j_iload_n hX dX8_exchange_14 rfl ?_
  refine jpc (b := 15) rfl ?_
  refine j_iadd hX dX8_exchange_15 ?_
  refine j_aload_n hX dX8_exchange_16 rfl ?_
  refine j_getR (k := 0) hX kX8 (by decide) fk_X8_11 h0.2.2 dX8_exchange_17 h0.1 rfl ?_
  refine j_iconst hX dX8_exchange_20 ic_0 ?_
  refine j_iload_n hX dX8_exchange_21 rfl ?_
  refine j_iadd hX dX8_exchange_22 ?_
  refine jpc (b := 23) rfl ?_
  obtain ⟨hg, hf⟩ := gd hf
  refine j_iald hX h0.2.1 hg dX8_exchange_23 ?_
  obtain ⟨hg, hf⟩ := gd hf
  have hf := ltd hf
  refine j_iast hX h0.2.1 hg dX8_exchange_24 ?_
  refine j_aload_n hX dX8_exchange_25 rfl ?_
  refine j_getR (k := 0) hX kX8 (by decide) fk_X8_11 h0.2.2 dX8_exchange_26 h0.1 rfl ?_
  refine j_iconst hX dX8_exchange_29 ic_0 ?_
  refine j_iload_n hX dX8_exchange_30 rfl ?_
  refine j_iadd hX dX8_exchange_31 ?_
  refine jpc (b := 32) rfl ?_
  refine j_iload_n hX dX8_exchange_32 rfl ?_
  obtain ⟨hg, hf⟩ := gd hf
  have hf := ltd hf
  refine j_iast hX h0.2.1 hg dX8_exchange_33 ?_
  cases hf
  exact j_vret hX hr hlk dX8_exchange_34
theorem okX8_exchange {l : Launch} {sh : List aSh} {i : Nat → Nat → Int32} {lo : Nat → Nat → Int64} {rv : Nat → Nat → Option Nat}  {p0 : Nat} {a1 : Int32} {a2 : Int32} {iR : Nat → Nat → Int32} (hG : aGood sh rv) (h0 : isScn sh rv p0) (hf : fX8_exchange p0 a1 a2 i = some (iR)) : aM l yX8_exchange cX8_exchange 4 none 0 [.ref (100 + p0), .int a1, .int a2] (sh, i, lo, rv) none (sh, iR, lo, rv) :=
  aM_of (by decide) (Nat.le_of_ble_eq_true rfl) (Nat.le_refl _) (Nat.le_refl _) (fun p e s m args below meth c D cA A ad0 hX hr hlk hnm => kX8_exchange hX hr hlk (Nat.le_refl _) (Nat.le_refl _) h0 hG hf)
def fX3_swapBerths (p1 : Nat) (a2 : Int32) (a3 : Int32) (i : Nat → Nat → Int32) : Option ((Int32) × (Nat → Nat → Int32)) := bn1 (fX1_hasSleeper 15 a2 i) fun v1 =>
    if v1 = 0 then (some ((-1), i)) else (bn1 (fX1_hasSleeper 15 a3 i) fun v3 =>
    if v3 = 0 then (some ((-1), i)) else (if a2 = a3 then (some ((-1), i)) else (bn1 (fX8_exchange p1 a2 a3 i) fun i5 =>
    some (0, i5))))
theorem kX3_swapBerths  {p1 : Nat} {vR : Int32} {iR : Nat → Nat → Int32} (hX : aX p s m args c RX3 cX3_swapBerths 4 D cA A ad0) (hr : meth.sig.returnType = (some .int)) (hlk : meth.locks = false) (hRf : 1 ≤ R.frames) (hRl : 64 * 1 ≤ R.locals) (h1 : isScn sh rv p1) {a2 : Int32} {a3 : Int32} (hG : aGood sh rv) (hf : fX3_swapBerths p1 a2 a3 i = some (vR, iR)) : aJ p l e R s m args below meth c (MQ below (aPost D cA ad0 A (sh, i0, lo0, rv0) (some (.int vR)) (sh, iR, lo, rv)) args s (sh.length - sh.length) (aSn sh - aSn sh) A) D cA A ad0 4 sh.length (aSn sh) 0 [some (.ref (100 + 23)), some (.ref (100 + p1)), some (.int a2), some (.int a3)] [] (sh, i, lo, rv) := by
  unfold fX3_swapBerths at hf
  refine j_aload_n hX dX3_swapBerths_0 rfl ?_
  refine j_getR (k := 0) hX kX3 (by decide) fk_X3_17 (rf_23_0 hG) dX3_swapBerths_1 (sh_23 hG) rfl ?_
  refine j_iload_n hX dX3_swapBerths_4 rfl ?_
  obtain ⟨v1, hh2, hf⟩ := bd1 hf
  refine j_cV1i hX lk_X3_164 kX1 dX3_swapBerths_5 (sh_15 hG) (okX1_hasSleeper hG (cr_15 hG) hh2) rfl rfl (rmm (by omega) hRf hRl (by decide)) (Nat.le_of_ble_eq_true rfl) (Nat.le_add_right _ _) (Nat.le_add_right _ _) ?_
  refine j_if_eq (tgt := 27) hX dX3_swapBerths_8 (by decide) (fun hc => ?_) (fun hc => ?_)
  · have hf := ifp hc hf
    refine j_iconst hX dX3_swapBerths_27 ic_m1 ?_
    cases hf
    exact j_ret hX hr hlk rfl dX3_swapBerths_28
  · have hf := ifn hc hf
    refine j_aload_n hX dX3_swapBerths_11 rfl ?_
    refine j_getR (k := 0) hX kX3 (by decide) fk_X3_17 (rf_23_0 hG) dX3_swapBerths_12 (sh_23 hG) rfl ?_
    refine j_iload_n hX dX3_swapBerths_15 rfl ?_
    obtain ⟨v3, hh4, hf⟩ := bd1 hf
    refine j_cV1i hX lk_X3_164 kX1 dX3_swapBerths_16 (sh_15 hG) (okX1_hasSleeper hG (cr_15 hG) hh4) rfl rfl (rmm (by omega) hRf hRl (by decide)) (Nat.le_of_ble_eq_true rfl) (Nat.le_add_right _ _) (Nat.le_add_right _ _) ?_
    refine j_if_eq (tgt := 27) hX dX3_swapBerths_19 (by decide) (fun hc => ?_) (fun hc => ?_)
    · have hf := ifp hc hf
      refine j_iconst hX dX3_swapBerths_27 ic_m1 ?_
      cases hf
      exact j_ret hX hr hlk rfl dX3_swapBerths_28
    · have hf := ifn hc hf
      refine j_iload_n hX dX3_swapBerths_22 rfl ?_
      refine j_iload_n hX dX3_swapBerths_23 rfl ?_
      refine j_icmp_ne (tgt := 29) hX dX3_swapBerths_24 (by decide) (fun hc => ?_) (fun hc => ?_)
      · have hf := ifn hc hf
        refine j_aload_n hX dX3_swapBerths_29 rfl ?_
        refine j_iload_n hX dX3_swapBerths_30 rfl ?_
        refine j_iload_n hX dX3_swapBerths_31 rfl ?_
        obtain ⟨i5, hh6, hf⟩ := bd1 hf
        refine j_cV2v hX lk_X3_173 kX8 dX3_swapBerths_32 h1.1 (okX8_exchange hG h1 hh6) rfl rfl (rmm (by omega) hRf hRl (by decide)) (Nat.le_of_ble_eq_true rfl) (Nat.le_add_right _ _) (Nat.le_add_right _ _) ?_
        refine j_iconst hX dX3_swapBerths_35 ic_0 ?_
        refine jpc (b := 36) rfl ?_
        cases hf
        exact j_ret hX hr hlk rfl dX3_swapBerths_36
      · have hf := ifp hc hf
        refine j_iconst hX dX3_swapBerths_27 ic_m1 ?_
        cases hf
        exact j_ret hX hr hlk rfl dX3_swapBerths_28
theorem okX3_swapBerths {l : Launch} {sh : List aSh} {i : Nat → Nat → Int32} {lo : Nat → Nat → Int64} {rv : Nat → Nat → Option Nat}  {p1 : Nat} {a2 : Int32} {a3 : Int32} {vR : Int32} {iR : Nat → Nat → Int32} (hG : aGood sh rv) (h1 : isScn sh rv p1) (hf : fX3_swapBerths p1 a2 a3 i = some (vR, iR)) : aM l yX3_swapBerths cX3_swapBerths 4 (some .int) 1 [.ref (100 + 23), .ref (100 + p1), .int a2, .int a3] (sh, i, lo, rv) (some (.int vR)) (sh, iR, lo, rv) :=
  aM_of (by decide) (Nat.le_of_ble_eq_true rfl) (Nat.le_refl _) (Nat.le_refl _) (fun p e s m args below meth c D cA A ad0 hX hr hlk hnm => kX3_swapBerths hX hr hlk (Nat.le_refl _) (Nat.le_refl _) h1 hG hf)
def fX8_inDrawer (p0 : Nat) (a1 : Int32) (i : Nat → Nat → Int32) : Option ((Int32)) := if aIn ((9 : Int32) + a1) 56 = true then
    (some ((i (p0 + 1) (((9 : Int32) + a1) : Int32).toNatClampNeg))) else none
theorem kX8_inDrawer  {p0 : Nat} {vR : Int32} (hX : aX p s m args c RX8 cX8_inDrawer 2 D cA A ad0) (hr : meth.sig.returnType = (some .int)) (hlk : meth.locks = false) (hRf : 0 ≤ R.frames) (hRl : 64 * 0 ≤ R.locals) (h0 : isScn sh rv p0) {a1 : Int32} (hG : aGood sh rv) (hf : fX8_inDrawer p0 a1 i = some (vR)) : aJ p l e R s m args below meth c (MQ below (aPost D cA ad0 A (sh, i0, lo0, rv0) (some (.int vR)) (sh, i, lo, rv)) args s (sh.length - sh.length) (aSn sh - aSn sh) A) D cA A ad0 2 sh.length (aSn sh) 0 [some (.ref (100 + p0)), some (.int a1)] [] (sh, i, lo, rv) := by
  unfold fX8_inDrawer at hf
  refine j_aload_n hX dX8_inDrawer_0 rfl ?_
  refine j_getR (k := 0) hX kX8 (by decide) fk_X8_11 h0.2.2 dX8_inDrawer_1 h0.1 rfl ?_
  refine j_bipush hX dX8_inDrawer_4 bp_9 ?_
  refine j_iload_n hX dX8_inDrawer_6 rfl ?_
  refine j_iadd hX dX8_inDrawer_7 ?_
  refine jpc (b := 8) rfl ?_
  obtain ⟨hg, hf⟩ := gd hf
  refine j_iald hX h0.2.1 hg dX8_inDrawer_8 ?_
  cases hf
  exact j_ret hX hr hlk rfl dX8_inDrawer_9
theorem okX8_inDrawer {l : Launch} {sh : List aSh} {i : Nat → Nat → Int32} {lo : Nat → Nat → Int64} {rv : Nat → Nat → Option Nat}  {p0 : Nat} {a1 : Int32} {vR : Int32} (hG : aGood sh rv) (h0 : isScn sh rv p0) (hf : fX8_inDrawer p0 a1 i = some (vR)) : aM l yX8_inDrawer cX8_inDrawer 2 (some .int) 0 [.ref (100 + p0), .int a1] (sh, i, lo, rv) (some (.int vR)) (sh, i, lo, rv) :=
  aM_of (by decide) (Nat.le_of_ble_eq_true rfl) (Nat.le_refl _) (Nat.le_refl _) (fun p e s m args below meth c D cA A ad0 hX hr hlk hnm => kX8_inDrawer hX hr hlk (Nat.le_refl _) (Nat.le_refl _) h0 hG hf)
def fX1_looksAtFaces (p0 : Nat) (a1 : Int32) (i : Nat → Nat → Int32) : Option ((Int32)) := bn1 (fX1_ofOfficer p0 a1 1 i) fun v1 =>
    if v1 = 1 then (some (1)) else (some (0))
theorem kX1_looksAtFaces  {p0 : Nat} {vR : Int32} (hX : aX p s m args c RX1 cX1_looksAtFaces 2 D cA A ad0) (hr : meth.sig.returnType = (some .boolean)) (hlk : meth.locks = false) (hRf : 1 ≤ R.frames) (hRl : 64 * 1 ≤ R.locals) (h0 : isCar sh rv p0) {a1 : Int32} (hG : aGood sh rv) (hf : fX1_looksAtFaces p0 a1 i = some (vR)) : aJ p l e R s m args below meth c (MQ below (aPost D cA ad0 A (sh, i0, lo0, rv0) (some (.int vR)) (sh, i, lo, rv)) args s (sh.length - sh.length) (aSn sh - aSn sh) A) D cA A ad0 2 sh.length (aSn sh) 0 [some (.ref (100 + p0)), some (.int a1)] [] (sh, i, lo, rv) := by
  unfold fX1_looksAtFaces at hf
  refine j_aload_n hX dX1_looksAtFaces_0 rfl ?_
  refine j_iload_n hX dX1_looksAtFaces_1 rfl ?_
  refine j_iconst hX dX1_looksAtFaces_2 ic_1 ?_
  obtain ⟨v1, hh2, hf⟩ := bd1 hf
  refine j_cV2i hX lk_X1_42 kX1 dX1_looksAtFaces_3 h0.1 (okX1_ofOfficer hG h0 hh2) rfl rfl (rmm (by omega) hRf hRl (by decide)) (Nat.le_of_ble_eq_true rfl) (Nat.le_add_right _ _) (Nat.le_add_right _ _) ?_
  refine j_iconst hX dX1_looksAtFaces_6 ic_1 ?_
  refine jpc (b := 7) rfl ?_
  refine j_icmp_ne (tgt := 14) hX dX1_looksAtFaces_7 (by decide) (fun hc => ?_) (fun hc => ?_)
  · have hf := ifn hc hf
    refine j_iconst hX dX1_looksAtFaces_14 ic_0 ?_
    cases hf
    exact j_ret hX hr hlk rfl dX1_looksAtFaces_15
  · have hf := ifp hc hf
    refine j_iconst hX dX1_looksAtFaces_10 ic_1 ?_
    refine j_goto (tgt := 15) hX dX1_looksAtFaces_11 (by decide) ?_
    cases hf
    exact j_ret hX hr hlk rfl dX1_looksAtFaces_15
theorem okX1_looksAtFaces {l : Launch} {sh : List aSh} {i : Nat → Nat → Int32} {lo : Nat → Nat → Int64} {rv : Nat → Nat → Option Nat}  {p0 : Nat} {a1 : Int32} {vR : Int32} (hG : aGood sh rv) (h0 : isCar sh rv p0) (hf : fX1_looksAtFaces p0 a1 i = some (vR)) : aM l yX1_looksAtFaces cX1_looksAtFaces 2 (some .boolean) 1 [.ref (100 + p0), .int a1] (sh, i, lo, rv) (some (.int vR)) (sh, i, lo, rv) :=
  aM_of (by decide) (Nat.le_of_ble_eq_true rfl) (Nat.le_refl _) (Nat.le_refl _) (fun p e s m args below meth c D cA A ad0 hX hr hlk hnm => kX1_looksAtFaces hX hr hlk (Nat.le_refl _) (Nat.le_refl _) h0 hG hf)
def fX3_wakes (p1 : Nat) (a2 : Int32) (a3 : Int32) (i : Nat → Nat → Int32) : Option ((Int32)) := bn1 (fX1_looksAtFaces 15 a3 i) fun v1 =>
    if v1 = 0 then (some (0)) else (bn1 (fX8_isAsleep p1 a2 i) fun v3 =>
    if v3 = 0 then (some (0)) else (some (1)))
theorem kX3_wakes  {p1 : Nat} {vR : Int32} (hX : aX p s m args c RX3 cX3_wakes 4 D cA A ad0) (hr : meth.sig.returnType = (some .boolean)) (hlk : meth.locks = false) (hRf : 2 ≤ R.frames) (hRl : 64 * 2 ≤ R.locals) (h1 : isScn sh rv p1) {a2 : Int32} {a3 : Int32} (hG : aGood sh rv) (hf : fX3_wakes p1 a2 a3 i = some (vR)) : aJ p l e R s m args below meth c (MQ below (aPost D cA ad0 A (sh, i0, lo0, rv0) (some (.int vR)) (sh, i, lo, rv)) args s (sh.length - sh.length) (aSn sh - aSn sh) A) D cA A ad0 4 sh.length (aSn sh) 0 [some (.ref (100 + 23)), some (.ref (100 + p1)), some (.int a2), some (.int a3)] [] (sh, i, lo, rv) := by
  unfold fX3_wakes at hf
  refine j_aload_n hX dX3_wakes_0 rfl ?_
  refine j_getR (k := 0) hX kX3 (by decide) fk_X3_17 (rf_23_0 hG) dX3_wakes_1 (sh_23 hG) rfl ?_
  refine j_iload_n hX dX3_wakes_4 rfl ?_
  obtain ⟨v1, hh2, hf⟩ := bd1 hf
  refine j_cV1i hX lk_X3_81 kX1 dX3_wakes_5 (sh_15 hG) (okX1_looksAtFaces hG (cr_15 hG) hh2) rfl rfl (rmm (by omega) hRf hRl (by decide)) (Nat.le_of_ble_eq_true rfl) (Nat.le_add_right _ _) (Nat.le_add_right _ _) ?_
  refine j_if_eq (tgt := 23) hX dX3_wakes_8 (by decide) (fun hc => ?_) (fun hc => ?_)
  · have hf := ifp hc hf
    refine j_iconst hX dX3_wakes_23 ic_0 ?_
    cases hf
    exact j_ret hX hr hlk rfl dX3_wakes_24
  · have hf := ifn hc hf
    refine j_aload_n hX dX3_wakes_11 rfl ?_
    refine j_iload_n hX dX3_wakes_12 rfl ?_
    obtain ⟨v3, hh4, hf⟩ := bd1 hf
    refine j_cV1i hX lk_X3_88 kX8 dX3_wakes_13 h1.1 (okX8_isAsleep hG h1 hh4) rfl rfl (rmm (by omega) hRf hRl (by decide)) (Nat.le_of_ble_eq_true rfl) (Nat.le_add_right _ _) (Nat.le_add_right _ _) ?_
    refine j_if_eq (tgt := 23) hX dX3_wakes_16 (by decide) (fun hc => ?_) (fun hc => ?_)
    · have hf := ifp hc hf
      refine j_iconst hX dX3_wakes_23 ic_0 ?_
      cases hf
      exact j_ret hX hr hlk rfl dX3_wakes_24
    · have hf := ifn hc hf
      refine j_iconst hX dX3_wakes_19 ic_1 ?_
      refine j_goto (tgt := 24) hX dX3_wakes_20 (by decide) ?_
      cases hf
      exact j_ret hX hr hlk rfl dX3_wakes_24
theorem okX3_wakes {l : Launch} {sh : List aSh} {i : Nat → Nat → Int32} {lo : Nat → Nat → Int64} {rv : Nat → Nat → Option Nat}  {p1 : Nat} {a2 : Int32} {a3 : Int32} {vR : Int32} (hG : aGood sh rv) (h1 : isScn sh rv p1) (hf : fX3_wakes p1 a2 a3 i = some (vR)) : aM l yX3_wakes cX3_wakes 4 (some .boolean) 2 [.ref (100 + 23), .ref (100 + p1), .int a2, .int a3] (sh, i, lo, rv) (some (.int vR)) (sh, i, lo, rv) :=
  aM_of (by decide) (Nat.le_of_ble_eq_true rfl) (Nat.le_refl _) (Nat.le_refl _) (fun p e s m args below meth c D cA A ad0 hX hr hlk hnm => kX3_wakes hX hr hlk (Nat.le_refl _) (Nat.le_refl _) h1 hG hf)
def fX3_turnAwake_24 (x1 : Int32) (s0 : Int32) (i : Nat → Nat → Int32) : Option ((Int32)) := bn1 (fX1_ofSleeper 15 x1 0 i) fun v5 =>
    some ((v5 + s0))
theorem kX3_turnAwake_24  {vR : Int32} (hX : aX p s m args c RX3 cX3_turnAwake 4 D cA A ad0) (hr : meth.sig.returnType = (some .int)) (hlk : meth.locks = false) (hRf : 2 ≤ R.frames) (hRl : 64 * 2 ≤ R.locals) {x1 : Int32} {s0 : Int32} (hG : aGood sh rv) (hf : fX3_turnAwake_24 x1 s0 i = some (vR)) : aJ p l e R s m args below meth c (MQ below (aPost D cA ad0 A (sh, i0, lo0, rv0) (some (.int vR)) (sh, i, lo, rv)) args s (sh.length - sh.length) (aSn sh - aSn sh) A) D cA A ad0 4 sh.length (aSn sh) 24 [some (.ref (100 + 23)), some (.int x1), none, none] [.int s0] (sh, i, lo, rv) := by
  unfold fX3_turnAwake_24 at hf
  refine j_istore_n hX dX3_turnAwake_24 (by decide) rfl ?_
  refine j_aload_n hX dX3_turnAwake_25 rfl ?_
  refine j_getR (k := 0) hX kX3 (by decide) fk_X3_17 (rf_23_0 hG) dX3_turnAwake_26 (sh_23 hG) rfl ?_
  refine j_iload_n hX dX3_turnAwake_29 rfl ?_
  refine j_iconst hX dX3_turnAwake_30 ic_0 ?_
  refine jpc (b := 31) rfl ?_
  obtain ⟨v5, hh6, hf⟩ := bd1 hf
  refine j_cV2i hX lk_X3_52 kX1 dX3_turnAwake_31 (sh_15 hG) (okX1_ofSleeper hG (cr_15 hG) hh6) rfl rfl (rmm (by omega) hRf hRl (by decide)) (Nat.le_of_ble_eq_true rfl) (Nat.le_add_right _ _) (Nat.le_add_right _ _) ?_
  refine j_iload_n hX dX3_turnAwake_34 rfl ?_
  refine j_iadd hX dX3_turnAwake_35 ?_
  cases hf
  exact j_ret hX hr hlk rfl dX3_turnAwake_36
def fX3_turnAwake (a1 : Int32) (a2 : Int32) (i : Nat → Nat → Int32) : Option ((Int32)) := bn1 (fX1_looksAtFaces 15 a2 i) fun v1 =>
    if v1 = 0 then (fX3_turnAwake_24 a1 0 i) else (bn1 (fX1_ofOfficer 15 a2 2 i) fun v3 =>
    fX3_turnAwake_24 a1 v3 i)
theorem kX3_turnAwake  {vR : Int32} (hX : aX p s m args c RX3 cX3_turnAwake 4 D cA A ad0) (hr : meth.sig.returnType = (some .int)) (hlk : meth.locks = false) (hRf : 2 ≤ R.frames) (hRl : 64 * 2 ≤ R.locals) {a1 : Int32} {a2 : Int32} (hG : aGood sh rv) (hf : fX3_turnAwake a1 a2 i = some (vR)) : aJ p l e R s m args below meth c (MQ below (aPost D cA ad0 A (sh, i0, lo0, rv0) (some (.int vR)) (sh, i, lo, rv)) args s (sh.length - sh.length) (aSn sh - aSn sh) A) D cA A ad0 4 sh.length (aSn sh) 0 [some (.ref (100 + 23)), some (.int a1), some (.int a2), none] [] (sh, i, lo, rv) := by
  unfold fX3_turnAwake at hf
  refine j_aload_n hX dX3_turnAwake_0 rfl ?_
  refine j_getR (k := 0) hX kX3 (by decide) fk_X3_17 (rf_23_0 hG) dX3_turnAwake_1 (sh_23 hG) rfl ?_
  refine j_iload_n hX dX3_turnAwake_4 rfl ?_
  obtain ⟨v1, hh2, hf⟩ := bd1 hf
  refine j_cV1i hX lk_X3_81 kX1 dX3_turnAwake_5 (sh_15 hG) (okX1_looksAtFaces hG (cr_15 hG) hh2) rfl rfl (rmm (by omega) hRf hRl (by decide)) (Nat.le_of_ble_eq_true rfl) (Nat.le_add_right _ _) (Nat.le_add_right _ _) ?_
  refine j_if_eq (tgt := 23) hX dX3_turnAwake_8 (by decide) (fun hc => ?_) (fun hc => ?_)
  · have hf := ifp hc hf
    refine j_iconst hX dX3_turnAwake_23 ic_0 ?_
    exact aJx (kX3_turnAwake_24 hX hr hlk hRf hRl hG  hf) (And.intro rfl (And.intro rfl (rfl)))
  · have hf := ifn hc hf
    refine j_aload_n hX dX3_turnAwake_11 rfl ?_
    refine j_getR (k := 0) hX kX3 (by decide) fk_X3_17 (rf_23_0 hG) dX3_turnAwake_12 (sh_23 hG) rfl ?_
    refine j_iload_n hX dX3_turnAwake_15 rfl ?_
    refine j_iconst hX dX3_turnAwake_16 ic_2 ?_
    obtain ⟨v3, hh4, hf⟩ := bd1 hf
    refine j_cV2i hX lk_X3_85 kX1 dX3_turnAwake_17 (sh_15 hG) (okX1_ofOfficer hG (cr_15 hG) hh4) rfl rfl (rmm (by omega) hRf hRl (by decide)) (Nat.le_of_ble_eq_true rfl) (Nat.le_add_right _ _) (Nat.le_add_right _ _) ?_
    refine jpc (b := 20) rfl ?_
    refine j_goto (tgt := 24) hX dX3_turnAwake_20 (by decide) ?_
    exact aJx (kX3_turnAwake_24 hX hr hlk hRf hRl hG  hf) (And.intro rfl (And.intro rfl (rfl)))
theorem okX3_turnAwake {l : Launch} {sh : List aSh} {i : Nat → Nat → Int32} {lo : Nat → Nat → Int64} {rv : Nat → Nat → Option Nat}  {a1 : Int32} {a2 : Int32} {vR : Int32} (hG : aGood sh rv) (hf : fX3_turnAwake a1 a2 i = some (vR)) : aM l yX3_turnAwake cX3_turnAwake 4 (some .int) 2 [.ref (100 + 23), .int a1, .int a2] (sh, i, lo, rv) (some (.int vR)) (sh, i, lo, rv) :=
  aM_of (by decide) (Nat.le_of_ble_eq_true rfl) (Nat.le_refl _) (Nat.le_refl _) (fun p e s m args below meth c D cA A ad0 hX hr hlk hnm => kX3_turnAwake hX hr hlk (Nat.le_refl _) (Nat.le_refl _) hG hf)
def fX3_turnOf_22 (p1 : Nat) (x2 : Int32) (x3 : Int32) (s0 : Int32) (i : Nat → Nat → Int32) : Option ((Int32)) := bn1 (fX3_turnAwake x2 x3 i) fun v5 =>
    some ((v5 + s0))
theorem kX3_turnOf_22  {p1 : Nat} {vR : Int32} (hX : aX p s m args c RX3 cX3_turnOf 5 D cA A ad0) (hr : meth.sig.returnType = (some .int)) (hlk : meth.locks = false) (hRf : 3 ≤ R.frames) (hRl : 64 * 3 ≤ R.locals) (h1 : isScn sh rv p1) {x2 : Int32} {x3 : Int32} {s0 : Int32} (hG : aGood sh rv) (hf : fX3_turnOf_22 p1 x2 x3 s0 i = some (vR)) : aJ p l e R s m args below meth c (MQ below (aPost D cA ad0 A (sh, i0, lo0, rv0) (some (.int vR)) (sh, i, lo, rv)) args s (sh.length - sh.length) (aSn sh - aSn sh) A) D cA A ad0 5 sh.length (aSn sh) 22 [some (.ref (100 + 23)), none, some (.int x2), some (.int x3), none] [.int s0] (sh, i, lo, rv) := by
  unfold fX3_turnOf_22 at hf
  refine j_istore hX dX3_turnOf_22 (by decide) rfl ?_
  refine j_aload_n hX dX3_turnOf_24 rfl ?_
  refine j_iload_n hX dX3_turnOf_25 rfl ?_
  refine j_iload_n hX dX3_turnOf_26 rfl ?_
  obtain ⟨v5, hh6, hf⟩ := bd1 hf
  refine j_cV2i hX lk_X3_98 kX3 dX3_turnOf_27 (sh_23 hG) (okX3_turnAwake hG hh6) rfl rfl (rmm (by omega) hRf hRl (by decide)) (Nat.le_of_ble_eq_true rfl) (Nat.le_add_right _ _) (Nat.le_add_right _ _) ?_
  refine jpc (b := 30) rfl ?_
  refine j_iload hX dX3_turnOf_30 rfl ?_
  refine j_iadd hX dX3_turnOf_32 ?_
  cases hf
  exact j_ret hX hr hlk rfl dX3_turnOf_33
def fX3_turnOf (p1 : Nat) (a2 : Int32) (a3 : Int32) (i : Nat → Nat → Int32) : Option ((Int32)) := bn1 (fX3_wakes p1 a2 a3 i) fun v1 =>
    if v1 = 0 then (fX3_turnOf_22 p1 a2 a3 0 i) else (bn1 (fX1_ruleOf 15 3 i) fun v3 =>
    fX3_turnOf_22 p1 a2 a3 v3 i)
theorem kX3_turnOf  {p1 : Nat} {vR : Int32} (hX : aX p s m args c RX3 cX3_turnOf 5 D cA A ad0) (hr : meth.sig.returnType = (some .int)) (hlk : meth.locks = false) (hRf : 3 ≤ R.frames) (hRl : 64 * 3 ≤ R.locals) (h1 : isScn sh rv p1) {a2 : Int32} {a3 : Int32} (hG : aGood sh rv) (hf : fX3_turnOf p1 a2 a3 i = some (vR)) : aJ p l e R s m args below meth c (MQ below (aPost D cA ad0 A (sh, i0, lo0, rv0) (some (.int vR)) (sh, i, lo, rv)) args s (sh.length - sh.length) (aSn sh - aSn sh) A) D cA A ad0 5 sh.length (aSn sh) 0 [some (.ref (100 + 23)), some (.ref (100 + p1)), some (.int a2), some (.int a3), none] [] (sh, i, lo, rv) := by
  unfold fX3_turnOf at hf
  refine j_aload_n hX dX3_turnOf_0 rfl ?_
  refine j_aload_n hX dX3_turnOf_1 rfl ?_
  refine j_iload_n hX dX3_turnOf_2 rfl ?_
  refine j_iload_n hX dX3_turnOf_3 rfl ?_
  obtain ⟨v1, hh2, hf⟩ := bd1 hf
  refine j_cV3i hX lk_X3_91 kX3 dX3_turnOf_4 (sh_23 hG) (okX3_wakes hG h1 hh2) rfl rfl (rmm (by omega) hRf hRl (by decide)) (Nat.le_of_ble_eq_true rfl) (Nat.le_add_right _ _) (Nat.le_add_right _ _) ?_
  refine jpc (b := 7) rfl ?_
  refine j_if_eq (tgt := 21) hX dX3_turnOf_7 (by decide) (fun hc => ?_) (fun hc => ?_)
  · have hf := ifp hc hf
    refine j_iconst hX dX3_turnOf_21 ic_0 ?_
    exact aJx (kX3_turnOf_22 hX hr hlk hRf hRl h1 hG  hf) (And.intro rfl (And.intro rfl (And.intro rfl (rfl))))
  · have hf := ifn hc hf
    refine j_aload_n hX dX3_turnOf_10 rfl ?_
    refine j_getR (k := 0) hX kX3 (by decide) fk_X3_17 (rf_23_0 hG) dX3_turnOf_11 (sh_23 hG) rfl ?_
    refine j_iconst hX dX3_turnOf_14 ic_3 ?_
    obtain ⟨v3, hh4, hf⟩ := bd1 hf
    refine j_cV1i hX lk_X3_95 kX1 dX3_turnOf_15 (sh_15 hG) (okX1_ruleOf hG (cr_15 hG) hh4) rfl rfl (rmm (by omega) hRf hRl (by decide)) (Nat.le_of_ble_eq_true rfl) (Nat.le_add_right _ _) (Nat.le_add_right _ _) ?_
    refine j_goto (tgt := 22) hX dX3_turnOf_18 (by decide) ?_
    exact aJx (kX3_turnOf_22 hX hr hlk hRf hRl h1 hG  hf) (And.intro rfl (And.intro rfl (And.intro rfl (rfl))))
theorem okX3_turnOf {l : Launch} {sh : List aSh} {i : Nat → Nat → Int32} {lo : Nat → Nat → Int64} {rv : Nat → Nat → Option Nat}  {p1 : Nat} {a2 : Int32} {a3 : Int32} {vR : Int32} (hG : aGood sh rv) (h1 : isScn sh rv p1) (hf : fX3_turnOf p1 a2 a3 i = some (vR)) : aM l yX3_turnOf cX3_turnOf 5 (some .int) 3 [.ref (100 + 23), .ref (100 + p1), .int a2, .int a3] (sh, i, lo, rv) (some (.int vR)) (sh, i, lo, rv) :=
  aM_of (by decide) (Nat.le_of_ble_eq_true rfl) (Nat.le_refl _) (Nat.le_refl _) (fun p e s m args below meth c D cA A ad0 hX hr hlk hnm => kX3_turnOf hX hr hlk (Nat.le_refl _) (Nat.le_refl _) h1 hG hf)
def fX3_waitOf (a1 : Int32) (a2 : Int32) (a3 : Int32) (a4 : Int32) (i : Nat → Nat → Int32) : Option ((Int32)) := bn1 (fX1_ofSleeper 15 a1 1 i) fun v1 =>
    if a3 = 1 then (bn1 (fX1_looksAtFaces 15 a2 i) fun v5 =>
    if v5 = 0 then (some ((((6 : Int32) * v1) / (2 : Int32)))) else (some (((2 : Int32) * ((6 : Int32) * v1))))) else (if a3 = 2 then (if a4 = 0 then (some (((6 : Int32) * v1))) else (bn1 (fX1_ofOfficer 15 a2 3 i) fun v3 =>
    some ((if (0 : Int32) < (((6 : Int32) * v1) - ((6 : Int32) * v3)) then (((6 : Int32) * v1) - ((6 : Int32) * v3)) else (0 : Int32))))) else (some (((6 : Int32) * v1))))
theorem kX3_waitOf  {vR : Int32} (hX : aX p s m args c RX3 cX3_waitOf 6 D cA A ad0) (hr : meth.sig.returnType = (some .int)) (hlk : meth.locks = false) (hRf : 2 ≤ R.frames) (hRl : 64 * 2 ≤ R.locals) {a1 : Int32} {a2 : Int32} {a3 : Int32} {a4 : Int32} (hG : aGood sh rv) (hf : fX3_waitOf a1 a2 a3 a4 i = some (vR)) : aJ p l e R s m args below meth c (MQ below (aPost D cA ad0 A (sh, i0, lo0, rv0) (some (.int vR)) (sh, i, lo, rv)) args s (sh.length - sh.length) (aSn sh - aSn sh) A) D cA A ad0 6 sh.length (aSn sh) 0 [some (.ref (100 + 23)), some (.int a1), some (.int a2), some (.int a3), some (.int a4), none] [] (sh, i, lo, rv) := by
  unfold fX3_waitOf at hf
  refine j_bipush hX dX3_waitOf_0 bp_6 ?_
  refine j_aload_n hX dX3_waitOf_2 rfl ?_
  refine j_getR (k := 0) hX kX3 (by decide) fk_X3_17 (rf_23_0 hG) dX3_waitOf_3 (sh_23 hG) rfl ?_
  refine j_iload_n hX dX3_waitOf_6 rfl ?_
  refine j_iconst hX dX3_waitOf_7 ic_1 ?_
  refine jpc (b := 8) rfl ?_
  obtain ⟨v1, hh2, hf⟩ := bd1 hf
  refine j_cV2i hX lk_X3_52 kX1 dX3_waitOf_8 (sh_15 hG) (okX1_ofSleeper hG (cr_15 hG) hh2) rfl rfl (rmm (by omega) hRf hRl (by decide)) (Nat.le_of_ble_eq_true rfl) (Nat.le_add_right _ _) (Nat.le_add_right _ _) ?_
  refine j_imul hX dX3_waitOf_11 ?_
  refine j_istore hX dX3_waitOf_12 (by decide) rfl ?_
  refine j_iload_n hX dX3_waitOf_14 rfl ?_
  refine j_iconst hX dX3_waitOf_15 ic_1 ?_
  refine j_icmp_ne (tgt := 42) hX dX3_waitOf_16 (by decide) (fun hc => ?_) (fun hc => ?_)
  · have hf := ifn hc hf
    refine j_iload_n hX dX3_waitOf_42 rfl ?_
    refine j_iconst hX dX3_waitOf_43 ic_2 ?_
    refine j_icmp_ne (tgt := 72) hX dX3_waitOf_44 (by decide) (fun hc => ?_) (fun hc => ?_)
    · have hf := ifn hc hf
      refine j_iload hX dX3_waitOf_72 rfl ?_
      cases hf
      exact j_ret hX hr hlk rfl dX3_waitOf_74
    · have hf := ifp hc hf
      refine j_iload hX dX3_waitOf_47 rfl ?_
      refine j_if_eq (tgt := 72) hX dX3_waitOf_49 (by decide) (fun hc => ?_) (fun hc => ?_)
      · have hf := ifp hc hf
        refine j_iload hX dX3_waitOf_72 rfl ?_
        cases hf
        exact j_ret hX hr hlk rfl dX3_waitOf_74
      · have hf := ifn hc hf
        refine j_iconst hX dX3_waitOf_52 ic_0 ?_
        refine j_iload hX dX3_waitOf_53 rfl ?_
        refine j_bipush hX dX3_waitOf_55 bp_6 ?_
        refine j_aload_n hX dX3_waitOf_57 rfl ?_
        refine j_getR (k := 0) hX kX3 (by decide) fk_X3_17 (rf_23_0 hG) dX3_waitOf_58 (sh_23 hG) rfl ?_
        refine jpc (b := 61) rfl ?_
        refine j_iload_n hX dX3_waitOf_61 rfl ?_
        refine j_iconst hX dX3_waitOf_62 ic_3 ?_
        obtain ⟨v3, hh4, hf⟩ := bd1 hf
        refine j_cV2i hX lk_X3_85 kX1 dX3_waitOf_63 (sh_15 hG) (okX1_ofOfficer hG (cr_15 hG) hh4) rfl rfl (rmm (by omega) hRf hRl (by decide)) (Nat.le_of_ble_eq_true rfl) (Nat.le_add_right _ _) (Nat.le_add_right _ _) ?_
        refine j_imul hX dX3_waitOf_66 ?_
        refine j_isub hX dX3_waitOf_67 ?_
        refine j_max hX lk_X3_71 dX3_waitOf_68 ⟨by omega, Nat.le_trans (Nat.le_of_ble_eq_true rfl) hRl⟩ (Nat.le_add_right _ _) (Nat.le_add_right _ _) ?_
        refine jpc (b := 71) rfl ?_
        cases hf
        exact j_ret hX hr hlk rfl dX3_waitOf_71
  · have hf := ifp hc hf
    refine j_aload_n hX dX3_waitOf_19 rfl ?_
    refine j_getR (k := 0) hX kX3 (by decide) fk_X3_17 (rf_23_0 hG) dX3_waitOf_20 (sh_23 hG) rfl ?_
    refine j_iload_n hX dX3_waitOf_23 rfl ?_
    obtain ⟨v5, hh6, hf⟩ := bd1 hf
    refine j_cV1i hX lk_X3_81 kX1 dX3_waitOf_24 (sh_15 hG) (okX1_looksAtFaces hG (cr_15 hG) hh6) rfl rfl (rmm (by omega) hRf hRl (by decide)) (Nat.le_of_ble_eq_true rfl) (Nat.le_add_right _ _) (Nat.le_add_right _ _) ?_
    refine j_if_eq (tgt := 37) hX dX3_waitOf_27 (by decide) (fun hc => ?_) (fun hc => ?_)
    · have hf := ifp hc hf
      refine j_iload hX dX3_waitOf_37 rfl ?_
      refine j_iconst hX dX3_waitOf_39 ic_2 ?_
      refine j_idiv hX dX3_waitOf_40 (by decide) ?_
      cases hf
      exact j_ret hX hr hlk rfl dX3_waitOf_41
    · have hf := ifn hc hf
      refine j_iconst hX dX3_waitOf_30 ic_2 ?_
      refine j_iload hX dX3_waitOf_31 rfl ?_
      refine j_imul hX dX3_waitOf_33 ?_
      refine j_goto (tgt := 41) hX dX3_waitOf_34 (by decide) ?_
      cases hf
      exact j_ret hX hr hlk rfl dX3_waitOf_41
theorem okX3_waitOf {l : Launch} {sh : List aSh} {i : Nat → Nat → Int32} {lo : Nat → Nat → Int64} {rv : Nat → Nat → Option Nat}  {a1 : Int32} {a2 : Int32} {a3 : Int32} {a4 : Int32} {vR : Int32} (hG : aGood sh rv) (hf : fX3_waitOf a1 a2 a3 a4 i = some (vR)) : aM l yX3_waitOf cX3_waitOf 6 (some .int) 2 [.ref (100 + 23), .int a1, .int a2, .int a3, .int a4] (sh, i, lo, rv) (some (.int vR)) (sh, i, lo, rv) :=
  aM_of (by decide) (Nat.le_of_ble_eq_true rfl) (Nat.le_refl _) (Nat.le_refl _) (fun p e s m args below meth c D cA A ad0 hX hr hlk hnm => kX3_waitOf hX hr hlk (Nat.le_refl _) (Nat.le_refl _) hG hf)
def fX3_takesCoffee (p1 : Nat) (a2 : Int32) (i : Nat → Nat → Int32) : Option ((Int32)) := bn1 (fX8_saidFor p1 a2 i) fun v1 =>
    if v1 = 2 then (some (1)) else (some (0))
theorem kX3_takesCoffee  {p1 : Nat} {vR : Int32} (hX : aX p s m args c RX3 cX3_takesCoffee 3 D cA A ad0) (hr : meth.sig.returnType = (some .boolean)) (hlk : meth.locks = false) (hRf : 1 ≤ R.frames) (hRl : 64 * 1 ≤ R.locals) (h1 : isScn sh rv p1) {a2 : Int32} (hG : aGood sh rv) (hf : fX3_takesCoffee p1 a2 i = some (vR)) : aJ p l e R s m args below meth c (MQ below (aPost D cA ad0 A (sh, i0, lo0, rv0) (some (.int vR)) (sh, i, lo, rv)) args s (sh.length - sh.length) (aSn sh - aSn sh) A) D cA A ad0 3 sh.length (aSn sh) 0 [some (.ref (100 + 23)), some (.ref (100 + p1)), some (.int a2)] [] (sh, i, lo, rv) := by
  unfold fX3_takesCoffee at hf
  refine j_aload_n hX dX3_takesCoffee_0 rfl ?_
  refine j_iload_n hX dX3_takesCoffee_1 rfl ?_
  obtain ⟨v1, hh2, hf⟩ := bd1 hf
  refine j_cV1i hX lk_X3_101 kX8 dX3_takesCoffee_2 h1.1 (okX8_saidFor hG h1 hh2) rfl rfl (rmm (by omega) hRf hRl (by decide)) (Nat.le_of_ble_eq_true rfl) (Nat.le_add_right _ _) (Nat.le_add_right _ _) ?_
  refine j_iconst hX dX3_takesCoffee_5 ic_2 ?_
  refine j_icmp_ne (tgt := 13) hX dX3_takesCoffee_6 (by decide) (fun hc => ?_) (fun hc => ?_)
  · have hf := ifn hc hf
    refine j_iconst hX dX3_takesCoffee_13 ic_0 ?_
    cases hf
    exact j_ret hX hr hlk rfl dX3_takesCoffee_14
  · have hf := ifp hc hf
    refine j_iconst hX dX3_takesCoffee_9 ic_1 ?_
    refine j_goto (tgt := 14) hX dX3_takesCoffee_10 (by decide) ?_
    cases hf
    exact j_ret hX hr hlk rfl dX3_takesCoffee_14
theorem okX3_takesCoffee {l : Launch} {sh : List aSh} {i : Nat → Nat → Int32} {lo : Nat → Nat → Int64} {rv : Nat → Nat → Option Nat}  {p1 : Nat} {a2 : Int32} {vR : Int32} (hG : aGood sh rv) (h1 : isScn sh rv p1) (hf : fX3_takesCoffee p1 a2 i = some (vR)) : aM l yX3_takesCoffee cX3_takesCoffee 3 (some .boolean) 1 [.ref (100 + 23), .ref (100 + p1), .int a2] (sh, i, lo, rv) (some (.int vR)) (sh, i, lo, rv) :=
  aM_of (by decide) (Nat.le_of_ble_eq_true rfl) (Nat.le_refl _) (Nat.le_refl _) (fun p e s m args below meth c D cA A ad0 hX hr hlk hnm => kX3_takesCoffee hX hr hlk (Nat.le_refl _) (Nat.le_refl _) h1 hG hf)
def fX8_leaveCoffees (p0 : Nat) (a1 : Int32) (i : Nat → Nat → Int32) : Option ((Nat → Nat → Int32)) := if aIn 54 56 = true then
    (lt (u2 i (p0 + 1) (54 : Int32).toNatClampNeg a1) fun i1 => some (i1)) else none
theorem kX8_leaveCoffees  {p0 : Nat} {iR : Nat → Nat → Int32} (hX : aX p s m args c RX8 cX8_leaveCoffees 2 D cA A ad0) (hr : meth.sig.returnType = none) (hlk : meth.locks = false) (hRf : 0 ≤ R.frames) (hRl : 64 * 0 ≤ R.locals) (h0 : isScn sh rv p0) {a1 : Int32} (hG : aGood sh rv) (hf : fX8_leaveCoffees p0 a1 i = some (iR)) : aJ p l e R s m args below meth c (MQ below (aPost D cA ad0 A (sh, i0, lo0, rv0) none (sh, iR, lo, rv)) args s (sh.length - sh.length) (aSn sh - aSn sh) A) D cA A ad0 2 sh.length (aSn sh) 0 [some (.ref (100 + p0)), some (.int a1)] [] (sh, i, lo, rv) := by
  unfold fX8_leaveCoffees at hf
  refine j_aload_n hX dX8_leaveCoffees_0 rfl ?_
  refine j_getR (k := 0) hX kX8 (by decide) fk_X8_11 h0.2.2 dX8_leaveCoffees_1 h0.1 rfl ?_
  refine j_bipush hX dX8_leaveCoffees_4 bp_54 ?_
  refine j_iload_n hX dX8_leaveCoffees_6 rfl ?_
  obtain ⟨hg, hf⟩ := gd hf
  have hf := ltd hf
  refine j_iast hX h0.2.1 hg dX8_leaveCoffees_7 ?_
  cases hf
  exact j_vret hX hr hlk dX8_leaveCoffees_8
theorem okX8_leaveCoffees {l : Launch} {sh : List aSh} {i : Nat → Nat → Int32} {lo : Nat → Nat → Int64} {rv : Nat → Nat → Option Nat}  {p0 : Nat} {a1 : Int32} {iR : Nat → Nat → Int32} (hG : aGood sh rv) (h0 : isScn sh rv p0) (hf : fX8_leaveCoffees p0 a1 i = some (iR)) : aM l yX8_leaveCoffees cX8_leaveCoffees 2 none 0 [.ref (100 + p0), .int a1] (sh, i, lo, rv) none (sh, iR, lo, rv) :=
  aM_of (by decide) (Nat.le_of_ble_eq_true rfl) (Nat.le_refl _) (Nat.le_refl _) (fun p e s m args below meth c D cA A ad0 hX hr hlk hnm => kX8_leaveCoffees hX hr hlk (Nat.le_refl _) (Nat.le_refl _) h0 hG hf)
def fX3_pass_186 (p1 : Nat) (kh28 : Int32 → Int32 → Int32 → Int32 → Int32 → Int32 → Int32 → (Nat → Nat → Int32) → (Nat → Nat → Option Nat) → Option ((Int32) × (Nat → Nat → Int32))) (x2 : Int32) (x3 : Int32) (x4 : Int32) (x5 : Int32) (x6 : Int32) (x7 : Int32) (x8 : Int32) (x11 : Int32) (i : Nat → Nat → Int32) (rv : Nat → Nat → Option Nat) : Option ((Int32) × (Nat → Nat → Int32)) := lt (if x5 < x11 then x11 else x5) fun t30 =>
    kh28 x2 x3 x4 t30 x6 x7 (x8 + 1) i rv
theorem kX3_pass_186  {p1 : Nat} {vR : Int32} {iR : Nat → Nat → Int32} (hX : aX p s m args c RX3 cX3_pass 12 D cA A ad0) (hr : meth.sig.returnType = (some .int)) (hlk : meth.locks = false) (hRf : 4 ≤ R.frames) (hRl : 64 * 4 ≤ R.locals) (h1 : isScn sh rv p1) {kh28 : Int32 → Int32 → Int32 → Int32 → Int32 → Int32 → Int32 → (Nat → Nat → Int32) → (Nat → Nat → Option Nat) → Option ((Int32) × (Nat → Nat → Int32))} (Hkh28 : ∀ (x2 : Int32) (x3 : Int32) (x4 : Int32) (x5 : Int32) (x6 : Int32) (x7 : Int32) (x8 : Int32) (i : Nat → Nat → Int32), aGood sh rv → kh28 x2 x3 x4 x5 x6 x7 x8 i rv = some (vR, iR) → aJ p l e R s m args below meth c (MQ below (aPost D cA ad0 A (sh, i0, lo0, rv0) (some (.int vR)) (sh, iR, lo, rv)) args s (sh.length - sh.length) (aSn sh - aSn sh) A) D cA A ad0 12 sh.length (aSn sh) 28 [some (.ref (100 + 23)), some (.ref (100 + p1)), some (.int x2), some (.int x3), some (.int x4), some (.int x5), some (.int x6), some (.int x7), some (.int x8), none, none, none] [] (sh, i, lo, rv)) {x2 : Int32} {x3 : Int32} {x4 : Int32} {x5 : Int32} {x6 : Int32} {x7 : Int32} {x8 : Int32} {x11 : Int32} (hG : aGood sh rv) (hf : fX3_pass_186 p1 kh28 x2 x3 x4 x5 x6 x7 x8 x11 i rv = some (vR, iR)) : aJ p l e R s m args below meth c (MQ below (aPost D cA ad0 A (sh, i0, lo0, rv0) (some (.int vR)) (sh, iR, lo, rv)) args s (sh.length - sh.length) (aSn sh - aSn sh) A) D cA A ad0 12 sh.length (aSn sh) 186 [some (.ref (100 + 23)), some (.ref (100 + p1)), some (.int x2), some (.int x3), some (.int x4), some (.int x5), some (.int x6), some (.int x7), some (.int x8), none, none, some (.int x11)] [] (sh, i, lo, rv) := by
  unfold fX3_pass_186 at hf
  refine j_iload hX dX3_pass_186 rfl ?_
  refine j_iload hX dX3_pass_188 rfl ?_
  refine j_max hX lk_X3_71 dX3_pass_190 ⟨by omega, Nat.le_trans (Nat.le_of_ble_eq_true rfl) hRl⟩ (Nat.le_add_right _ _) (Nat.le_add_right _ _) ?_
  have hf := ltd hf
  refine j_istore hX dX3_pass_193 (by decide) rfl ?_
  refine j_iinc hX dX3_pass_195 rfl (congrArg (_ + ·) ic_1) (by decide) rfl ?_
  refine jpc (b := 198) rfl ?_
  refine j_goto (tgt := 28) hX dX3_pass_198 (by decide) ?_
  exact aJx (Hkh28 _ _ _ _ _ _ _ _ hG  hf) (And.intro rfl (And.intro rfl (And.intro rfl (And.intro rfl (And.intro rfl (And.intro rfl (And.intro rfl (And.intro rfl (And.intro rfl (rfl))))))))))
def fX3_pass_157 (p1 : Nat) (kh28 : Int32 → Int32 → Int32 → Int32 → Int32 → Int32 → Int32 → (Nat → Nat → Int32) → (Nat → Nat → Option Nat) → Option ((Int32) × (Nat → Nat → Int32))) (x2 : Int32) (x3 : Int32) (x4 : Int32) (x5 : Int32) (x6 : Int32) (x7 : Int32) (x8 : Int32) (x9 : Int32) (x11 : Int32) (i : Nat → Nat → Int32) (rv : Nat → Nat → Option Nat) : Option ((Int32) × (Nat → Nat → Int32)) := bn1 (fX1_isLacking 15 x9 i) fun v27 =>
    if v27 = 0 then (fX3_pass_186 p1 kh28 x2 x3 x4 x5 x6 x7 x8 x11 i rv) else (if x11 ≤ x7 then (fX3_pass_186 p1 kh28 x2 x3 x4 x5 x6 x7 x8 x11 i rv) else (lt (u2 i 23 4 x9) fun i29 =>
    fX3_pass_186 p1 kh28 x2 x3 x4 x5 x6 x11 x8 x11 i29 rv))
theorem kX3_pass_157  {p1 : Nat} {vR : Int32} {iR : Nat → Nat → Int32} (hX : aX p s m args c RX3 cX3_pass 12 D cA A ad0) (hr : meth.sig.returnType = (some .int)) (hlk : meth.locks = false) (hRf : 4 ≤ R.frames) (hRl : 64 * 4 ≤ R.locals) (h1 : isScn sh rv p1) {kh28 : Int32 → Int32 → Int32 → Int32 → Int32 → Int32 → Int32 → (Nat → Nat → Int32) → (Nat → Nat → Option Nat) → Option ((Int32) × (Nat → Nat → Int32))} (Hkh28 : ∀ (x2 : Int32) (x3 : Int32) (x4 : Int32) (x5 : Int32) (x6 : Int32) (x7 : Int32) (x8 : Int32) (i : Nat → Nat → Int32), aGood sh rv → kh28 x2 x3 x4 x5 x6 x7 x8 i rv = some (vR, iR) → aJ p l e R s m args below meth c (MQ below (aPost D cA ad0 A (sh, i0, lo0, rv0) (some (.int vR)) (sh, iR, lo, rv)) args s (sh.length - sh.length) (aSn sh - aSn sh) A) D cA A ad0 12 sh.length (aSn sh) 28 [some (.ref (100 + 23)), some (.ref (100 + p1)), some (.int x2), some (.int x3), some (.int x4), some (.int x5), some (.int x6), some (.int x7), some (.int x8), none, none, none] [] (sh, i, lo, rv)) {x2 : Int32} {x3 : Int32} {x4 : Int32} {x5 : Int32} {x6 : Int32} {x7 : Int32} {x8 : Int32} {x9 : Int32} {x11 : Int32} (hG : aGood sh rv) (hf : fX3_pass_157 p1 kh28 x2 x3 x4 x5 x6 x7 x8 x9 x11 i rv = some (vR, iR)) : aJ p l e R s m args below meth c (MQ below (aPost D cA ad0 A (sh, i0, lo0, rv0) (some (.int vR)) (sh, iR, lo, rv)) args s (sh.length - sh.length) (aSn sh - aSn sh) A) D cA A ad0 12 sh.length (aSn sh) 157 [some (.ref (100 + 23)), some (.ref (100 + p1)), some (.int x2), some (.int x3), some (.int x4), some (.int x5), some (.int x6), some (.int x7), some (.int x8), some (.int x9), none, some (.int x11)] [] (sh, i, lo, rv) := by
  unfold fX3_pass_157 at hf
  refine j_aload_n hX dX3_pass_157 rfl ?_
  refine j_getR (k := 0) hX kX3 (by decide) fk_X3_17 (rf_23_0 hG) dX3_pass_158 (sh_23 hG) rfl ?_
  refine j_iload hX dX3_pass_161 rfl ?_
  obtain ⟨v27, hh28, hf⟩ := bd1 hf
  refine j_cV1i hX lk_X3_123 kX1 dX3_pass_163 (sh_15 hG) (okX1_isLacking hG (cr_15 hG) hh28) rfl rfl (rmm (by omega) hRf hRl (by decide)) (Nat.le_of_ble_eq_true rfl) (Nat.le_add_right _ _) (Nat.le_add_right _ _) ?_
  refine j_if_eq (tgt := 186) hX dX3_pass_166 (by decide) (fun hc => ?_) (fun hc => ?_)
  · have hf := ifp hc hf
    exact aJx (kX3_pass_186 hX hr hlk hRf hRl h1 Hkh28 hG  hf) (And.intro rfl (And.intro rfl (And.intro rfl (And.intro rfl (And.intro rfl (And.intro rfl (And.intro rfl (And.intro rfl (And.intro rfl (And.intro rfl (rfl)))))))))))
  · have hf := ifn hc hf
    refine j_iload hX dX3_pass_169 rfl ?_
    refine j_iload hX dX3_pass_171 rfl ?_
    refine j_icmp_le (tgt := 186) hX dX3_pass_173 (by decide) (fun hc => ?_) (fun hc => ?_)
    · have hf := ifp hc hf
      exact aJx (kX3_pass_186 hX hr hlk hRf hRl h1 Hkh28 hG  hf) (And.intro rfl (And.intro rfl (And.intro rfl (And.intro rfl (And.intro rfl (And.intro rfl (And.intro rfl (And.intro rfl (And.intro rfl (And.intro rfl (rfl)))))))))))
    · have hf := ifn hc hf
      refine j_iload hX dX3_pass_176 rfl ?_
      refine j_istore hX dX3_pass_178 (by decide) rfl ?_
      refine j_aload_n hX dX3_pass_180 rfl ?_
      refine j_iload hX dX3_pass_181 rfl ?_
      have hf := ltd hf
      refine j_putI (k := 4) hX kX3 (by decide) fk_X3_29 dX3_pass_183 (sh_23 hG) rfl rfl rfl rfl ?_
      exact aJx (kX3_pass_186 hX hr hlk hRf hRl h1 Hkh28 hG  hf) (And.intro rfl (And.intro rfl (And.intro rfl (And.intro rfl (And.intro rfl (And.intro rfl (And.intro rfl (And.intro rfl (And.intro rfl (And.intro rfl (rfl)))))))))))
def fX3_pass_133 (p1 : Nat) (kh28 : Int32 → Int32 → Int32 → Int32 → Int32 → Int32 → Int32 → (Nat → Nat → Int32) → (Nat → Nat → Option Nat) → Option ((Int32) × (Nat → Nat → Int32))) (x2 : Int32) (x3 : Int32) (x4 : Int32) (x5 : Int32) (x6 : Int32) (x7 : Int32) (x8 : Int32) (x9 : Int32) (s0 : Int32) (s2 : Int32) (s3 : Int32) (s4 : Int32) (s5 : Int32) (i : Nat → Nat → Int32) (rv : Nat → Nat → Option Nat) : Option ((Int32) × (Nat → Nat → Int32)) := bn1 (fX3_waitOf s2 s3 s4 s5 i) fun v23 =>
    bn1 (fX3_takesCoffee p1 x9 i) fun v25 =>
    if v25 = 0 then (fX3_pass_157 p1 kh28 x2 x3 x4 x5 x6 x7 x8 x9 (s0 + v23) i rv) else (if x6 ≤ 0 then (fX3_pass_157 p1 kh28 x2 x3 x4 x5 x6 x7 x8 x9 (s0 + v23) i rv) else (fX3_pass_157 p1 kh28 x2 x3 x4 x5 (x6 + (-1)) x7 x8 x9 (s0 + v23) i rv))
theorem kX3_pass_133  {p1 : Nat} {vR : Int32} {iR : Nat → Nat → Int32} (hX : aX p s m args c RX3 cX3_pass 12 D cA A ad0) (hr : meth.sig.returnType = (some .int)) (hlk : meth.locks = false) (hRf : 4 ≤ R.frames) (hRl : 64 * 4 ≤ R.locals) (h1 : isScn sh rv p1) {kh28 : Int32 → Int32 → Int32 → Int32 → Int32 → Int32 → Int32 → (Nat → Nat → Int32) → (Nat → Nat → Option Nat) → Option ((Int32) × (Nat → Nat → Int32))} (Hkh28 : ∀ (x2 : Int32) (x3 : Int32) (x4 : Int32) (x5 : Int32) (x6 : Int32) (x7 : Int32) (x8 : Int32) (i : Nat → Nat → Int32), aGood sh rv → kh28 x2 x3 x4 x5 x6 x7 x8 i rv = some (vR, iR) → aJ p l e R s m args below meth c (MQ below (aPost D cA ad0 A (sh, i0, lo0, rv0) (some (.int vR)) (sh, iR, lo, rv)) args s (sh.length - sh.length) (aSn sh - aSn sh) A) D cA A ad0 12 sh.length (aSn sh) 28 [some (.ref (100 + 23)), some (.ref (100 + p1)), some (.int x2), some (.int x3), some (.int x4), some (.int x5), some (.int x6), some (.int x7), some (.int x8), none, none, none] [] (sh, i, lo, rv)) {x2 : Int32} {x3 : Int32} {x4 : Int32} {x5 : Int32} {x6 : Int32} {x7 : Int32} {x8 : Int32} {x9 : Int32} {s0 : Int32} {s2 : Int32} {s3 : Int32} {s4 : Int32} {s5 : Int32} (hG : aGood sh rv) (hf : fX3_pass_133 p1 kh28 x2 x3 x4 x5 x6 x7 x8 x9 s0 s2 s3 s4 s5 i rv = some (vR, iR)) : aJ p l e R s m args below meth c (MQ below (aPost D cA ad0 A (sh, i0, lo0, rv0) (some (.int vR)) (sh, iR, lo, rv)) args s (sh.length - sh.length) (aSn sh - aSn sh) A) D cA A ad0 12 sh.length (aSn sh) 133 [some (.ref (100 + 23)), some (.ref (100 + p1)), some (.int x2), some (.int x3), some (.int x4), some (.int x5), some (.int x6), some (.int x7), some (.int x8), some (.int x9), none, none] [.int s5, .int s4, .int s3, .int s2, .ref (100 + 23), .int s0] (sh, i, lo, rv) := by
  unfold fX3_pass_133 at hf
  obtain ⟨v23, hh24, hf⟩ := bd1 hf
  refine j_cV4i hX lk_X3_115 kX3 dX3_pass_133 (sh_23 hG) (okX3_waitOf hG hh24) rfl rfl (rmm (by omega) hRf hRl (by decide)) (Nat.le_of_ble_eq_true rfl) (Nat.le_add_right _ _) (Nat.le_add_right _ _) ?_
  refine j_iadd hX dX3_pass_136 ?_
  refine j_istore hX dX3_pass_137 (by decide) rfl ?_
  refine j_aload_n hX dX3_pass_139 rfl ?_
  refine j_aload_n hX dX3_pass_140 rfl ?_
  refine jpc (b := 141) rfl ?_
  refine j_iload hX dX3_pass_141 rfl ?_
  obtain ⟨v25, hh26, hf⟩ := bd1 hf
  refine j_cV2i hX lk_X3_119 kX3 dX3_pass_143 (sh_23 hG) (okX3_takesCoffee hG h1 hh26) rfl rfl (rmm (by omega) hRf hRl (by decide)) (Nat.le_of_ble_eq_true rfl) (Nat.le_add_right _ _) (Nat.le_add_right _ _) ?_
  refine j_if_eq (tgt := 157) hX dX3_pass_146 (by decide) (fun hc => ?_) (fun hc => ?_)
  · have hf := ifp hc hf
    exact aJx (kX3_pass_157 hX hr hlk hRf hRl h1 Hkh28 hG  hf) (And.intro rfl (And.intro rfl (And.intro rfl (And.intro rfl (And.intro rfl (And.intro rfl (And.intro rfl (And.intro rfl (And.intro rfl (And.intro rfl (And.intro rfl (rfl))))))))))))
  · have hf := ifn hc hf
    refine j_iload hX dX3_pass_149 rfl ?_
    refine j_if_le (tgt := 157) hX dX3_pass_151 (by decide) (fun hc => ?_) (fun hc => ?_)
    · have hf := ifp hc hf
      exact aJx (kX3_pass_157 hX hr hlk hRf hRl h1 Hkh28 hG  hf) (And.intro rfl (And.intro rfl (And.intro rfl (And.intro rfl (And.intro rfl (And.intro rfl (And.intro rfl (And.intro rfl (And.intro rfl (And.intro rfl (And.intro rfl (rfl))))))))))))
    · have hf := ifn hc hf
      refine j_iinc hX dX3_pass_154 rfl (congrArg (_ + ·) ic_m1) (by decide) rfl ?_
      exact aJx (kX3_pass_157 hX hr hlk hRf hRl h1 Hkh28 hG  hf) (And.intro rfl (And.intro rfl (And.intro rfl (And.intro rfl (And.intro rfl (And.intro rfl (And.intro rfl (And.intro rfl (And.intro rfl (And.intro rfl (And.intro rfl (rfl))))))))))))
def fX3_pass_104 (p1 : Nat) (kh28 : Int32 → Int32 → Int32 → Int32 → Int32 → Int32 → Int32 → (Nat → Nat → Int32) → (Nat → Nat → Option Nat) → Option ((Int32) × (Nat → Nat → Int32))) (x2 : Int32) (x3 : Int32) (x4 : Int32) (x5 : Int32) (x6 : Int32) (x7 : Int32) (x8 : Int32) (x9 : Int32) (x10 : Int32) (i : Nat → Nat → Int32) (rv : Nat → Nat → Option Nat) : Option ((Int32) × (Nat → Nat → Int32)) := bn1 (fX8_saidFor p1 x9 i) fun v21 =>
    if x6 ≤ 0 then (fX3_pass_133 p1 kh28 x2 x3 (x4 + x10) x5 x6 x7 x8 x9 (x4 + x10) x9 x2 v21 0 i rv) else (fX3_pass_133 p1 kh28 x2 x3 (x4 + x10) x5 x6 x7 x8 x9 (x4 + x10) x9 x2 v21 1 i rv)
theorem kX3_pass_104  {p1 : Nat} {vR : Int32} {iR : Nat → Nat → Int32} (hX : aX p s m args c RX3 cX3_pass 12 D cA A ad0) (hr : meth.sig.returnType = (some .int)) (hlk : meth.locks = false) (hRf : 4 ≤ R.frames) (hRl : 64 * 4 ≤ R.locals) (h1 : isScn sh rv p1) {kh28 : Int32 → Int32 → Int32 → Int32 → Int32 → Int32 → Int32 → (Nat → Nat → Int32) → (Nat → Nat → Option Nat) → Option ((Int32) × (Nat → Nat → Int32))} (Hkh28 : ∀ (x2 : Int32) (x3 : Int32) (x4 : Int32) (x5 : Int32) (x6 : Int32) (x7 : Int32) (x8 : Int32) (i : Nat → Nat → Int32), aGood sh rv → kh28 x2 x3 x4 x5 x6 x7 x8 i rv = some (vR, iR) → aJ p l e R s m args below meth c (MQ below (aPost D cA ad0 A (sh, i0, lo0, rv0) (some (.int vR)) (sh, iR, lo, rv)) args s (sh.length - sh.length) (aSn sh - aSn sh) A) D cA A ad0 12 sh.length (aSn sh) 28 [some (.ref (100 + 23)), some (.ref (100 + p1)), some (.int x2), some (.int x3), some (.int x4), some (.int x5), some (.int x6), some (.int x7), some (.int x8), none, none, none] [] (sh, i, lo, rv)) {x2 : Int32} {x3 : Int32} {x4 : Int32} {x5 : Int32} {x6 : Int32} {x7 : Int32} {x8 : Int32} {x9 : Int32} {x10 : Int32} (hG : aGood sh rv) (hf : fX3_pass_104 p1 kh28 x2 x3 x4 x5 x6 x7 x8 x9 x10 i rv = some (vR, iR)) : aJ p l e R s m args below meth c (MQ below (aPost D cA ad0 A (sh, i0, lo0, rv0) (some (.int vR)) (sh, iR, lo, rv)) args s (sh.length - sh.length) (aSn sh - aSn sh) A) D cA A ad0 12 sh.length (aSn sh) 104 [some (.ref (100 + 23)), some (.ref (100 + p1)), some (.int x2), some (.int x3), some (.int x4), some (.int x5), some (.int x6), some (.int x7), some (.int x8), some (.int x9), some (.int x10), none] [] (sh, i, lo, rv) := by
  unfold fX3_pass_104 at hf
  refine j_iload hX dX3_pass_104 rfl ?_
  refine j_iload hX dX3_pass_106 rfl ?_
  refine j_iadd hX dX3_pass_108 ?_
  refine j_istore hX dX3_pass_109 (by decide) rfl ?_
  refine j_iload hX dX3_pass_111 rfl ?_
  refine jpc (b := 113) rfl ?_
  refine j_aload_n hX dX3_pass_113 rfl ?_
  refine j_iload hX dX3_pass_114 rfl ?_
  refine j_iload_n hX dX3_pass_116 rfl ?_
  refine j_aload_n hX dX3_pass_117 rfl ?_
  refine j_iload hX dX3_pass_118 rfl ?_
  obtain ⟨v21, hh22, hf⟩ := bd1 hf
  refine j_cV1i hX lk_X3_101 kX8 dX3_pass_120 h1.1 (okX8_saidFor hG h1 hh22) rfl rfl (rmm (by omega) hRf hRl (by decide)) (Nat.le_of_ble_eq_true rfl) (Nat.le_add_right _ _) (Nat.le_add_right _ _) ?_
  refine jpc (b := 123) rfl ?_
  refine j_iload hX dX3_pass_123 rfl ?_
  refine j_if_le (tgt := 132) hX dX3_pass_125 (by decide) (fun hc => ?_) (fun hc => ?_)
  · have hf := ifp hc hf
    refine j_iconst hX dX3_pass_132 ic_0 ?_
    exact aJx (kX3_pass_133 hX hr hlk hRf hRl h1 Hkh28 hG  hf) (And.intro rfl (And.intro rfl (And.intro rfl (And.intro rfl (And.intro rfl (And.intro rfl (And.intro rfl (And.intro rfl (And.intro rfl (And.intro rfl (rfl)))))))))))
  · have hf := ifn hc hf
    refine j_iconst hX dX3_pass_128 ic_1 ?_
    refine j_goto (tgt := 133) hX dX3_pass_129 (by decide) ?_
    exact aJx (kX3_pass_133 hX hr hlk hRf hRl h1 Hkh28 hG  hf) (And.intro rfl (And.intro rfl (And.intro rfl (And.intro rfl (And.intro rfl (And.intro rfl (And.intro rfl (And.intro rfl (And.intro rfl (And.intro rfl (rfl)))))))))))
def fX3_pass_28 (p1 : Nat) : Nat → Int32 → Int32 → Int32 → Int32 → Int32 → Int32 → Int32 → (Nat → Nat → Int32) → (Nat → Nat → Option Nat) → Option ((Int32) × (Nat → Nat → Int32))
  | 0, _, _, _, _, _, _, _, _, _ => none
  | n + 1, x2, x3, x4, x5, x6, x7, x8, i, rv => bn1 (fX1_papers 15 i) fun v5 =>
    if v5 ≤ x8 then (if x3 = 0 then (some (x5, i)) else (bn1 (fX8_leaveCoffees p1 x6 i) fun i7 =>
    some (x5, i7))) else (bn1 (fX8_inDrawer p1 x8 i) fun v9 =>
    bn1 (fX3_turnOf p1 v9 x2 i) fun v11 =>
    bn1 (fX3_wakes p1 v9 x2 i) fun v13 =>
    if v13 = 0 then (fX3_pass_104 p1 (fX3_pass_28 p1 n) x2 x3 x4 x5 x6 x7 x8 v9 v11 i rv) else (bn2 (fX3_lossOf p1 v9 x4 x2 i rv) fun v15 i16 =>
    lt (u2 i16 23 3 ((i16 23 3) + v15)) fun i18 =>
    if x3 = 0 then (fX3_pass_104 p1 (fX3_pass_28 p1 n) x2 x3 x4 x5 x6 x7 x8 v9 v11 i18 rv) else (bn1 (fX8_rouse p1 v9 v15 i18) fun i19 =>
    fX3_pass_104 p1 (fX3_pass_28 p1 n) x2 x3 x4 x5 x6 x7 x8 v9 v11 i19 rv)))
theorem kX3_pass_28  {p1 : Nat} {vR : Int32} {iR : Nat → Nat → Int32} (hX : aX p s m args c RX3 cX3_pass 12 D cA A ad0) (hr : meth.sig.returnType = (some .int)) (hlk : meth.locks = false) (hRf : 4 ≤ R.frames) (hRl : 64 * 4 ≤ R.locals) (h1 : isScn sh rv p1) : ∀ (n : Nat) (x2 : Int32) (x3 : Int32) (x4 : Int32) (x5 : Int32) (x6 : Int32) (x7 : Int32) (x8 : Int32) (i : Nat → Nat → Int32), aGood sh rv → fX3_pass_28 p1 n x2 x3 x4 x5 x6 x7 x8 i rv = some (vR, iR) → aJ p l e R s m args below meth c (MQ below (aPost D cA ad0 A (sh, i0, lo0, rv0) (some (.int vR)) (sh, iR, lo, rv)) args s (sh.length - sh.length) (aSn sh - aSn sh) A) D cA A ad0 12 sh.length (aSn sh) 28 [some (.ref (100 + 23)), some (.ref (100 + p1)), some (.int x2), some (.int x3), some (.int x4), some (.int x5), some (.int x6), some (.int x7), some (.int x8), none, none, none] [] (sh, i, lo, rv) := by
  intro n
  induction n with
  | zero => intros; rename_i hf; cases hf
  | succ n ih =>
    intro x2 x3 x4 x5 x6 x7 x8 i hG hf
    rw [fX3_pass_28] at hf
    refine j_iload hX dX3_pass_28 rfl ?_
    refine j_aload_n hX dX3_pass_30 rfl ?_
    refine j_getR (k := 0) hX kX3 (by decide) fk_X3_17 (rf_23_0 hG) dX3_pass_31 (sh_23 hG) rfl ?_
    obtain ⟨v5, hh6, hf⟩ := bd1 hf
    refine j_cV0i hX lk_X3_36 kX1 dX3_pass_34 (sh_15 hG) (okX1_papers hG (cr_15 hG) hh6) rfl rfl (rmm (by omega) hRf hRl (by decide)) (Nat.le_of_ble_eq_true rfl) (Nat.le_add_right _ _) (Nat.le_add_right _ _) ?_
    refine j_icmp_ge (tgt := 201) hX dX3_pass_37 (by decide) (fun hc => ?_) (fun hc => ?_)
    · have hf := ifp hc hf
      refine j_iload_n hX dX3_pass_201 rfl ?_
      refine j_if_eq (tgt := 211) hX dX3_pass_202 (by decide) (fun hc => ?_) (fun hc => ?_)
      · have hf := ifp hc hf
        refine j_iload hX dX3_pass_211 rfl ?_
        cases hf
        exact j_ret hX hr hlk rfl dX3_pass_213
      · have hf := ifn hc hf
        refine j_aload_n hX dX3_pass_205 rfl ?_
        refine j_iload hX dX3_pass_206 rfl ?_
        obtain ⟨i7, hh8, hf⟩ := bd1 hf
        refine j_cV1v hX lk_X3_126 kX8 dX3_pass_208 h1.1 (okX8_leaveCoffees hG h1 hh8) rfl rfl (rmm (by omega) hRf hRl (by decide)) (Nat.le_of_ble_eq_true rfl) (Nat.le_add_right _ _) (Nat.le_add_right _ _) ?_
        refine j_iload hX dX3_pass_211 rfl ?_
        cases hf
        exact j_ret hX hr hlk rfl dX3_pass_213
    · have hf := ifn hc hf
      refine j_aload_n hX dX3_pass_40 rfl ?_
      refine j_iload hX dX3_pass_41 rfl ?_
      obtain ⟨v9, hh10, hf⟩ := bd1 hf
      refine j_cV1i hX lk_X3_42 kX8 dX3_pass_43 h1.1 (okX8_inDrawer hG h1 hh10) rfl rfl (rmm (by omega) hRf hRl (by decide)) (Nat.le_of_ble_eq_true rfl) (Nat.le_add_right _ _) (Nat.le_add_right _ _) ?_
      refine j_istore hX dX3_pass_46 (by decide) rfl ?_
      refine j_aload_n hX dX3_pass_48 rfl ?_
      refine jpc (b := 49) rfl ?_
      refine j_aload_n hX dX3_pass_49 rfl ?_
      refine j_iload hX dX3_pass_50 rfl ?_
      refine j_iload_n hX dX3_pass_52 rfl ?_
      obtain ⟨v11, hh12, hf⟩ := bd1 hf
      refine j_cV3i hX lk_X3_107 kX3 dX3_pass_53 (sh_23 hG) (okX3_turnOf hG h1 hh12) rfl rfl (rmm (by omega) hRf hRl (by decide)) (Nat.le_of_ble_eq_true rfl) (Nat.le_add_right _ _) (Nat.le_add_right _ _) ?_
      refine j_istore hX dX3_pass_56 (by decide) rfl ?_
      refine j_aload_n hX dX3_pass_58 rfl ?_
      refine jpc (b := 59) rfl ?_
      refine j_aload_n hX dX3_pass_59 rfl ?_
      refine j_iload hX dX3_pass_60 rfl ?_
      refine j_iload_n hX dX3_pass_62 rfl ?_
      obtain ⟨v13, hh14, hf⟩ := bd1 hf
      refine j_cV3i hX lk_X3_91 kX3 dX3_pass_63 (sh_23 hG) (okX3_wakes hG h1 hh14) rfl rfl (rmm (by omega) hRf hRl (by decide)) (Nat.le_of_ble_eq_true rfl) (Nat.le_add_right _ _) (Nat.le_add_right _ _) ?_
      refine j_if_eq (tgt := 104) hX dX3_pass_66 (by decide) (fun hc => ?_) (fun hc => ?_)
      · have hf := ifp hc hf
        exact aJx (kX3_pass_104 hX hr hlk hRf hRl h1 ih hG  hf) (And.intro rfl (And.intro rfl (And.intro rfl (And.intro rfl (And.intro rfl (And.intro rfl (And.intro rfl (And.intro rfl (And.intro rfl (And.intro rfl (And.intro rfl (rfl))))))))))))
      · have hf := ifn hc hf
        refine j_aload_n hX dX3_pass_69 rfl ?_
        refine j_aload_n hX dX3_pass_70 rfl ?_
        refine j_iload hX dX3_pass_71 rfl ?_
        refine j_iload hX dX3_pass_73 rfl ?_
        refine j_iload_n hX dX3_pass_75 rfl ?_
        refine jpc (b := 76) rfl ?_
        obtain ⟨v15, i16, hh17, hf⟩ := bd2 hf
        refine j_cV4i hX lk_X3_32 kX3 dX3_pass_76 (sh_23 hG) (okX3_lossOf hG h1 hh17) rfl rfl (rmm (by omega) hRf hRl (by decide)) (Nat.le_of_ble_eq_true rfl) (Nat.le_add_right _ _) (Nat.le_add_right _ _) ?_
        refine j_istore hX dX3_pass_79 (by decide) rfl ?_
        refine j_aload_n hX dX3_pass_81 rfl ?_
        refine j_dup hX dX3_pass_82 rfl ?_
        refine j_getI (k := 3) hX kX3 (by decide) fk_X3_25 dX3_pass_83 (sh_23 hG) rfl ?_
        refine j_iload hX dX3_pass_86 rfl ?_
        refine jpc (b := 88) rfl ?_
        refine j_iadd hX dX3_pass_88 ?_
        have hf := ltd hf
        refine j_putI (k := 3) hX kX3 (by decide) fk_X3_25 dX3_pass_89 (sh_23 hG) rfl rfl rfl rfl ?_
        refine j_iload_n hX dX3_pass_92 rfl ?_
        refine j_if_eq (tgt := 104) hX dX3_pass_93 (by decide) (fun hc => ?_) (fun hc => ?_)
        · have hf := ifp hc hf
          exact aJx (kX3_pass_104 hX hr hlk hRf hRl h1 ih hG  hf) (And.intro rfl (And.intro rfl (And.intro rfl (And.intro rfl (And.intro rfl (And.intro rfl (And.intro rfl (And.intro rfl (And.intro rfl (And.intro rfl (And.intro rfl (rfl))))))))))))
        · have hf := ifn hc hf
          refine j_aload_n hX dX3_pass_96 rfl ?_
          refine j_iload hX dX3_pass_97 rfl ?_
          refine j_iload hX dX3_pass_99 rfl ?_
          obtain ⟨i19, hh20, hf⟩ := bd1 hf
          refine j_cV2v hX lk_X3_111 kX8 dX3_pass_101 h1.1 (okX8_rouse hG h1 hh20) rfl rfl (rmm (by omega) hRf hRl (by decide)) (Nat.le_of_ble_eq_true rfl) (Nat.le_add_right _ _) (Nat.le_add_right _ _) ?_
          exact aJx (kX3_pass_104 hX hr hlk hRf hRl h1 ih hG  hf) (And.intro rfl (And.intro rfl (And.intro rfl (And.intro rfl (And.intro rfl (And.intro rfl (And.intro rfl (And.intro rfl (And.intro rfl (And.intro rfl (And.intro rfl (rfl))))))))))))
def fX3_pass (p1 : Nat) (a2 : Int32) (a3 : Int32) (i : Nat → Nat → Int32) (rv : Nat → Nat → Option Nat) : Option ((Int32) × (Nat → Nat → Int32)) := bn1 (fX8_coffees p1 i) fun v1 =>
    lt (u2 i 23 3 0) fun i3 =>
    lt (u2 i3 23 4 (-1)) fun i4 =>
    fX3_pass_28 p1 fuel a2 a3 0 0 v1 (-1) 0 i4 rv
theorem kX3_pass  {p1 : Nat} {vR : Int32} {iR : Nat → Nat → Int32} (hX : aX p s m args c RX3 cX3_pass 12 D cA A ad0) (hr : meth.sig.returnType = (some .int)) (hlk : meth.locks = false) (hRf : 4 ≤ R.frames) (hRl : 64 * 4 ≤ R.locals) (h1 : isScn sh rv p1) {a2 : Int32} {a3 : Int32} (hG : aGood sh rv) (hf : fX3_pass p1 a2 a3 i rv = some (vR, iR)) : aJ p l e R s m args below meth c (MQ below (aPost D cA ad0 A (sh, i0, lo0, rv0) (some (.int vR)) (sh, iR, lo, rv)) args s (sh.length - sh.length) (aSn sh - aSn sh) A) D cA A ad0 12 sh.length (aSn sh) 0 [some (.ref (100 + 23)), some (.ref (100 + p1)), some (.int a2), some (.int a3), none, none, none, none, none, none, none, none] [] (sh, i, lo, rv) := by
  unfold fX3_pass at hf
  refine j_iconst hX dX3_pass_0 ic_0 ?_
  refine j_istore hX dX3_pass_1 (by decide) rfl ?_
  refine j_iconst hX dX3_pass_3 ic_0 ?_
  refine j_istore hX dX3_pass_4 (by decide) rfl ?_
  refine j_aload_n hX dX3_pass_6 rfl ?_
  refine jpc (b := 7) rfl ?_
  obtain ⟨v1, hh2, hf⟩ := bd1 hf
  refine j_cV0i hX lk_X3_104 kX8 dX3_pass_7 h1.1 (okX8_coffees hG h1 hh2) rfl rfl (rmm (by omega) hRf hRl (by decide)) (Nat.le_of_ble_eq_true rfl) (Nat.le_add_right _ _) (Nat.le_add_right _ _) ?_
  refine j_istore hX dX3_pass_10 (by decide) rfl ?_
  refine j_iconst hX dX3_pass_12 ic_m1 ?_
  refine j_istore hX dX3_pass_13 (by decide) rfl ?_
  refine j_aload_n hX dX3_pass_15 rfl ?_
  refine j_iconst hX dX3_pass_16 ic_0 ?_
  refine jpc (b := 17) rfl ?_
  have hf := ltd hf
  refine j_putI (k := 3) hX kX3 (by decide) fk_X3_25 dX3_pass_17 (sh_23 hG) rfl rfl rfl rfl ?_
  refine j_aload_n hX dX3_pass_20 rfl ?_
  refine j_iconst hX dX3_pass_21 ic_m1 ?_
  have hf := ltd hf
  refine j_putI (k := 4) hX kX3 (by decide) fk_X3_29 dX3_pass_22 (sh_23 hG) rfl rfl rfl rfl ?_
  refine j_iconst hX dX3_pass_25 ic_0 ?_
  refine j_istore hX dX3_pass_26 (by decide) rfl ?_
  exact aJx (kX3_pass_28 hX hr hlk hRf hRl h1 fuel _ _ _ _ _ _ _ _ hG  hf) (And.intro rfl (And.intro rfl (And.intro rfl (And.intro rfl (And.intro rfl (And.intro rfl (And.intro rfl (And.intro rfl (And.intro rfl (rfl))))))))))
theorem okX3_pass {l : Launch} {sh : List aSh} {i : Nat → Nat → Int32} {lo : Nat → Nat → Int64} {rv : Nat → Nat → Option Nat}  {p1 : Nat} {a2 : Int32} {a3 : Int32} {vR : Int32} {iR : Nat → Nat → Int32} (hG : aGood sh rv) (h1 : isScn sh rv p1) (hf : fX3_pass p1 a2 a3 i rv = some (vR, iR)) : aM l yX3_pass cX3_pass 12 (some .int) 4 [.ref (100 + 23), .ref (100 + p1), .int a2, .int a3] (sh, i, lo, rv) (some (.int vR)) (sh, iR, lo, rv) :=
  aM_of (by decide) (Nat.le_of_ble_eq_true rfl) (Nat.le_refl _) (Nat.le_refl _) (fun p e s m args below meth c D cA A ad0 hX hr hlk hnm => kX3_pass hX hr hlk (Nat.le_refl _) (Nat.le_refl _) h1 hG hf)
end DC
