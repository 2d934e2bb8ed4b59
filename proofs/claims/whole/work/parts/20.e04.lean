/-! decompiled: X7_overWith X7_findSoonest X7_digits X7_worth X11_order X7_leastPossible X11_bound X0_asleepWithPapers X0_sumByHand X0_layOutDrawer X0_lossWithout X0_addBorders X0_findWhomToWake X0_answer X0_worth X11_before X0_cellOf X0_layOutRest -/
section DC
variable {p : Program} {l : Launch} {e : Env} {R : Room} {s : State} {m : MethodId} {args : Array Value} {below : List Frame} {meth : Method} {c : Code} {D : va_G} {cA : FieldType → ClassId} {A : Nat → Prop} {ad0 : Nat → Nat} {sh : List aSh} {i i0 : Nat → Nat → Int32} {lo lo0 : Nat → Nat → Int64} {rv rv0 : Nat → Nat → Option Nat}
def fX7_overWith_32 (x1 : Int32) (x2 : Int32) (x3 : Int32) (x4 : Int32) (s0 : Int32) (i : Nat → Nat → Int32) : Option ((Int32)) := bn1 (fX8_saidFor 19 x4 i) fun v6 =>
    bn1 (fX3_waitOf x4 x3 v6 s0 i) fun v8 =>
    if aIn x1 128 = true then
    (if aIn x2 7 = true then
    (if aIn (x1 ||| ((1 : Int32) <<< (x2 &&& 31))) 896 = true then
    (some ((if (((i 33 (x1 : Int32).toNatClampNeg) + (i 32 (x2 : Int32).toNatClampNeg)) + v8) < (i 34 ((x1 ||| ((1 : Int32) <<< (x2 &&& 31))) : Int32).toNatClampNeg) then (i 34 ((x1 ||| ((1 : Int32) <<< (x2 &&& 31))) : Int32).toNatClampNeg) else (((i 33 (x1 : Int32).toNatClampNeg) + (i 32 (x2 : Int32).toNatClampNeg)) + v8)))) else none) else none) else none
theorem kX7_overWith_32  {vR : Int32} (hX : aX p s m args c RX7 cX7_overWith 7 D cA A ad0) (hr : meth.sig.returnType = (some .int)) (hlk : meth.locks = false) (hRf : 3 ≤ R.frames) (hRl : 64 * 3 ≤ R.locals) {x1 : Int32} {x2 : Int32} {x3 : Int32} {x4 : Int32} {s0 : Int32} (hG : aGood sh rv) (hf : fX7_overWith_32 x1 x2 x3 x4 s0 i = some (vR)) : aJ p l e R s m args below meth c (MQ below (aPost D cA ad0 A (sh, i0, lo0, rv0) (some (.int vR)) (sh, i, lo, rv)) args s (sh.length - sh.length) (aSn sh - aSn sh) A) D cA A ad0 7 sh.length (aSn sh) 32 [some (.ref (100 + 30)), some (.int x1), some (.int x2), some (.int x3), some (.int x4), none, none] [.int s0] (sh, i, lo, rv) := by
  unfold fX7_overWith_32 at hf
  refine j_istore hX dX7_overWith_32 (by decide) rfl ?_
  refine j_aload_n hX dX7_overWith_34 rfl ?_
  refine j_getR (k := 1) hX kX7 (by decide) fk_X7_30 (rf_30_1 hG) dX7_overWith_35 (sh_30 hG) rfl ?_
  refine j_iload hX dX7_overWith_38 rfl ?_
  refine j_iload_n hX dX7_overWith_40 rfl ?_
  refine jpc (b := 41) rfl ?_
  refine j_aload_n hX dX7_overWith_41 rfl ?_
  refine j_getR (k := 2) hX kX7 (by decide) fk_X7_34 (rf_30_2 hG) dX7_overWith_42 (sh_30 hG) rfl ?_
  refine j_iload hX dX7_overWith_45 rfl ?_
  obtain ⟨v6, hh7, hf⟩ := bd1 hf
  refine j_cV1i hX lk_X7_60 kX8 dX7_overWith_47 (sh_19 hG) (okX8_saidFor hG (sc_19 hG) hh7) rfl rfl (rmm (by omega) hRf hRl (by decide)) (Nat.le_of_ble_eq_true rfl) (Nat.le_add_right _ _) (Nat.le_add_right _ _) ?_
  refine j_iload hX dX7_overWith_50 rfl ?_
  obtain ⟨v8, hh9, hf⟩ := bd1 hf
  refine j_cV4i hX lk_X7_63 kX3 dX7_overWith_52 (sh_23 hG) (okX3_waitOf hG hh9) rfl rfl (rmm (by omega) hRf hRl (by decide)) (Nat.le_of_ble_eq_true rfl) (Nat.le_add_right _ _) (Nat.le_add_right _ _) ?_
  refine jpc (b := 55) rfl ?_
  refine j_istore hX dX7_overWith_55 (by decide) rfl ?_
  refine j_aload_n hX dX7_overWith_57 rfl ?_
  refine j_getR (k := 5) hX kX7 (by decide) fk_X7_20 (rf_30_5 hG) dX7_overWith_58 (sh_30 hG) rfl ?_
  refine j_iload_n hX dX7_overWith_61 rfl ?_
  obtain ⟨hg, hf⟩ := gd hf
  refine j_iald hX (sh_33 hG) hg dX7_overWith_62 ?_
  refine j_aload_n hX dX7_overWith_63 rfl ?_
  refine j_getR (k := 4) hX kX7 (by decide) fk_X7_17 (rf_30_4 hG) dX7_overWith_64 (sh_30 hG) rfl ?_
  refine j_iload_n hX dX7_overWith_67 rfl ?_
  obtain ⟨hg, hf⟩ := gd hf
  refine j_iald hX (sh_32 hG) hg dX7_overWith_68 ?_
  refine j_iadd hX dX7_overWith_69 ?_
  refine j_iload hX dX7_overWith_70 rfl ?_
  refine j_iadd hX dX7_overWith_72 ?_
  refine j_aload_n hX dX7_overWith_73 rfl ?_
  refine j_getR (k := 6) hX kX7 (by decide) fk_X7_23 (rf_30_6 hG) dX7_overWith_74 (sh_30 hG) rfl ?_
  refine jpc (b := 77) rfl ?_
  refine j_iload_n hX dX7_overWith_77 rfl ?_
  refine j_iconst hX dX7_overWith_78 ic_1 ?_
  refine j_iload_n hX dX7_overWith_79 rfl ?_
  refine j_ishl hX dX7_overWith_80 ?_
  refine j_ior hX dX7_overWith_81 ?_
  obtain ⟨hg, hf⟩ := gd hf
  refine j_iald hX (sh_34 hG) hg dX7_overWith_82 ?_
  refine j_max hX lk_X7_67 dX7_overWith_83 ⟨by omega, Nat.le_trans (Nat.le_of_ble_eq_true rfl) hRl⟩ (Nat.le_add_right _ _) (Nat.le_add_right _ _) ?_
  cases hf
  exact j_ret hX hr hlk rfl dX7_overWith_86
def fX7_overWith (a1 : Int32) (a2 : Int32) (a3 : Int32) (i : Nat → Nat → Int32) : Option ((Int32)) := if aIn a2 9 = true then
    (lt (i 31 (a2 : Int32).toNatClampNeg) fun t1 =>
    bn1 (fX8_coffees 19 i) fun v2 =>
    bn1 (fJ6_bitCount_0f7a4 (a1 &&& (i 30 8))) fun v4 =>
    if v2 ≤ v4 then (fX7_overWith_32 a1 a2 a3 t1 0 i) else (fX7_overWith_32 a1 a2 a3 t1 1 i)) else none
theorem kX7_overWith  {vR : Int32} (hX : aX p s m args c RX7 cX7_overWith 7 D cA A ad0) (hr : meth.sig.returnType = (some .int)) (hlk : meth.locks = false) (hRf : 3 ≤ R.frames) (hRl : 64 * 3 ≤ R.locals) {a1 : Int32} {a2 : Int32} {a3 : Int32} (hG : aGood sh rv) (hf : fX7_overWith a1 a2 a3 i = some (vR)) : aJ p l e R s m args below meth c (MQ below (aPost D cA ad0 A (sh, i0, lo0, rv0) (some (.int vR)) (sh, i, lo, rv)) args s (sh.length - sh.length) (aSn sh - aSn sh) A) D cA A ad0 7 sh.length (aSn sh) 0 [some (.ref (100 + 30)), some (.int a1), some (.int a2), some (.int a3), none, none, none] [] (sh, i, lo, rv) := by
  unfold fX7_overWith at hf
  refine j_aload_n hX dX7_overWith_0 rfl ?_
  refine j_getR (k := 3) hX kX7 (by decide) fk_X7_13 (rf_30_3 hG) dX7_overWith_1 (sh_30 hG) rfl ?_
  refine j_iload_n hX dX7_overWith_4 rfl ?_
  obtain ⟨hg, hf⟩ := gd hf
  refine j_iald hX (sh_31 hG) hg dX7_overWith_5 ?_
  have hf := ltd hf
  refine j_istore hX dX7_overWith_6 (by decide) rfl ?_
  refine j_aload_n hX dX7_overWith_8 rfl ?_
  refine j_getR (k := 2) hX kX7 (by decide) fk_X7_34 (rf_30_2 hG) dX7_overWith_9 (sh_30 hG) rfl ?_
  obtain ⟨v2, hh3, hf⟩ := bd1 hf
  refine j_cV0i hX lk_X7_102 kX8 dX7_overWith_12 (sh_19 hG) (okX8_coffees hG (sc_19 hG) hh3) rfl rfl (rmm (by omega) hRf hRl (by decide)) (Nat.le_of_ble_eq_true rfl) (Nat.le_add_right _ _) (Nat.le_add_right _ _) ?_
  refine j_iload_n hX dX7_overWith_15 rfl ?_
  refine jpc (b := 16) rfl ?_
  refine j_aload_n hX dX7_overWith_16 rfl ?_
  refine j_getI (k := 8) hX kX7 (by decide) fk_X7_88 dX7_overWith_17 (sh_30 hG) rfl ?_
  refine j_iand hX dX7_overWith_20 ?_
  obtain ⟨v4, hh5, hf⟩ := bd1 hf
  refine j_cS1i hX lk_X7_105 dX7_overWith_21 (okJ6_bitCount_0f7a4 hG hh5) rfl rfl (rmm (by omega) hRf hRl (by decide)) (Nat.le_of_ble_eq_true rfl) (Nat.le_add_right _ _) (Nat.le_add_right _ _) ?_
  refine j_icmp_le (tgt := 31) hX dX7_overWith_24 (by decide) (fun hc => ?_) (fun hc => ?_)
  · have hf := ifp hc hf
    refine j_iconst hX dX7_overWith_31 ic_0 ?_
    exact aJx (kX7_overWith_32 hX hr hlk hRf hRl hG  hf) (And.intro rfl (And.intro rfl (And.intro rfl (And.intro rfl (And.intro rfl (rfl))))))
  · have hf := ifn hc hf
    refine j_iconst hX dX7_overWith_27 ic_1 ?_
    refine j_goto (tgt := 32) hX dX7_overWith_28 (by decide) ?_
    exact aJx (kX7_overWith_32 hX hr hlk hRf hRl hG  hf) (And.intro rfl (And.intro rfl (And.intro rfl (And.intro rfl (And.intro rfl (rfl))))))
theorem okX7_overWith {l : Launch} {sh : List aSh} {i : Nat → Nat → Int32} {lo : Nat → Nat → Int64} {rv : Nat → Nat → Option Nat}  {a1 : Int32} {a2 : Int32} {a3 : Int32} {vR : Int32} (hG : aGood sh rv) (hf : fX7_overWith a1 a2 a3 i = some (vR)) : aM l yX7_overWith cX7_overWith 7 (some .int) 3 [.ref (100 + 30), .int a1, .int a2, .int a3] (sh, i, lo, rv) (some (.int vR)) (sh, i, lo, rv) :=
  aM_of (by decide) (Nat.le_of_ble_eq_true rfl) (Nat.le_refl _) (Nat.le_refl _) (fun p e s m args below meth c D cA A ad0 hX hr hlk hnm => kX7_overWith hX hr hlk (Nat.le_refl _) (Nat.le_refl _) hG hf)
def fX7_findSoonest_86 (kh30 : Int32 → Int32 → (Nat → Nat → Int32) → Option ((Nat → Nat → Int32))) (kh45 : Int32 → Int32 → Int32 → (Nat → Nat → Int32) → Option ((Nat → Nat → Int32))) (x1 : Int32) (x3 : Int32) (x4 : Int32) (i : Nat → Nat → Int32) : Option ((Nat → Nat → Int32)) := kh45 x1 x3 (x4 + 1) i
theorem kX7_findSoonest_86  {iR : Nat → Nat → Int32} (hX : aX p s m args c RX7 cX7_findSoonest 6 D cA A ad0) (hr : meth.sig.returnType = none) (hlk : meth.locks = false) (hRf : 5 ≤ R.frames) (hRl : 64 * 5 ≤ R.locals) {kh30 : Int32 → Int32 → (Nat → Nat → Int32) → Option ((Nat → Nat → Int32))} {kh45 : Int32 → Int32 → Int32 → (Nat → Nat → Int32) → Option ((Nat → Nat → Int32))} (Hkh30 : ∀ (x1 : Int32) (x3 : Int32) (i : Nat → Nat → Int32), aGood sh rv → kh30 x1 x3 i = some (iR) → aJ p l e R s m args below meth c (MQ below (aPost D cA ad0 A (sh, i0, lo0, rv0) none (sh, iR, lo, rv)) args s (sh.length - sh.length) (aSn sh - aSn sh) A) D cA A ad0 6 sh.length (aSn sh) 30 [some (.ref (100 + 30)), some (.int x1), none, some (.int x3), none, none] [] (sh, i, lo, rv)) (Hkh45 : ∀ (x1 : Int32) (x3 : Int32) (x4 : Int32) (i : Nat → Nat → Int32), aGood sh rv → kh45 x1 x3 x4 i = some (iR) → aJ p l e R s m args below meth c (MQ below (aPost D cA ad0 A (sh, i0, lo0, rv0) none (sh, iR, lo, rv)) args s (sh.length - sh.length) (aSn sh - aSn sh) A) D cA A ad0 6 sh.length (aSn sh) 45 [some (.ref (100 + 30)), some (.int x1), none, some (.int x3), some (.int x4), none] [] (sh, i, lo, rv)) {x1 : Int32} {x3 : Int32} {x4 : Int32} (hG : aGood sh rv) (hf : fX7_findSoonest_86 kh30 kh45 x1 x3 x4 i = some (iR)) : aJ p l e R s m args below meth c (MQ below (aPost D cA ad0 A (sh, i0, lo0, rv0) none (sh, iR, lo, rv)) args s (sh.length - sh.length) (aSn sh - aSn sh) A) D cA A ad0 6 sh.length (aSn sh) 86 [some (.ref (100 + 30)), some (.int x1), none, some (.int x3), some (.int x4), none] [] (sh, i, lo, rv) := by
  unfold fX7_findSoonest_86 at hf
  refine j_iinc hX dX7_findSoonest_86 rfl (congrArg (_ + ·) ic_1) (by decide) rfl ?_
  refine j_goto (tgt := 45) hX dX7_findSoonest_89 (by decide) ?_
  exact aJx (Hkh45 _ _ _ _ hG  hf) (And.intro rfl (And.intro rfl (And.intro rfl (And.intro rfl (rfl)))))
def fX7_findSoonest_45 (kh30 : Int32 → Int32 → (Nat → Nat → Int32) → Option ((Nat → Nat → Int32))) : Nat → Int32 → Int32 → Int32 → (Nat → Nat → Int32) → Option ((Nat → Nat → Int32))
  | 0, _, _, _, _ => none
  | n + 1, x1, x3, x4, i => if (i 30 7) ≤ x4 then (kh30 x1 (x3 + (-1)) i) else (if ((x3 >>> (x4 &&& 31)) &&& (1 : Int32)) = 0 then (if aIn x3 896 = true then
    (bn1 (fX7_overWith x3 x4 x1 i) fun v8 =>
    if aIn x3 896 = true then
    (lt (u2 i 34 (x3 : Int32).toNatClampNeg (if v8 < (i 34 (x3 : Int32).toNatClampNeg) then v8 else (i 34 (x3 : Int32).toNatClampNeg))) fun i10 => fX7_findSoonest_86 kh30 (fX7_findSoonest_45 kh30 n) x1 x3 x4 i10) else none) else none) else (fX7_findSoonest_86 kh30 (fX7_findSoonest_45 kh30 n) x1 x3 x4 i))
theorem kX7_findSoonest_45  {iR : Nat → Nat → Int32} (hX : aX p s m args c RX7 cX7_findSoonest 6 D cA A ad0) (hr : meth.sig.returnType = none) (hlk : meth.locks = false) (hRf : 5 ≤ R.frames) (hRl : 64 * 5 ≤ R.locals) {kh30 : Int32 → Int32 → (Nat → Nat → Int32) → Option ((Nat → Nat → Int32))} (Hkh30 : ∀ (x1 : Int32) (x3 : Int32) (i : Nat → Nat → Int32), aGood sh rv → kh30 x1 x3 i = some (iR) → aJ p l e R s m args below meth c (MQ below (aPost D cA ad0 A (sh, i0, lo0, rv0) none (sh, iR, lo, rv)) args s (sh.length - sh.length) (aSn sh - aSn sh) A) D cA A ad0 6 sh.length (aSn sh) 30 [some (.ref (100 + 30)), some (.int x1), none, some (.int x3), none, none] [] (sh, i, lo, rv)) : ∀ (n : Nat) (x1 : Int32) (x3 : Int32) (x4 : Int32) (i : Nat → Nat → Int32), aGood sh rv → fX7_findSoonest_45 kh30 n x1 x3 x4 i = some (iR) → aJ p l e R s m args below meth c (MQ below (aPost D cA ad0 A (sh, i0, lo0, rv0) none (sh, iR, lo, rv)) args s (sh.length - sh.length) (aSn sh - aSn sh) A) D cA A ad0 6 sh.length (aSn sh) 45 [some (.ref (100 + 30)), some (.int x1), none, some (.int x3), some (.int x4), none] [] (sh, i, lo, rv) := by
  intro n
  induction n with
  | zero => intros; rename_i hf; cases hf
  | succ n ih =>
    intro x1 x3 x4 i hG hf
    rw [fX7_findSoonest_45] at hf
    refine j_iload hX dX7_findSoonest_45 rfl ?_
    refine j_aload_n hX dX7_findSoonest_47 rfl ?_
    refine j_getI (k := 7) hX kX7 (by decide) fk_X7_77 dX7_findSoonest_48 (sh_30 hG) rfl ?_
    refine j_icmp_ge (tgt := 92) hX dX7_findSoonest_51 (by decide) (fun hc => ?_) (fun hc => ?_)
    · have hf := ifp hc hf
      refine j_iinc hX dX7_findSoonest_92 rfl (congrArg (_ + ·) ic_m1) (by decide) rfl ?_
      refine j_goto (tgt := 30) hX dX7_findSoonest_95 (by decide) ?_
      exact aJx (Hkh30 _ _ _ hG  hf) (And.intro rfl (And.intro rfl (And.intro rfl (rfl))))
    · have hf := ifn hc hf
      refine j_iload_n hX dX7_findSoonest_54 rfl ?_
      refine j_iload hX dX7_findSoonest_55 rfl ?_
      refine j_ishr hX dX7_findSoonest_57 ?_
      refine j_iconst hX dX7_findSoonest_58 ic_1 ?_
      refine j_iand hX dX7_findSoonest_59 ?_
      refine jpc (b := 60) rfl ?_
      refine j_if_ne (tgt := 86) hX dX7_findSoonest_60 (by decide) (fun hc => ?_) (fun hc => ?_)
      · have hf := ifn hc hf
        exact aJx (kX7_findSoonest_86 hX hr hlk hRf hRl Hkh30 ih hG  hf) (And.intro rfl (And.intro rfl (And.intro rfl (And.intro rfl (rfl)))))
      · have hf := ifp hc hf
        refine j_aload_n hX dX7_findSoonest_63 rfl ?_
        refine j_getR (k := 6) hX kX7 (by decide) fk_X7_23 (rf_30_6 hG) dX7_findSoonest_64 (sh_30 hG) rfl ?_
        refine j_iload_n hX dX7_findSoonest_67 rfl ?_
        refine j_aload_n hX dX7_findSoonest_68 rfl ?_
        refine j_getR (k := 6) hX kX7 (by decide) fk_X7_23 (rf_30_6 hG) dX7_findSoonest_69 (sh_30 hG) rfl ?_
        refine jpc (b := 72) rfl ?_
        refine j_iload_n hX dX7_findSoonest_72 rfl ?_
        obtain ⟨hg, hf⟩ := gd hf
        refine j_iald hX (sh_34 hG) hg dX7_findSoonest_73 ?_
        refine j_aload_n hX dX7_findSoonest_74 rfl ?_
        refine j_iload_n hX dX7_findSoonest_75 rfl ?_
        refine j_iload hX dX7_findSoonest_76 rfl ?_
        refine j_iload_n hX dX7_findSoonest_78 rfl ?_
        obtain ⟨v8, hh9, hf⟩ := bd1 hf
        refine j_cV3i hX lk_X7_81 kX7 dX7_findSoonest_79 (sh_30 hG) (okX7_overWith hG hh9) rfl rfl (rmm (by omega) hRf hRl (by decide)) (Nat.le_of_ble_eq_true rfl) (Nat.le_add_right _ _) (Nat.le_add_right _ _) ?_
        refine jpc (b := 82) rfl ?_
        refine j_min hX lk_X7_85 dX7_findSoonest_82 ⟨by omega, Nat.le_trans (Nat.le_of_ble_eq_true rfl) hRl⟩ (Nat.le_add_right _ _) (Nat.le_add_right _ _) ?_
        obtain ⟨hg, hf⟩ := gd hf
        have hf := ltd hf
        refine j_iast hX (sh_34 hG) hg dX7_findSoonest_85 ?_
        exact aJx (kX7_findSoonest_86 hX hr hlk hRf hRl Hkh30 ih hG  hf) (And.intro rfl (And.intro rfl (And.intro rfl (And.intro rfl (rfl)))))
def fX7_findSoonest_166 (kh118 : Int32 → Int32 → Int32 → (Nat → Nat → Int32) → Option ((Nat → Nat → Int32))) (kh130 : Int32 → Int32 → Int32 → Int32 → (Nat → Nat → Int32) → Option ((Nat → Nat → Int32))) (x1 : Int32) (x3 : Int32) (x4 : Int32) (x5 : Int32) (i : Nat → Nat → Int32) : Option ((Nat → Nat → Int32)) := kh130 x1 x3 x4 (x5 + 1) i
theorem kX7_findSoonest_166  {iR : Nat → Nat → Int32} (hX : aX p s m args c RX7 cX7_findSoonest 6 D cA A ad0) (hr : meth.sig.returnType = none) (hlk : meth.locks = false) (hRf : 5 ≤ R.frames) (hRl : 64 * 5 ≤ R.locals) {kh118 : Int32 → Int32 → Int32 → (Nat → Nat → Int32) → Option ((Nat → Nat → Int32))} {kh130 : Int32 → Int32 → Int32 → Int32 → (Nat → Nat → Int32) → Option ((Nat → Nat → Int32))} (Hkh118 : ∀ (x1 : Int32) (x3 : Int32) (x4 : Int32) (i : Nat → Nat → Int32), aGood sh rv → kh118 x1 x3 x4 i = some (iR) → aJ p l e R s m args below meth c (MQ below (aPost D cA ad0 A (sh, i0, lo0, rv0) none (sh, iR, lo, rv)) args s (sh.length - sh.length) (aSn sh - aSn sh) A) D cA A ad0 6 sh.length (aSn sh) 118 [some (.ref (100 + 30)), some (.int x1), none, some (.int x3), some (.int x4), none] [] (sh, i, lo, rv)) (Hkh130 : ∀ (x1 : Int32) (x3 : Int32) (x4 : Int32) (x5 : Int32) (i : Nat → Nat → Int32), aGood sh rv → kh130 x1 x3 x4 x5 i = some (iR) → aJ p l e R s m args below meth c (MQ below (aPost D cA ad0 A (sh, i0, lo0, rv0) none (sh, iR, lo, rv)) args s (sh.length - sh.length) (aSn sh - aSn sh) A) D cA A ad0 6 sh.length (aSn sh) 130 [some (.ref (100 + 30)), some (.int x1), none, some (.int x3), some (.int x4), some (.int x5)] [] (sh, i, lo, rv)) {x1 : Int32} {x3 : Int32} {x4 : Int32} {x5 : Int32} (hG : aGood sh rv) (hf : fX7_findSoonest_166 kh118 kh130 x1 x3 x4 x5 i = some (iR)) : aJ p l e R s m args below meth c (MQ below (aPost D cA ad0 A (sh, i0, lo0, rv0) none (sh, iR, lo, rv)) args s (sh.length - sh.length) (aSn sh - aSn sh) A) D cA A ad0 6 sh.length (aSn sh) 166 [some (.ref (100 + 30)), some (.int x1), none, some (.int x3), some (.int x4), some (.int x5)] [] (sh, i, lo, rv) := by
  unfold fX7_findSoonest_166 at hf
  refine j_iinc hX dX7_findSoonest_166 rfl (congrArg (_ + ·) ic_1) (by decide) rfl ?_
  refine j_goto (tgt := 130) hX dX7_findSoonest_169 (by decide) ?_
  exact aJx (Hkh130 _ _ _ _ _ hG  hf) (And.intro rfl (And.intro rfl (And.intro rfl (And.intro rfl (And.intro rfl (rfl))))))
def fX7_findSoonest_172 (kh118 : Int32 → Int32 → Int32 → (Nat → Nat → Int32) → Option ((Nat → Nat → Int32))) (x1 : Int32) (x3 : Int32) (x4 : Int32) (x5 : Int32) (i : Nat → Nat → Int32) : Option ((Nat → Nat → Int32)) := if aIn x5 9 = true then
    (lt (u2 i 30 9 (((10 : Int32) * (i 30 9)) + (i 31 (x5 : Int32).toNatClampNeg))) fun i13 =>
    lt (x3 ||| ((1 : Int32) <<< (x5 &&& 31))) fun t14 =>
    kh118 x1 t14 (x4 + 1) i13) else none
theorem kX7_findSoonest_172  {iR : Nat → Nat → Int32} (hX : aX p s m args c RX7 cX7_findSoonest 6 D cA A ad0) (hr : meth.sig.returnType = none) (hlk : meth.locks = false) (hRf : 5 ≤ R.frames) (hRl : 64 * 5 ≤ R.locals) {kh118 : Int32 → Int32 → Int32 → (Nat → Nat → Int32) → Option ((Nat → Nat → Int32))} (Hkh118 : ∀ (x1 : Int32) (x3 : Int32) (x4 : Int32) (i : Nat → Nat → Int32), aGood sh rv → kh118 x1 x3 x4 i = some (iR) → aJ p l e R s m args below meth c (MQ below (aPost D cA ad0 A (sh, i0, lo0, rv0) none (sh, iR, lo, rv)) args s (sh.length - sh.length) (aSn sh - aSn sh) A) D cA A ad0 6 sh.length (aSn sh) 118 [some (.ref (100 + 30)), some (.int x1), none, some (.int x3), some (.int x4), none] [] (sh, i, lo, rv)) {x1 : Int32} {x3 : Int32} {x4 : Int32} {x5 : Int32} (hG : aGood sh rv) (hf : fX7_findSoonest_172 kh118 x1 x3 x4 x5 i = some (iR)) : aJ p l e R s m args below meth c (MQ below (aPost D cA ad0 A (sh, i0, lo0, rv0) none (sh, iR, lo, rv)) args s (sh.length - sh.length) (aSn sh - aSn sh) A) D cA A ad0 6 sh.length (aSn sh) 172 [some (.ref (100 + 30)), some (.int x1), none, some (.int x3), some (.int x4), some (.int x5)] [] (sh, i, lo, rv) := by
  unfold fX7_findSoonest_172 at hf
  refine j_aload_n hX dX7_findSoonest_172 rfl ?_
  refine j_bipush hX dX7_findSoonest_173 bp_10 ?_
  refine j_aload_n hX dX7_findSoonest_175 rfl ?_
  refine j_getI (k := 9) hX kX7 (by decide) fk_X7_38 dX7_findSoonest_176 (sh_30 hG) rfl ?_
  refine j_imul hX dX7_findSoonest_179 ?_
  refine jpc (b := 180) rfl ?_
  refine j_aload_n hX dX7_findSoonest_180 rfl ?_
  refine j_getR (k := 3) hX kX7 (by decide) fk_X7_13 (rf_30_3 hG) dX7_findSoonest_181 (sh_30 hG) rfl ?_
  refine j_iload hX dX7_findSoonest_184 rfl ?_
  obtain ⟨hg, hf⟩ := gd hf
  refine j_iald hX (sh_31 hG) hg dX7_findSoonest_186 ?_
  refine j_iadd hX dX7_findSoonest_187 ?_
  have hf := ltd hf
  refine j_putI (k := 9) hX kX7 (by decide) fk_X7_38 dX7_findSoonest_188 (sh_30 hG) rfl rfl rfl rfl ?_
  refine j_iload_n hX dX7_findSoonest_191 rfl ?_
  refine j_iconst hX dX7_findSoonest_192 ic_1 ?_
  refine j_iload hX dX7_findSoonest_193 rfl ?_
  refine jpc (b := 195) rfl ?_
  refine j_ishl hX dX7_findSoonest_195 ?_
  refine j_ior hX dX7_findSoonest_196 ?_
  have hf := ltd hf
  refine j_istore_n hX dX7_findSoonest_197 (by decide) rfl ?_
  refine j_iinc hX dX7_findSoonest_198 rfl (congrArg (_ + ·) ic_1) (by decide) rfl ?_
  refine j_goto (tgt := 118) hX dX7_findSoonest_201 (by decide) ?_
  exact aJx (Hkh118 _ _ _ _ hG  hf) (And.intro rfl (And.intro rfl (And.intro rfl (And.intro rfl (rfl)))))
def fX7_findSoonest_130 (kh118 : Int32 → Int32 → Int32 → (Nat → Nat → Int32) → Option ((Nat → Nat → Int32))) : Nat → Int32 → Int32 → Int32 → Int32 → (Nat → Nat → Int32) → Option ((Nat → Nat → Int32))
  | 0, _, _, _, _, _ => none
  | n + 1, x1, x3, x4, x5, i => if ((i 30 7) - (1 : Int32)) ≤ x5 then (fX7_findSoonest_172 kh118 x1 x3 x4 x5 i) else (if ((x3 >>> (x5 &&& 31)) &&& (1 : Int32)) = 1 then (fX7_findSoonest_166 kh118 (fX7_findSoonest_130 kh118 n) x1 x3 x4 x5 i) else (bn1 (fX7_overWith x3 x5 x1 i) fun v11 =>
    if v11 ≤ (i 30 10) then (fX7_findSoonest_172 kh118 x1 x3 x4 x5 i) else (fX7_findSoonest_166 kh118 (fX7_findSoonest_130 kh118 n) x1 x3 x4 x5 i)))
theorem kX7_findSoonest_130  {iR : Nat → Nat → Int32} (hX : aX p s m args c RX7 cX7_findSoonest 6 D cA A ad0) (hr : meth.sig.returnType = none) (hlk : meth.locks = false) (hRf : 5 ≤ R.frames) (hRl : 64 * 5 ≤ R.locals) {kh118 : Int32 → Int32 → Int32 → (Nat → Nat → Int32) → Option ((Nat → Nat → Int32))} (Hkh118 : ∀ (x1 : Int32) (x3 : Int32) (x4 : Int32) (i : Nat → Nat → Int32), aGood sh rv → kh118 x1 x3 x4 i = some (iR) → aJ p l e R s m args below meth c (MQ below (aPost D cA ad0 A (sh, i0, lo0, rv0) none (sh, iR, lo, rv)) args s (sh.length - sh.length) (aSn sh - aSn sh) A) D cA A ad0 6 sh.length (aSn sh) 118 [some (.ref (100 + 30)), some (.int x1), none, some (.int x3), some (.int x4), none] [] (sh, i, lo, rv)) : ∀ (n : Nat) (x1 : Int32) (x3 : Int32) (x4 : Int32) (x5 : Int32) (i : Nat → Nat → Int32), aGood sh rv → fX7_findSoonest_130 kh118 n x1 x3 x4 x5 i = some (iR) → aJ p l e R s m args below meth c (MQ below (aPost D cA ad0 A (sh, i0, lo0, rv0) none (sh, iR, lo, rv)) args s (sh.length - sh.length) (aSn sh - aSn sh) A) D cA A ad0 6 sh.length (aSn sh) 130 [some (.ref (100 + 30)), some (.int x1), none, some (.int x3), some (.int x4), some (.int x5)] [] (sh, i, lo, rv) := by
  intro n
  induction n with
  | zero => intros; rename_i hf; cases hf
  | succ n ih =>
    intro x1 x3 x4 x5 i hG hf
    rw [fX7_findSoonest_130] at hf
    refine j_iload hX dX7_findSoonest_130 rfl ?_
    refine j_aload_n hX dX7_findSoonest_132 rfl ?_
    refine j_getI (k := 7) hX kX7 (by decide) fk_X7_77 dX7_findSoonest_133 (sh_30 hG) rfl ?_
    refine j_iconst hX dX7_findSoonest_136 ic_1 ?_
    refine j_isub hX dX7_findSoonest_137 ?_
    refine jpc (b := 138) rfl ?_
    refine j_icmp_ge (tgt := 172) hX dX7_findSoonest_138 (by decide) (fun hc => ?_) (fun hc => ?_)
    · have hf := ifp hc hf
      exact aJx (kX7_findSoonest_172 hX hr hlk hRf hRl Hkh118 hG  hf) (And.intro rfl (And.intro rfl (And.intro rfl (And.intro rfl (And.intro rfl (rfl))))))
    · have hf := ifn hc hf
      refine j_iload_n hX dX7_findSoonest_141 rfl ?_
      refine j_iload hX dX7_findSoonest_142 rfl ?_
      refine j_ishr hX dX7_findSoonest_144 ?_
      refine j_iconst hX dX7_findSoonest_145 ic_1 ?_
      refine j_iand hX dX7_findSoonest_146 ?_
      refine jpc (b := 147) rfl ?_
      refine j_iconst hX dX7_findSoonest_147 ic_1 ?_
      refine j_icmp_eq (tgt := 166) hX dX7_findSoonest_148 (by decide) (fun hc => ?_) (fun hc => ?_)
      · have hf := ifp hc hf
        exact aJx (kX7_findSoonest_166 hX hr hlk hRf hRl Hkh118 ih hG  hf) (And.intro rfl (And.intro rfl (And.intro rfl (And.intro rfl (And.intro rfl (rfl))))))
      · have hf := ifn hc hf
        refine j_aload_n hX dX7_findSoonest_151 rfl ?_
        refine j_iload_n hX dX7_findSoonest_152 rfl ?_
        refine j_iload hX dX7_findSoonest_153 rfl ?_
        refine j_iload_n hX dX7_findSoonest_155 rfl ?_
        obtain ⟨v11, hh12, hf⟩ := bd1 hf
        refine j_cV3i hX lk_X7_81 kX7 dX7_findSoonest_156 (sh_30 hG) (okX7_overWith hG hh12) rfl rfl (rmm (by omega) hRf hRl (by decide)) (Nat.le_of_ble_eq_true rfl) (Nat.le_add_right _ _) (Nat.le_add_right _ _) ?_
        refine jpc (b := 159) rfl ?_
        refine j_aload_n hX dX7_findSoonest_159 rfl ?_
        refine j_getI (k := 10) hX kX7 (by decide) fk_X7_42 dX7_findSoonest_160 (sh_30 hG) rfl ?_
        refine j_icmp_le (tgt := 172) hX dX7_findSoonest_163 (by decide) (fun hc => ?_) (fun hc => ?_)
        · have hf := ifp hc hf
          exact aJx (kX7_findSoonest_172 hX hr hlk hRf hRl Hkh118 hG  hf) (And.intro rfl (And.intro rfl (And.intro rfl (And.intro rfl (And.intro rfl (rfl))))))
        · have hf := ifn hc hf
          exact aJx (kX7_findSoonest_166 hX hr hlk hRf hRl Hkh118 ih hG  hf) (And.intro rfl (And.intro rfl (And.intro rfl (And.intro rfl (And.intro rfl (rfl))))))
def fX7_findSoonest_118 : Nat → Int32 → Int32 → Int32 → (Nat → Nat → Int32) → Option ((Nat → Nat → Int32))
  | 0, _, _, _, _ => none
  | n + 1, x1, x3, x4, i => if (i 30 7) ≤ x4 then (some (i)) else (fX7_findSoonest_130 (fX7_findSoonest_118 n) fuel x1 x3 x4 0 i)
theorem kX7_findSoonest_118  {iR : Nat → Nat → Int32} (hX : aX p s m args c RX7 cX7_findSoonest 6 D cA A ad0) (hr : meth.sig.returnType = none) (hlk : meth.locks = false) (hRf : 5 ≤ R.frames) (hRl : 64 * 5 ≤ R.locals) : ∀ (n : Nat) (x1 : Int32) (x3 : Int32) (x4 : Int32) (i : Nat → Nat → Int32), aGood sh rv → fX7_findSoonest_118 n x1 x3 x4 i = some (iR) → aJ p l e R s m args below meth c (MQ below (aPost D cA ad0 A (sh, i0, lo0, rv0) none (sh, iR, lo, rv)) args s (sh.length - sh.length) (aSn sh - aSn sh) A) D cA A ad0 6 sh.length (aSn sh) 118 [some (.ref (100 + 30)), some (.int x1), none, some (.int x3), some (.int x4), none] [] (sh, i, lo, rv) := by
  intro n
  induction n with
  | zero => intros; rename_i hf; cases hf
  | succ n ih =>
    intro x1 x3 x4 i hG hf
    rw [fX7_findSoonest_118] at hf
    refine j_iload hX dX7_findSoonest_118 rfl ?_
    refine j_aload_n hX dX7_findSoonest_120 rfl ?_
    refine j_getI (k := 7) hX kX7 (by decide) fk_X7_77 dX7_findSoonest_121 (sh_30 hG) rfl ?_
    refine j_icmp_ge (tgt := 204) hX dX7_findSoonest_124 (by decide) (fun hc => ?_) (fun hc => ?_)
    · have hf := ifp hc hf
      cases hf
      exact j_vret hX hr hlk dX7_findSoonest_204
    · have hf := ifn hc hf
      refine j_iconst hX dX7_findSoonest_127 ic_0 ?_
      refine j_istore hX dX7_findSoonest_128 (by decide) rfl ?_
      exact aJx (kX7_findSoonest_130 hX hr hlk hRf hRl ih fuel _ _ _ _ _ hG  hf) (And.intro rfl (And.intro rfl (And.intro rfl (And.intro rfl (And.intro rfl (rfl))))))
def fX7_findSoonest_30 : Nat → Int32 → Int32 → (Nat → Nat → Int32) → Option ((Nat → Nat → Int32))
  | 0, _, _, _ => none
  | n + 1, x1, x3, i => if x3 < 0 then (if aIn 0 896 = true then
    (lt (u2 i 30 10 (i 34 (0 : Int32).toNatClampNeg)) fun i5 =>
    lt (u2 i5 30 9 0) fun i6 =>
    fX7_findSoonest_118 fuel x1 0 0 i6) else none) else (if aIn x3 896 = true then
    (lt (u2 i 34 (x3 : Int32).toNatClampNeg 1000000000) fun i7 => fX7_findSoonest_45 (fX7_findSoonest_30 n) fuel x1 x3 0 i7) else none)
theorem kX7_findSoonest_30  {iR : Nat → Nat → Int32} (hX : aX p s m args c RX7 cX7_findSoonest 6 D cA A ad0) (hr : meth.sig.returnType = none) (hlk : meth.locks = false) (hRf : 5 ≤ R.frames) (hRl : 64 * 5 ≤ R.locals) : ∀ (n : Nat) (x1 : Int32) (x3 : Int32) (i : Nat → Nat → Int32), aGood sh rv → fX7_findSoonest_30 n x1 x3 i = some (iR) → aJ p l e R s m args below meth c (MQ below (aPost D cA ad0 A (sh, i0, lo0, rv0) none (sh, iR, lo, rv)) args s (sh.length - sh.length) (aSn sh - aSn sh) A) D cA A ad0 6 sh.length (aSn sh) 30 [some (.ref (100 + 30)), some (.int x1), none, some (.int x3), none, none] [] (sh, i, lo, rv) := by
  intro n
  induction n with
  | zero => intros; rename_i hf; cases hf
  | succ n ih =>
    intro x1 x3 i hG hf
    rw [fX7_findSoonest_30] at hf
    refine j_iload_n hX dX7_findSoonest_30 rfl ?_
    refine j_if_lt (tgt := 98) hX dX7_findSoonest_31 (by decide) (fun hc => ?_) (fun hc => ?_)
    · have hf := ifp hc hf
      refine j_aload_n hX dX7_findSoonest_98 rfl ?_
      refine j_aload_n hX dX7_findSoonest_99 rfl ?_
      refine j_getR (k := 6) hX kX7 (by decide) fk_X7_23 (rf_30_6 hG) dX7_findSoonest_100 (sh_30 hG) rfl ?_
      refine j_iconst hX dX7_findSoonest_103 ic_0 ?_
      obtain ⟨hg, hf⟩ := gd hf
      refine j_iald hX (sh_34 hG) hg dX7_findSoonest_104 ?_
      have hf := ltd hf
      refine j_putI (k := 10) hX kX7 (by decide) fk_X7_42 dX7_findSoonest_105 (sh_30 hG) rfl rfl rfl rfl ?_
      refine j_aload_n hX dX7_findSoonest_108 rfl ?_
      refine j_iconst hX dX7_findSoonest_109 ic_0 ?_
      have hf := ltd hf
      refine j_putI (k := 9) hX kX7 (by decide) fk_X7_38 dX7_findSoonest_110 (sh_30 hG) rfl rfl rfl rfl ?_
      refine j_iconst hX dX7_findSoonest_113 ic_0 ?_
      refine jpc (b := 114) rfl ?_
      refine j_istore_n hX dX7_findSoonest_114 (by decide) rfl ?_
      refine j_iconst hX dX7_findSoonest_115 ic_0 ?_
      refine j_istore hX dX7_findSoonest_116 (by decide) rfl ?_
      exact aJx (kX7_findSoonest_118 hX hr hlk hRf hRl fuel _ _ _ _ hG  hf) (And.intro rfl (And.intro rfl (And.intro rfl (And.intro rfl (rfl)))))
    · have hf := ifn hc hf
      refine j_aload_n hX dX7_findSoonest_34 rfl ?_
      refine j_getR (k := 6) hX kX7 (by decide) fk_X7_23 (rf_30_6 hG) dX7_findSoonest_35 (sh_30 hG) rfl ?_
      refine j_iload_n hX dX7_findSoonest_38 rfl ?_
      refine j_ldc hX kc_X7_80 dX7_findSoonest_39 ?_
      obtain ⟨hg, hf⟩ := gd hf
      have hf := ltd hf
      refine j_iast hX (sh_34 hG) hg dX7_findSoonest_41 ?_
      refine j_iconst hX dX7_findSoonest_42 ic_0 ?_
      refine j_istore hX dX7_findSoonest_43 (by decide) rfl ?_
      exact aJx (kX7_findSoonest_45 hX hr hlk hRf hRl ih fuel _ _ _ _ hG  hf) (And.intro rfl (And.intro rfl (And.intro rfl (And.intro rfl (rfl)))))
def fX7_findSoonest (a1 : Int32) (i : Nat → Nat → Int32) : Option ((Nat → Nat → Int32)) := bn1 (fX7_layOutPapers a1 i) fun i1 =>
    lt (((1 : Int32) <<< ((i1 30 7) &&& 31)) - (1 : Int32)) fun t3 =>
    if aIn t3 128 = true then
    (if aIn t3 896 = true then
    (lt (u2 i1 34 (t3 : Int32).toNatClampNeg (i1 33 (t3 : Int32).toNatClampNeg)) fun i4 => fX7_findSoonest_30 fuel a1 (t3 - (1 : Int32)) i4) else none) else none
theorem kX7_findSoonest  {iR : Nat → Nat → Int32} (hX : aX p s m args c RX7 cX7_findSoonest 6 D cA A ad0) (hr : meth.sig.returnType = none) (hlk : meth.locks = false) (hRf : 5 ≤ R.frames) (hRl : 64 * 5 ≤ R.locals) {a1 : Int32} (hG : aGood sh rv) (hf : fX7_findSoonest a1 i = some (iR)) : aJ p l e R s m args below meth c (MQ below (aPost D cA ad0 A (sh, i0, lo0, rv0) none (sh, iR, lo, rv)) args s (sh.length - sh.length) (aSn sh - aSn sh) A) D cA A ad0 6 sh.length (aSn sh) 0 [some (.ref (100 + 30)), some (.int a1), none, none, none, none] [] (sh, i, lo, rv) := by
  unfold fX7_findSoonest at hf
  refine j_aload_n hX dX7_findSoonest_0 rfl ?_
  refine j_iload_n hX dX7_findSoonest_1 rfl ?_
  obtain ⟨i1, hh2, hf⟩ := bd1 hf
  refine j_cV1v hX lk_X7_73 kX7 dX7_findSoonest_2 (sh_30 hG) (okX7_layOutPapers hG hh2) rfl rfl (rmm (by omega) hRf hRl (by decide)) (Nat.le_of_ble_eq_true rfl) (Nat.le_add_right _ _) (Nat.le_add_right _ _) ?_
  refine j_iconst hX dX7_findSoonest_5 ic_1 ?_
  refine j_aload_n hX dX7_findSoonest_6 rfl ?_
  refine jpc (b := 7) rfl ?_
  refine j_getI (k := 7) hX kX7 (by decide) fk_X7_77 dX7_findSoonest_7 (sh_30 hG) rfl ?_
  refine j_ishl hX dX7_findSoonest_10 ?_
  refine j_iconst hX dX7_findSoonest_11 ic_1 ?_
  refine j_isub hX dX7_findSoonest_12 ?_
  have hf := ltd hf
  refine j_istore_n hX dX7_findSoonest_13 (by decide) rfl ?_
  refine j_aload_n hX dX7_findSoonest_14 rfl ?_
  refine jpc (b := 15) rfl ?_
  refine j_getR (k := 6) hX kX7 (by decide) fk_X7_23 (rf_30_6 hG) dX7_findSoonest_15 (sh_30 hG) rfl ?_
  refine j_iload_n hX dX7_findSoonest_18 rfl ?_
  refine j_aload_n hX dX7_findSoonest_19 rfl ?_
  refine j_getR (k := 5) hX kX7 (by decide) fk_X7_20 (rf_30_5 hG) dX7_findSoonest_20 (sh_30 hG) rfl ?_
  refine j_iload_n hX dX7_findSoonest_23 rfl ?_
  obtain ⟨hg, hf⟩ := gd hf
  refine j_iald hX (sh_33 hG) hg dX7_findSoonest_24 ?_
  obtain ⟨hg, hf⟩ := gd hf
  have hf := ltd hf
  refine j_iast hX (sh_34 hG) hg dX7_findSoonest_25 ?_
  refine j_iload_n hX dX7_findSoonest_26 rfl ?_
  refine j_iconst hX dX7_findSoonest_27 ic_1 ?_
  refine j_isub hX dX7_findSoonest_28 ?_
  refine j_istore_n hX dX7_findSoonest_29 (by decide) rfl ?_
  exact aJx (kX7_findSoonest_30 hX hr hlk hRf hRl fuel _ _ _ hG  hf) (And.intro rfl (And.intro rfl (And.intro rfl (rfl))))
theorem okX7_findSoonest {l : Launch} {sh : List aSh} {i : Nat → Nat → Int32} {lo : Nat → Nat → Int64} {rv : Nat → Nat → Option Nat}  {a1 : Int32} {iR : Nat → Nat → Int32} (hG : aGood sh rv) (hf : fX7_findSoonest a1 i = some (iR)) : aM l yX7_findSoonest cX7_findSoonest 6 none 5 [.ref (100 + 30), .int a1] (sh, i, lo, rv) none (sh, iR, lo, rv) :=
  aM_of (by decide) (Nat.le_of_ble_eq_true rfl) (Nat.le_refl _) (Nat.le_refl _) (fun p e s m args below meth c D cA A ad0 hX hr hlk hnm => kX7_findSoonest hX hr hlk (Nat.le_refl _) (Nat.le_refl _) hG hf)
def fX7_digits (i : Nat → Nat → Int32) : Option ((Int32)) := some ((i 30 9))
theorem kX7_digits  {vR : Int32} (hX : aX p s m args c RX7 cX7_digits 1 D cA A ad0) (hr : meth.sig.returnType = (some .int)) (hlk : meth.locks = false) (hRf : 0 ≤ R.frames) (hRl : 64 * 0 ≤ R.locals) (hG : aGood sh rv) (hf : fX7_digits i = some (vR)) : aJ p l e R s m args below meth c (MQ below (aPost D cA ad0 A (sh, i0, lo0, rv0) (some (.int vR)) (sh, i, lo, rv)) args s (sh.length - sh.length) (aSn sh - aSn sh) A) D cA A ad0 1 sh.length (aSn sh) 0 [some (.ref (100 + 30))] [] (sh, i, lo, rv) := by
  unfold fX7_digits at hf
  refine j_aload_n hX dX7_digits_0 rfl ?_
  refine j_getI (k := 9) hX kX7 (by decide) fk_X7_38 dX7_digits_1 (sh_30 hG) rfl ?_
  cases hf
  exact j_ret hX hr hlk rfl dX7_digits_4
theorem okX7_digits {l : Launch} {sh : List aSh} {i : Nat → Nat → Int32} {lo : Nat → Nat → Int64} {rv : Nat → Nat → Option Nat}  {vR : Int32} (hG : aGood sh rv) (hf : fX7_digits i = some (vR)) : aM l yX7_digits cX7_digits 1 (some .int) 0 [.ref (100 + 30)] (sh, i, lo, rv) (some (.int vR)) (sh, i, lo, rv) :=
  aM_of (by decide) (Nat.le_of_ble_eq_true rfl) (Nat.le_refl _) (Nat.le_refl _) (fun p e s m args below meth c D cA A ad0 hX hr hlk hnm => kX7_digits hX hr hlk (Nat.le_refl _) (Nat.le_refl _) hG hf)
def fX7_worth (i : Nat → Nat → Int32) : Option ((Int32)) := some ((i 30 10))
theorem kX7_worth  {vR : Int32} (hX : aX p s m args c RX7 cX7_worth 1 D cA A ad0) (hr : meth.sig.returnType = (some .int)) (hlk : meth.locks = false) (hRf : 0 ≤ R.frames) (hRl : 64 * 0 ≤ R.locals) (hG : aGood sh rv) (hf : fX7_worth i = some (vR)) : aJ p l e R s m args below meth c (MQ below (aPost D cA ad0 A (sh, i0, lo0, rv0) (some (.int vR)) (sh, i, lo, rv)) args s (sh.length - sh.length) (aSn sh - aSn sh) A) D cA A ad0 1 sh.length (aSn sh) 0 [some (.ref (100 + 30))] [] (sh, i, lo, rv) := by
  unfold fX7_worth at hf
  refine j_aload_n hX dX7_worth_0 rfl ?_
  refine j_getI (k := 10) hX kX7 (by decide) fk_X7_42 dX7_worth_1 (sh_30 hG) rfl ?_
  cases hf
  exact j_ret hX hr hlk rfl dX7_worth_4
theorem okX7_worth {l : Launch} {sh : List aSh} {i : Nat → Nat → Int32} {lo : Nat → Nat → Int64} {rv : Nat → Nat → Option Nat}  {vR : Int32} (hG : aGood sh rv) (hf : fX7_worth i = some (vR)) : aM l yX7_worth cX7_worth 1 (some .int) 0 [.ref (100 + 30)] (sh, i, lo, rv) (some (.int vR)) (sh, i, lo, rv) :=
  aM_of (by decide) (Nat.le_of_ble_eq_true rfl) (Nat.le_refl _) (Nat.le_refl _) (fun p e s m args below meth c D cA A ad0 hX hr hlk hnm => kX7_worth hX hr hlk (Nat.le_refl _) (Nat.le_refl _) hG hf)
def fX11_order (a1 : Int32) (a2 : Int32) (i : Nat → Nat → Int32) : Option ((Int32) × (Nat → Nat → Int32)) := bn1 (fX1_hasOfficer 15 a1 i) fun v1 =>
    if v1 = 0 then (some ((-1), i)) else (if a2 < 0 then (some ((-1), i)) else (if a2 ≤ 1 then (bn1 (fX1_papers 15 i) fun v3 =>
    if v3 ≤ 7 then (bn1 (fX7_findSoonest a1 i) fun i5 =>
    if a2 = 0 then (bn1 (fX7_digits i5) fun v9 =>
    some (v9, i5)) else (bn1 (fX7_worth i5) fun v7 =>
    some (v7, i5))) else (some ((-1000000), i))) else (some ((-1), i))))
theorem kX11_order  {vR : Int32} {iR : Nat → Nat → Int32} (hX : aX p s m args c RX11 cX11_order 3 D cA A ad0) (hr : meth.sig.returnType = (some .int)) (hlk : meth.locks = false) (hRf : 6 ≤ R.frames) (hRl : 64 * 6 ≤ R.locals) {a1 : Int32} {a2 : Int32} (hG : aGood sh rv) (hf : fX11_order a1 a2 i = some (vR, iR)) : aJ p l e R s m args below meth c (MQ below (aPost D cA ad0 A (sh, i0, lo0, rv0) (some (.int vR)) (sh, iR, lo, rv)) args s (sh.length - sh.length) (aSn sh - aSn sh) A) D cA A ad0 3 sh.length (aSn sh) 0 [some (.ref (100 + 0)), some (.int a1), some (.int a2)] [] (sh, i, lo, rv) := by
  unfold fX11_order at hf
  refine j_aload_n hX dX11_order_0 rfl ?_
  refine j_getR (k := 3) hX kX11 (by decide) fk_X11_30 (rf_0_3 hG) dX11_order_1 (sh_0 hG) rfl ?_
  refine j_iload_n hX dX11_order_4 rfl ?_
  obtain ⟨v1, hh2, hf⟩ := bd1 hf
  refine j_cV1i hX lk_X11_162 kX1 dX11_order_5 (sh_15 hG) (okX1_hasOfficer hG (cr_15 hG) hh2) rfl rfl (rmm (by omega) hRf hRl (by decide)) (Nat.le_of_ble_eq_true rfl) (Nat.le_add_right _ _) (Nat.le_add_right _ _) ?_
  refine j_if_eq (tgt := 20) hX dX11_order_8 (by decide) (fun hc => ?_) (fun hc => ?_)
  · have hf := ifp hc hf
    refine j_iconst hX dX11_order_20 ic_m1 ?_
    cases hf
    exact j_ret hX hr hlk rfl dX11_order_21
  · have hf := ifn hc hf
    refine j_iload_n hX dX11_order_11 rfl ?_
    refine j_if_lt (tgt := 20) hX dX11_order_12 (by decide) (fun hc => ?_) (fun hc => ?_)
    · have hf := ifp hc hf
      refine j_iconst hX dX11_order_20 ic_m1 ?_
      cases hf
      exact j_ret hX hr hlk rfl dX11_order_21
    · have hf := ifn hc hf
      refine j_iload_n hX dX11_order_15 rfl ?_
      refine j_iconst hX dX11_order_16 ic_1 ?_
      refine j_icmp_le (tgt := 22) hX dX11_order_17 (by decide) (fun hc => ?_) (fun hc => ?_)
      · have hf := ifp hc hf
        refine j_aload_n hX dX11_order_22 rfl ?_
        refine j_getR (k := 3) hX kX11 (by decide) fk_X11_30 (rf_0_3 hG) dX11_order_23 (sh_0 hG) rfl ?_
        obtain ⟨v3, hh4, hf⟩ := bd1 hf
        refine j_cV0i hX lk_X11_143 kX1 dX11_order_26 (sh_15 hG) (okX1_papers hG (cr_15 hG) hh4) rfl rfl (rmm (by omega) hRf hRl (by decide)) (Nat.le_of_ble_eq_true rfl) (Nat.le_add_right _ _) (Nat.le_add_right _ _) ?_
        refine j_bipush hX dX11_order_29 bp_7 ?_
        refine j_icmp_le (tgt := 37) hX dX11_order_31 (by decide) (fun hc => ?_) (fun hc => ?_)
        · have hf := ifp hc hf
          refine j_aload_n hX dX11_order_37 rfl ?_
          refine j_getR (k := 8) hX kX11 (by decide) fk_X11_64 (rf_0_8 hG) dX11_order_38 (sh_0 hG) rfl ?_
          refine j_iload_n hX dX11_order_41 rfl ?_
          obtain ⟨i5, hh6, hf⟩ := bd1 hf
          refine j_cV1v hX lk_X11_240 kX7 dX11_order_42 (sh_30 hG) (okX7_findSoonest hG hh6) rfl rfl (rmm (by omega) hRf hRl (by decide)) (Nat.le_of_ble_eq_true rfl) (Nat.le_add_right _ _) (Nat.le_add_right _ _) ?_
          refine j_iload_n hX dX11_order_45 rfl ?_
          refine jpc (b := 46) rfl ?_
          refine j_if_ne (tgt := 59) hX dX11_order_46 (by decide) (fun hc => ?_) (fun hc => ?_)
          · have hf := ifn hc hf
            refine j_aload_n hX dX11_order_59 rfl ?_
            refine j_getR (k := 8) hX kX11 (by decide) fk_X11_64 (rf_0_8 hG) dX11_order_60 (sh_0 hG) rfl ?_
            obtain ⟨v7, hh8, hf⟩ := bd1 hf
            refine j_cV0i hX lk_X11_246 kX7 dX11_order_63 (sh_30 hG) (okX7_worth hG hh8) rfl rfl (rmm (by omega) hRf hRl (by decide)) (Nat.le_of_ble_eq_true rfl) (Nat.le_add_right _ _) (Nat.le_add_right _ _) ?_
            cases hf
            exact j_ret hX hr hlk rfl dX11_order_66
          · have hf := ifp hc hf
            refine j_aload_n hX dX11_order_49 rfl ?_
            refine j_getR (k := 8) hX kX11 (by decide) fk_X11_64 (rf_0_8 hG) dX11_order_50 (sh_0 hG) rfl ?_
            obtain ⟨v9, hh10, hf⟩ := bd1 hf
            refine j_cV0i hX lk_X11_243 kX7 dX11_order_53 (sh_30 hG) (okX7_digits hG hh10) rfl rfl (rmm (by omega) hRf hRl (by decide)) (Nat.le_of_ble_eq_true rfl) (Nat.le_add_right _ _) (Nat.le_add_right _ _) ?_
            refine j_goto (tgt := 66) hX dX11_order_56 (by decide) ?_
            cases hf
            exact j_ret hX hr hlk rfl dX11_order_66
        · have hf := ifn hc hf
          refine j_ldc hX kc_X11_219 dX11_order_34 ?_
          cases hf
          exact j_ret hX hr hlk rfl dX11_order_36
      · have hf := ifn hc hf
        refine j_iconst hX dX11_order_20 ic_m1 ?_
        cases hf
        exact j_ret hX hr hlk rfl dX11_order_21
theorem okX11_order {l : Launch} {sh : List aSh} {i : Nat → Nat → Int32} {lo : Nat → Nat → Int64} {rv : Nat → Nat → Option Nat}  {a1 : Int32} {a2 : Int32} {vR : Int32} {iR : Nat → Nat → Int32} (hG : aGood sh rv) (hf : fX11_order a1 a2 i = some (vR, iR)) : aM l yX11_order cX11_order 3 (some .int) 6 [.ref (100 + 0), .int a1, .int a2] (sh, i, lo, rv) (some (.int vR)) (sh, iR, lo, rv) :=
  aM_of (by decide) (Nat.le_of_ble_eq_true rfl) (Nat.le_refl _) (Nat.le_refl _) (fun p e s m args below meth c D cA A ad0 hX hr hlk hnm => kX11_order hX hr hlk (Nat.le_refl _) (Nat.le_refl _) hG hf)
def fX7_leastPossible_7 : Nat → Int32 → Int32 → Int32 → Int32 → (Nat → Nat → Int32) → Option ((Int32))
  | 0, _, _, _, _, _ => none
  | n + 1, x1, x2, x3, x4, i => bn1 (fX1_papers 15 i) fun v1 =>
    if v1 ≤ x4 then (some ((if x2 < x3 then x3 else x2))) else (bn1 (fX8_inDrawer 19 x4 i) fun v3 =>
    bn1 (fX3_turnOf 19 v3 x1 i) fun v5 =>
    bn1 (fX8_saidFor 19 v3 i) fun v7 =>
    bn1 (fX3_waitOf v3 x1 v7 1 i) fun v9 =>
    lt (if x3 < (v5 + v9) then (v5 + v9) else x3) fun t11 =>
    fX7_leastPossible_7 n x1 (x2 + v5) t11 (x4 + 1) i)
theorem kX7_leastPossible_7  {vR : Int32} (hX : aX p s m args c RX7 cX7_leastPossible 7 D cA A ad0) (hr : meth.sig.returnType = (some .int)) (hlk : meth.locks = false) (hRf : 4 ≤ R.frames) (hRl : 64 * 4 ≤ R.locals) : ∀ (n : Nat) (x1 : Int32) (x2 : Int32) (x3 : Int32) (x4 : Int32), aGood sh rv → fX7_leastPossible_7 n x1 x2 x3 x4 i = some (vR) → aJ p l e R s m args below meth c (MQ below (aPost D cA ad0 A (sh, i0, lo0, rv0) (some (.int vR)) (sh, i, lo, rv)) args s (sh.length - sh.length) (aSn sh - aSn sh) A) D cA A ad0 7 sh.length (aSn sh) 7 [some (.ref (100 + 30)), some (.int x1), some (.int x2), some (.int x3), some (.int x4), none, none] [] (sh, i, lo, rv) := by
  intro n
  induction n with
  | zero => intros; rename_i hf; cases hf
  | succ n ih =>
    intro x1 x2 x3 x4 hG hf
    rw [fX7_leastPossible_7] at hf
    refine j_iload hX dX7_leastPossible_7 rfl ?_
    refine j_aload_n hX dX7_leastPossible_9 rfl ?_
    refine j_getR (k := 0) hX kX7 (by decide) fk_X7_26 (rf_30_0 hG) dX7_leastPossible_10 (sh_30 hG) rfl ?_
    obtain ⟨v1, hh2, hf⟩ := bd1 hf
    refine j_cV0i hX lk_X7_45 kX1 dX7_leastPossible_13 (sh_15 hG) (okX1_papers hG (cr_15 hG) hh2) rfl rfl (rmm (by omega) hRf hRl (by decide)) (Nat.le_of_ble_eq_true rfl) (Nat.le_add_right _ _) (Nat.le_add_right _ _) ?_
    refine j_icmp_ge (tgt := 85) hX dX7_leastPossible_16 (by decide) (fun hc => ?_) (fun hc => ?_)
    · have hf := ifp hc hf
      refine j_iload_n hX dX7_leastPossible_85 rfl ?_
      refine j_iload_n hX dX7_leastPossible_86 rfl ?_
      refine j_max hX lk_X7_67 dX7_leastPossible_87 ⟨by omega, Nat.le_trans (Nat.le_of_ble_eq_true rfl) hRl⟩ (Nat.le_add_right _ _) (Nat.le_add_right _ _) ?_
      cases hf
      exact j_ret hX hr hlk rfl dX7_leastPossible_90
    · have hf := ifn hc hf
      refine j_aload_n hX dX7_leastPossible_19 rfl ?_
      refine j_getR (k := 2) hX kX7 (by decide) fk_X7_34 (rf_30_2 hG) dX7_leastPossible_20 (sh_30 hG) rfl ?_
      refine j_iload hX dX7_leastPossible_23 rfl ?_
      obtain ⟨v3, hh4, hf⟩ := bd1 hf
      refine j_cV1i hX lk_X7_48 kX8 dX7_leastPossible_25 (sh_19 hG) (okX8_inDrawer hG (sc_19 hG) hh4) rfl rfl (rmm (by omega) hRf hRl (by decide)) (Nat.le_of_ble_eq_true rfl) (Nat.le_add_right _ _) (Nat.le_add_right _ _) ?_
      refine j_istore hX dX7_leastPossible_28 (by decide) rfl ?_
      refine jpc (b := 30) rfl ?_
      refine j_aload_n hX dX7_leastPossible_30 rfl ?_
      refine j_getR (k := 1) hX kX7 (by decide) fk_X7_30 (rf_30_1 hG) dX7_leastPossible_31 (sh_30 hG) rfl ?_
      refine j_aload_n hX dX7_leastPossible_34 rfl ?_
      refine j_getR (k := 2) hX kX7 (by decide) fk_X7_34 (rf_30_2 hG) dX7_leastPossible_35 (sh_30 hG) rfl ?_
      refine j_iload hX dX7_leastPossible_38 rfl ?_
      refine j_iload_n hX dX7_leastPossible_40 rfl ?_
      refine jpc (b := 41) rfl ?_
      obtain ⟨v5, hh6, hf⟩ := bd1 hf
      refine j_cV3i hX lk_X7_54 kX3 dX7_leastPossible_41 (sh_23 hG) (okX3_turnOf hG (sc_19 hG) hh6) rfl rfl (rmm (by omega) hRf hRl (by decide)) (Nat.le_of_ble_eq_true rfl) (Nat.le_add_right _ _) (Nat.le_add_right _ _) ?_
      refine j_istore hX dX7_leastPossible_44 (by decide) rfl ?_
      refine j_iload_n hX dX7_leastPossible_46 rfl ?_
      refine j_iload hX dX7_leastPossible_47 rfl ?_
      refine j_iadd hX dX7_leastPossible_49 ?_
      refine j_istore_n hX dX7_leastPossible_50 (by decide) rfl ?_
      refine jpc (b := 51) rfl ?_
      refine j_iload_n hX dX7_leastPossible_51 rfl ?_
      refine j_iload hX dX7_leastPossible_52 rfl ?_
      refine j_aload_n hX dX7_leastPossible_54 rfl ?_
      refine j_getR (k := 1) hX kX7 (by decide) fk_X7_30 (rf_30_1 hG) dX7_leastPossible_55 (sh_30 hG) rfl ?_
      refine j_iload hX dX7_leastPossible_58 rfl ?_
      refine j_iload_n hX dX7_leastPossible_60 rfl ?_
      refine jpc (b := 61) rfl ?_
      refine j_aload_n hX dX7_leastPossible_61 rfl ?_
      refine j_getR (k := 2) hX kX7 (by decide) fk_X7_34 (rf_30_2 hG) dX7_leastPossible_62 (sh_30 hG) rfl ?_
      refine j_iload hX dX7_leastPossible_65 rfl ?_
      obtain ⟨v7, hh8, hf⟩ := bd1 hf
      refine j_cV1i hX lk_X7_60 kX8 dX7_leastPossible_67 (sh_19 hG) (okX8_saidFor hG (sc_19 hG) hh8) rfl rfl (rmm (by omega) hRf hRl (by decide)) (Nat.le_of_ble_eq_true rfl) (Nat.le_add_right _ _) (Nat.le_add_right _ _) ?_
      refine j_iconst hX dX7_leastPossible_70 ic_1 ?_
      obtain ⟨v9, hh10, hf⟩ := bd1 hf
      refine j_cV4i hX lk_X7_63 kX3 dX7_leastPossible_71 (sh_23 hG) (okX3_waitOf hG hh10) rfl rfl (rmm (by omega) hRf hRl (by decide)) (Nat.le_of_ble_eq_true rfl) (Nat.le_add_right _ _) (Nat.le_add_right _ _) ?_
      refine jpc (b := 74) rfl ?_
      refine j_iadd hX dX7_leastPossible_74 ?_
      refine j_max hX lk_X7_67 dX7_leastPossible_75 ⟨by omega, Nat.le_trans (Nat.le_of_ble_eq_true rfl) hRl⟩ (Nat.le_add_right _ _) (Nat.le_add_right _ _) ?_
      have hf := ltd hf
      refine j_istore_n hX dX7_leastPossible_78 (by decide) rfl ?_
      refine j_iinc hX dX7_leastPossible_79 rfl (congrArg (_ + ·) ic_1) (by decide) rfl ?_
      refine j_goto (tgt := 7) hX dX7_leastPossible_82 (by decide) ?_
      exact aJx (ih _ _ _ _ hG  hf) (And.intro rfl (And.intro rfl (And.intro rfl (And.intro rfl (And.intro rfl (rfl))))))
def fX7_leastPossible (a1 : Int32) (i : Nat → Nat → Int32) : Option ((Int32)) := fX7_leastPossible_7 fuel a1 0 0 0 i
theorem kX7_leastPossible  {vR : Int32} (hX : aX p s m args c RX7 cX7_leastPossible 7 D cA A ad0) (hr : meth.sig.returnType = (some .int)) (hlk : meth.locks = false) (hRf : 4 ≤ R.frames) (hRl : 64 * 4 ≤ R.locals) {a1 : Int32} (hG : aGood sh rv) (hf : fX7_leastPossible a1 i = some (vR)) : aJ p l e R s m args below meth c (MQ below (aPost D cA ad0 A (sh, i0, lo0, rv0) (some (.int vR)) (sh, i, lo, rv)) args s (sh.length - sh.length) (aSn sh - aSn sh) A) D cA A ad0 7 sh.length (aSn sh) 0 [some (.ref (100 + 30)), some (.int a1), none, none, none, none, none] [] (sh, i, lo, rv) := by
  unfold fX7_leastPossible at hf
  refine j_iconst hX dX7_leastPossible_0 ic_0 ?_
  refine j_istore_n hX dX7_leastPossible_1 (by decide) rfl ?_
  refine j_iconst hX dX7_leastPossible_2 ic_0 ?_
  refine j_istore_n hX dX7_leastPossible_3 (by decide) rfl ?_
  refine j_iconst hX dX7_leastPossible_4 ic_0 ?_
  refine jpc (b := 5) rfl ?_
  refine j_istore hX dX7_leastPossible_5 (by decide) rfl ?_
  exact aJx (kX7_leastPossible_7 hX hr hlk hRf hRl fuel _ _ _ _ hG  hf) (And.intro rfl (And.intro rfl (And.intro rfl (And.intro rfl (And.intro rfl (rfl))))))
theorem okX7_leastPossible {l : Launch} {sh : List aSh} {i : Nat → Nat → Int32} {lo : Nat → Nat → Int64} {rv : Nat → Nat → Option Nat}  {a1 : Int32} {vR : Int32} (hG : aGood sh rv) (hf : fX7_leastPossible a1 i = some (vR)) : aM l yX7_leastPossible cX7_leastPossible 7 (some .int) 4 [.ref (100 + 30), .int a1] (sh, i, lo, rv) (some (.int vR)) (sh, i, lo, rv) :=
  aM_of (by decide) (Nat.le_of_ble_eq_true rfl) (Nat.le_refl _) (Nat.le_refl _) (fun p e s m args below meth c D cA A ad0 hX hr hlk hnm => kX7_leastPossible hX hr hlk (Nat.le_refl _) (Nat.le_refl _) hG hf)
def fX11_bound (a1 : Int32) (i : Nat → Nat → Int32) : Option ((Int32)) := bn1 (fX1_hasOfficer 15 a1 i) fun v1 =>
    if v1 = 0 then (some ((-1))) else (bn1 (fX7_leastPossible a1 i) fun v3 =>
    some (v3))
theorem kX11_bound  {vR : Int32} (hX : aX p s m args c RX11 cX11_bound 2 D cA A ad0) (hr : meth.sig.returnType = (some .int)) (hlk : meth.locks = false) (hRf : 5 ≤ R.frames) (hRl : 64 * 5 ≤ R.locals) {a1 : Int32} (hG : aGood sh rv) (hf : fX11_bound a1 i = some (vR)) : aJ p l e R s m args below meth c (MQ below (aPost D cA ad0 A (sh, i0, lo0, rv0) (some (.int vR)) (sh, i, lo, rv)) args s (sh.length - sh.length) (aSn sh - aSn sh) A) D cA A ad0 2 sh.length (aSn sh) 0 [some (.ref (100 + 0)), some (.int a1)] [] (sh, i, lo, rv) := by
  unfold fX11_bound at hf
  refine j_aload_n hX dX11_bound_0 rfl ?_
  refine j_getR (k := 3) hX kX11 (by decide) fk_X11_30 (rf_0_3 hG) dX11_bound_1 (sh_0 hG) rfl ?_
  refine j_iload_n hX dX11_bound_4 rfl ?_
  obtain ⟨v1, hh2, hf⟩ := bd1 hf
  refine j_cV1i hX lk_X11_162 kX1 dX11_bound_5 (sh_15 hG) (okX1_hasOfficer hG (cr_15 hG) hh2) rfl rfl (rmm (by omega) hRf hRl (by decide)) (Nat.le_of_ble_eq_true rfl) (Nat.le_add_right _ _) (Nat.le_add_right _ _) ?_
  refine j_if_eq (tgt := 22) hX dX11_bound_8 (by decide) (fun hc => ?_) (fun hc => ?_)
  · have hf := ifp hc hf
    refine j_iconst hX dX11_bound_22 ic_m1 ?_
    cases hf
    exact j_ret hX hr hlk rfl dX11_bound_23
  · have hf := ifn hc hf
    refine j_aload_n hX dX11_bound_11 rfl ?_
    refine j_getR (k := 8) hX kX11 (by decide) fk_X11_64 (rf_0_8 hG) dX11_bound_12 (sh_0 hG) rfl ?_
    refine j_iload_n hX dX11_bound_15 rfl ?_
    obtain ⟨v3, hh4, hf⟩ := bd1 hf
    refine j_cV1i hX lk_X11_249 kX7 dX11_bound_16 (sh_30 hG) (okX7_leastPossible hG hh4) rfl rfl (rmm (by omega) hRf hRl (by decide)) (Nat.le_of_ble_eq_true rfl) (Nat.le_add_right _ _) (Nat.le_add_right _ _) ?_
    refine j_goto (tgt := 23) hX dX11_bound_19 (by decide) ?_
    refine jpc (b := 23) rfl ?_
    cases hf
    exact j_ret hX hr hlk rfl dX11_bound_23
theorem okX11_bound {l : Launch} {sh : List aSh} {i : Nat → Nat → Int32} {lo : Nat → Nat → Int64} {rv : Nat → Nat → Option Nat}  {a1 : Int32} {vR : Int32} (hG : aGood sh rv) (hf : fX11_bound a1 i = some (vR)) : aM l yX11_bound cX11_bound 2 (some .int) 5 [.ref (100 + 0), .int a1] (sh, i, lo, rv) (some (.int vR)) (sh, i, lo, rv) :=
  aM_of (by decide) (Nat.le_of_ble_eq_true rfl) (Nat.le_refl _) (Nat.le_refl _) (fun p e s m args below meth c D cA A ad0 hX hr hlk hnm => kX11_bound hX hr hlk (Nat.le_refl _) (Nat.le_refl _) hG hf)
def fX0_asleepWithPapers_43 (kh4 : Int32 → Int32 → (Nat → Nat → Int32) → Option ((Int32))) (x2 : Int32) (s0 : Int32) (s1 : Int32) (i : Nat → Nat → Int32) : Option ((Int32)) := kh4 (s0 ||| s1) (x2 + 1) i
theorem kX0_asleepWithPapers_43  {vR : Int32} (hX : aX p s m args c RX0 cX0_asleepWithPapers 4 D cA A ad0) (hr : meth.sig.returnType = (some .int)) (hlk : meth.locks = false) (hRf : 1 ≤ R.frames) (hRl : 64 * 1 ≤ R.locals) {kh4 : Int32 → Int32 → (Nat → Nat → Int32) → Option ((Int32))} (Hkh4 : ∀ (x1 : Int32) (x2 : Int32), aGood sh rv → kh4 x1 x2 i = some (vR) → aJ p l e R s m args below meth c (MQ below (aPost D cA ad0 A (sh, i0, lo0, rv0) (some (.int vR)) (sh, i, lo, rv)) args s (sh.length - sh.length) (aSn sh - aSn sh) A) D cA A ad0 4 sh.length (aSn sh) 4 [some (.ref (100 + 35)), some (.int x1), some (.int x2), none] [] (sh, i, lo, rv)) {x2 : Int32} {s0 : Int32} {s1 : Int32} (hG : aGood sh rv) (hf : fX0_asleepWithPapers_43 kh4 x2 s0 s1 i = some (vR)) : aJ p l e R s m args below meth c (MQ below (aPost D cA ad0 A (sh, i0, lo0, rv0) (some (.int vR)) (sh, i, lo, rv)) args s (sh.length - sh.length) (aSn sh - aSn sh) A) D cA A ad0 4 sh.length (aSn sh) 43 [some (.ref (100 + 35)), none, some (.int x2), none] [.int s1, .int s0] (sh, i, lo, rv) := by
  unfold fX0_asleepWithPapers_43 at hf
  refine j_ior hX dX0_asleepWithPapers_43 ?_
  refine j_istore_n hX dX0_asleepWithPapers_44 (by decide) rfl ?_
  refine j_iinc hX dX0_asleepWithPapers_45 rfl (congrArg (_ + ·) ic_1) (by decide) rfl ?_
  refine j_goto (tgt := 4) hX dX0_asleepWithPapers_48 (by decide) ?_
  exact aJx (Hkh4 _ _ hG  hf) (And.intro rfl (And.intro rfl (And.intro rfl (rfl))))
def fX0_asleepWithPapers_4 : Nat → Int32 → Int32 → (Nat → Nat → Int32) → Option ((Int32))
  | 0, _, _, _ => none
  | n + 1, x1, x2, i => bn1 (fX1_papers 15 i) fun v1 =>
    if v1 ≤ x2 then (some (x1)) else (bn1 (fX8_inDrawer 19 x2 i) fun v3 =>
    bn1 (fX8_isAsleep 19 v3 i) fun v5 =>
    if v5 = 0 then (fX0_asleepWithPapers_43 (fX0_asleepWithPapers_4 n) x2 x1 0 i) else (fX0_asleepWithPapers_43 (fX0_asleepWithPapers_4 n) x2 x1 ((1 : Int32) <<< (v3 &&& 31)) i))
theorem kX0_asleepWithPapers_4  {vR : Int32} (hX : aX p s m args c RX0 cX0_asleepWithPapers 4 D cA A ad0) (hr : meth.sig.returnType = (some .int)) (hlk : meth.locks = false) (hRf : 1 ≤ R.frames) (hRl : 64 * 1 ≤ R.locals) : ∀ (n : Nat) (x1 : Int32) (x2 : Int32), aGood sh rv → fX0_asleepWithPapers_4 n x1 x2 i = some (vR) → aJ p l e R s m args below meth c (MQ below (aPost D cA ad0 A (sh, i0, lo0, rv0) (some (.int vR)) (sh, i, lo, rv)) args s (sh.length - sh.length) (aSn sh - aSn sh) A) D cA A ad0 4 sh.length (aSn sh) 4 [some (.ref (100 + 35)), some (.int x1), some (.int x2), none] [] (sh, i, lo, rv) := by
  intro n
  induction n with
  | zero => intros; rename_i hf; cases hf
  | succ n ih =>
    intro x1 x2 hG hf
    rw [fX0_asleepWithPapers_4] at hf
    refine j_iload_n hX dX0_asleepWithPapers_4 rfl ?_
    refine j_aload_n hX dX0_asleepWithPapers_5 rfl ?_
    refine j_getR (k := 0) hX kX0 (by decide) fk_X0_41 (rf_35_0 hG) dX0_asleepWithPapers_6 (sh_35 hG) rfl ?_
    obtain ⟨v1, hh2, hf⟩ := bd1 hf
    refine j_cV0i hX lk_X0_82 kX1 dX0_asleepWithPapers_9 (sh_15 hG) (okX1_papers hG (cr_15 hG) hh2) rfl rfl (rmm (by omega) hRf hRl (by decide)) (Nat.le_of_ble_eq_true rfl) (Nat.le_add_right _ _) (Nat.le_add_right _ _) ?_
    refine j_icmp_ge (tgt := 51) hX dX0_asleepWithPapers_12 (by decide) (fun hc => ?_) (fun hc => ?_)
    · have hf := ifp hc hf
      refine j_iload_n hX dX0_asleepWithPapers_51 rfl ?_
      cases hf
      exact j_ret hX hr hlk rfl dX0_asleepWithPapers_52
    · have hf := ifn hc hf
      refine j_aload_n hX dX0_asleepWithPapers_15 rfl ?_
      refine j_getR (k := 2) hX kX0 (by decide) fk_X0_49 (rf_35_2 hG) dX0_asleepWithPapers_16 (sh_35 hG) rfl ?_
      refine j_iload_n hX dX0_asleepWithPapers_19 rfl ?_
      obtain ⟨v3, hh4, hf⟩ := bd1 hf
      refine j_cV1i hX lk_X0_85 kX8 dX0_asleepWithPapers_20 (sh_19 hG) (okX8_inDrawer hG (sc_19 hG) hh4) rfl rfl (rmm (by omega) hRf hRl (by decide)) (Nat.le_of_ble_eq_true rfl) (Nat.le_add_right _ _) (Nat.le_add_right _ _) ?_
      refine j_istore_n hX dX0_asleepWithPapers_23 (by decide) rfl ?_
      refine jpc (b := 24) rfl ?_
      refine j_iload_n hX dX0_asleepWithPapers_24 rfl ?_
      refine j_aload_n hX dX0_asleepWithPapers_25 rfl ?_
      refine j_getR (k := 2) hX kX0 (by decide) fk_X0_49 (rf_35_2 hG) dX0_asleepWithPapers_26 (sh_35 hG) rfl ?_
      refine j_iload_n hX dX0_asleepWithPapers_29 rfl ?_
      obtain ⟨v5, hh6, hf⟩ := bd1 hf
      refine j_cV1i hX lk_X0_91 kX8 dX0_asleepWithPapers_30 (sh_19 hG) (okX8_isAsleep hG (sc_19 hG) hh6) rfl rfl (rmm (by omega) hRf hRl (by decide)) (Nat.le_of_ble_eq_true rfl) (Nat.le_add_right _ _) (Nat.le_add_right _ _) ?_
      refine j_if_eq (tgt := 42) hX dX0_asleepWithPapers_33 (by decide) (fun hc => ?_) (fun hc => ?_)
      · have hf := ifp hc hf
        refine j_iconst hX dX0_asleepWithPapers_42 ic_0 ?_
        exact aJx (kX0_asleepWithPapers_43 hX hr hlk hRf hRl ih hG  hf) (And.intro rfl (And.intro rfl (rfl)))
      · have hf := ifn hc hf
        refine j_iconst hX dX0_asleepWithPapers_36 ic_1 ?_
        refine j_iload_n hX dX0_asleepWithPapers_37 rfl ?_
        refine j_ishl hX dX0_asleepWithPapers_38 ?_
        refine j_goto (tgt := 43) hX dX0_asleepWithPapers_39 (by decide) ?_
        exact aJx (kX0_asleepWithPapers_43 hX hr hlk hRf hRl ih hG  hf) (And.intro rfl (And.intro rfl (rfl)))
def fX0_asleepWithPapers (i : Nat → Nat → Int32) : Option ((Int32)) := fX0_asleepWithPapers_4 fuel 0 0 i
theorem kX0_asleepWithPapers  {vR : Int32} (hX : aX p s m args c RX0 cX0_asleepWithPapers 4 D cA A ad0) (hr : meth.sig.returnType = (some .int)) (hlk : meth.locks = false) (hRf : 1 ≤ R.frames) (hRl : 64 * 1 ≤ R.locals) (hG : aGood sh rv) (hf : fX0_asleepWithPapers i = some (vR)) : aJ p l e R s m args below meth c (MQ below (aPost D cA ad0 A (sh, i0, lo0, rv0) (some (.int vR)) (sh, i, lo, rv)) args s (sh.length - sh.length) (aSn sh - aSn sh) A) D cA A ad0 4 sh.length (aSn sh) 0 [some (.ref (100 + 35)), none, none, none] [] (sh, i, lo, rv) := by
  unfold fX0_asleepWithPapers at hf
  refine j_iconst hX dX0_asleepWithPapers_0 ic_0 ?_
  refine j_istore_n hX dX0_asleepWithPapers_1 (by decide) rfl ?_
  refine j_iconst hX dX0_asleepWithPapers_2 ic_0 ?_
  refine j_istore_n hX dX0_asleepWithPapers_3 (by decide) rfl ?_
  exact aJx (kX0_asleepWithPapers_4 hX hr hlk hRf hRl fuel _ _ hG  hf) (And.intro rfl (And.intro rfl (And.intro rfl (rfl))))
theorem okX0_asleepWithPapers {l : Launch} {sh : List aSh} {i : Nat → Nat → Int32} {lo : Nat → Nat → Int64} {rv : Nat → Nat → Option Nat}  {vR : Int32} (hG : aGood sh rv) (hf : fX0_asleepWithPapers i = some (vR)) : aM l yX0_asleepWithPapers cX0_asleepWithPapers 4 (some .int) 1 [.ref (100 + 35)] (sh, i, lo, rv) (some (.int vR)) (sh, i, lo, rv) :=
  aM_of (by decide) (Nat.le_of_ble_eq_true rfl) (Nat.le_refl _) (Nat.le_refl _) (fun p e s m args below meth c D cA A ad0 hX hr hlk hnm => kX0_asleepWithPapers hX hr hlk (Nat.le_refl _) (Nat.le_refl _) hG hf)
def fX0_sumByHand_59 (kh17 : Int32 → Int32 → Int32 → (Nat → Nat → Int32) → (Nat → Nat → Option Nat) → Option ((Nat → Nat → Int32))) : Nat → Int32 → Int32 → Int32 → Int32 → Int32 → (Nat → Nat → Int32) → (Nat → Nat → Option Nat) → Option ((Nat → Nat → Int32))
  | 0, _, _, _, _, _, _, _ => none
  | n + 1, x1, x2, x3, x4, x5, i, rv => if ((1 : Int32) <<< (x3 &&& 31)) ≤ x5 then (kh17 x1 x2 (x3 + 1) i rv) else (if aIn x5 512 = true then
    (if aIn (x5 ||| ((1 : Int32) <<< (x3 &&& 31))) 512 = true then
    (lt (u2 i 36 ((x5 ||| ((1 : Int32) <<< (x3 &&& 31))) : Int32).toNatClampNeg ((i 36 (x5 : Int32).toNatClampNeg) + x4)) fun i9 => fX0_sumByHand_59 kh17 n x1 x2 x3 x4 (x5 + 1) i9 rv) else none) else none)
theorem kX0_sumByHand_59  {iR : Nat → Nat → Int32} (hX : aX p s m args c RX0 cX0_sumByHand 6 D cA A ad0) (hr : meth.sig.returnType = none) (hlk : meth.locks = false) (hRf : 5 ≤ R.frames) (hRl : 64 * 5 ≤ R.locals) {kh17 : Int32 → Int32 → Int32 → (Nat → Nat → Int32) → (Nat → Nat → Option Nat) → Option ((Nat → Nat → Int32))} (Hkh17 : ∀ (x1 : Int32) (x2 : Int32) (x3 : Int32) (i : Nat → Nat → Int32), aGood sh rv → kh17 x1 x2 x3 i rv = some (iR) → aJ p l e R s m args below meth c (MQ below (aPost D cA ad0 A (sh, i0, lo0, rv0) none (sh, iR, lo, rv)) args s (sh.length - sh.length) (aSn sh - aSn sh) A) D cA A ad0 6 sh.length (aSn sh) 17 [some (.ref (100 + 35)), some (.int x1), some (.int x2), some (.int x3), none, none] [] (sh, i, lo, rv)) : ∀ (n : Nat) (x1 : Int32) (x2 : Int32) (x3 : Int32) (x4 : Int32) (x5 : Int32) (i : Nat → Nat → Int32), aGood sh rv → fX0_sumByHand_59 kh17 n x1 x2 x3 x4 x5 i rv = some (iR) → aJ p l e R s m args below meth c (MQ below (aPost D cA ad0 A (sh, i0, lo0, rv0) none (sh, iR, lo, rv)) args s (sh.length - sh.length) (aSn sh - aSn sh) A) D cA A ad0 6 sh.length (aSn sh) 59 [some (.ref (100 + 35)), some (.int x1), some (.int x2), some (.int x3), some (.int x4), some (.int x5)] [] (sh, i, lo, rv) := by
  intro n
  induction n with
  | zero => intros; rename_i hf; cases hf
  | succ n ih =>
    intro x1 x2 x3 x4 x5 i hG hf
    rw [fX0_sumByHand_59] at hf
    refine j_iload hX dX0_sumByHand_59 rfl ?_
    refine j_iconst hX dX0_sumByHand_61 ic_1 ?_
    refine j_iload_n hX dX0_sumByHand_62 rfl ?_
    refine j_ishl hX dX0_sumByHand_63 ?_
    refine j_icmp_ge (tgt := 94) hX dX0_sumByHand_64 (by decide) (fun hc => ?_) (fun hc => ?_)
    · have hf := ifp hc hf
      refine j_iinc hX dX0_sumByHand_94 rfl (congrArg (_ + ·) ic_1) (by decide) rfl ?_
      refine j_goto (tgt := 17) hX dX0_sumByHand_97 (by decide) ?_
      exact aJx (Hkh17 _ _ _ _ hG  hf) (And.intro rfl (And.intro rfl (And.intro rfl (And.intro rfl (rfl)))))
    · have hf := ifn hc hf
      refine j_aload_n hX dX0_sumByHand_67 rfl ?_
      refine j_getR (k := 3) hX kX0 (by decide) fk_X0_13 (rf_35_3 hG) dX0_sumByHand_68 (sh_35 hG) rfl ?_
      refine j_iload hX dX0_sumByHand_71 rfl ?_
      refine j_iconst hX dX0_sumByHand_73 ic_1 ?_
      refine j_iload_n hX dX0_sumByHand_74 rfl ?_
      refine jpc (b := 75) rfl ?_
      refine j_ishl hX dX0_sumByHand_75 ?_
      refine j_ior hX dX0_sumByHand_76 ?_
      refine j_aload_n hX dX0_sumByHand_77 rfl ?_
      refine j_getR (k := 3) hX kX0 (by decide) fk_X0_13 (rf_35_3 hG) dX0_sumByHand_78 (sh_35 hG) rfl ?_
      refine j_iload hX dX0_sumByHand_81 rfl ?_
      obtain ⟨hg, hf⟩ := gd hf
      refine j_iald hX (sh_36 hG) hg dX0_sumByHand_83 ?_
      refine j_iload hX dX0_sumByHand_84 rfl ?_
      refine j_iadd hX dX0_sumByHand_86 ?_
      obtain ⟨hg, hf⟩ := gd hf
      have hf := ltd hf
      refine j_iast hX (sh_36 hG) hg dX0_sumByHand_87 ?_
      refine j_iinc hX dX0_sumByHand_88 rfl (congrArg (_ + ·) ic_1) (by decide) rfl ?_
      refine j_goto (tgt := 59) hX dX0_sumByHand_91 (by decide) ?_
      exact aJx (ih _ _ _ _ _ _ hG  hf) (And.intro rfl (And.intro rfl (And.intro rfl (And.intro rfl (And.intro rfl (And.intro rfl (rfl)))))))
def fX0_sumByHand_54 (kh17 : Int32 → Int32 → Int32 → (Nat → Nat → Int32) → (Nat → Nat → Option Nat) → Option ((Nat → Nat → Int32))) (x1 : Int32) (x2 : Int32) (x3 : Int32) (s0 : Int32) (i : Nat → Nat → Int32) (rv : Nat → Nat → Option Nat) : Option ((Nat → Nat → Int32)) := fX0_sumByHand_59 kh17 fuel x1 x2 x3 s0 0 i rv
theorem kX0_sumByHand_54  {iR : Nat → Nat → Int32} (hX : aX p s m args c RX0 cX0_sumByHand 6 D cA A ad0) (hr : meth.sig.returnType = none) (hlk : meth.locks = false) (hRf : 5 ≤ R.frames) (hRl : 64 * 5 ≤ R.locals) {kh17 : Int32 → Int32 → Int32 → (Nat → Nat → Int32) → (Nat → Nat → Option Nat) → Option ((Nat → Nat → Int32))} (Hkh17 : ∀ (x1 : Int32) (x2 : Int32) (x3 : Int32) (i : Nat → Nat → Int32), aGood sh rv → kh17 x1 x2 x3 i rv = some (iR) → aJ p l e R s m args below meth c (MQ below (aPost D cA ad0 A (sh, i0, lo0, rv0) none (sh, iR, lo, rv)) args s (sh.length - sh.length) (aSn sh - aSn sh) A) D cA A ad0 6 sh.length (aSn sh) 17 [some (.ref (100 + 35)), some (.int x1), some (.int x2), some (.int x3), none, none] [] (sh, i, lo, rv)) {x1 : Int32} {x2 : Int32} {x3 : Int32} {s0 : Int32} (hG : aGood sh rv) (hf : fX0_sumByHand_54 kh17 x1 x2 x3 s0 i rv = some (iR)) : aJ p l e R s m args below meth c (MQ below (aPost D cA ad0 A (sh, i0, lo0, rv0) none (sh, iR, lo, rv)) args s (sh.length - sh.length) (aSn sh - aSn sh) A) D cA A ad0 6 sh.length (aSn sh) 54 [some (.ref (100 + 35)), some (.int x1), some (.int x2), some (.int x3), none, none] [.int s0] (sh, i, lo, rv) := by
  unfold fX0_sumByHand_54 at hf
  refine j_istore hX dX0_sumByHand_54 (by decide) rfl ?_
  refine j_iconst hX dX0_sumByHand_56 ic_0 ?_
  refine j_istore hX dX0_sumByHand_57 (by decide) rfl ?_
  exact aJx (kX0_sumByHand_59 hX hr hlk hRf hRl Hkh17 fuel _ _ _ _ _ _ hG  hf) (And.intro rfl (And.intro rfl (And.intro rfl (And.intro rfl (And.intro rfl (And.intro rfl (rfl)))))))
def fX0_sumByHand_17 : Nat → Int32 → Int32 → Int32 → (Nat → Nat → Int32) → (Nat → Nat → Option Nat) → Option ((Nat → Nat → Int32))
  | 0, _, _, _, _, _ => none
  | n + 1, x1, x2, x3, i, rv => bn1 (fX1_sleepers 15 i) fun v4 =>
    if v4 ≤ x3 then (some (i)) else (if ((x1 >>> (x3 &&& 31)) &&& (1 : Int32)) = 0 then (fX0_sumByHand_54 (fX0_sumByHand_17 n) x1 x2 x3 0 i rv) else (bn2 (fX3_lossByHand 19 x3 i rv) fun v6 i7 =>
    fX0_sumByHand_54 (fX0_sumByHand_17 n) x1 x2 x3 (x2 * v6) i7 rv))
theorem kX0_sumByHand_17  {iR : Nat → Nat → Int32} (hX : aX p s m args c RX0 cX0_sumByHand 6 D cA A ad0) (hr : meth.sig.returnType = none) (hlk : meth.locks = false) (hRf : 5 ≤ R.frames) (hRl : 64 * 5 ≤ R.locals) : ∀ (n : Nat) (x1 : Int32) (x2 : Int32) (x3 : Int32) (i : Nat → Nat → Int32), aGood sh rv → fX0_sumByHand_17 n x1 x2 x3 i rv = some (iR) → aJ p l e R s m args below meth c (MQ below (aPost D cA ad0 A (sh, i0, lo0, rv0) none (sh, iR, lo, rv)) args s (sh.length - sh.length) (aSn sh - aSn sh) A) D cA A ad0 6 sh.length (aSn sh) 17 [some (.ref (100 + 35)), some (.int x1), some (.int x2), some (.int x3), none, none] [] (sh, i, lo, rv) := by
  intro n
  induction n with
  | zero => intros; rename_i hf; cases hf
  | succ n ih =>
    intro x1 x2 x3 i hG hf
    rw [fX0_sumByHand_17] at hf
    refine j_iload_n hX dX0_sumByHand_17 rfl ?_
    refine j_aload_n hX dX0_sumByHand_18 rfl ?_
    refine j_getR (k := 0) hX kX0 (by decide) fk_X0_41 (rf_35_0 hG) dX0_sumByHand_19 (sh_35 hG) rfl ?_
    obtain ⟨v4, hh5, hf⟩ := bd1 hf
    refine j_cV0i hX lk_X0_98 kX1 dX0_sumByHand_22 (sh_15 hG) (okX1_sleepers hG (cr_15 hG) hh5) rfl rfl (rmm (by omega) hRf hRl (by decide)) (Nat.le_of_ble_eq_true rfl) (Nat.le_add_right _ _) (Nat.le_add_right _ _) ?_
    refine j_icmp_ge (tgt := 100) hX dX0_sumByHand_25 (by decide) (fun hc => ?_) (fun hc => ?_)
    · have hf := ifp hc hf
      cases hf
      exact j_vret hX hr hlk dX0_sumByHand_100
    · have hf := ifn hc hf
      refine j_iload_n hX dX0_sumByHand_28 rfl ?_
      refine j_iload_n hX dX0_sumByHand_29 rfl ?_
      refine j_ishr hX dX0_sumByHand_30 ?_
      refine j_iconst hX dX0_sumByHand_31 ic_1 ?_
      refine j_iand hX dX0_sumByHand_32 ?_
      refine jpc (b := 33) rfl ?_
      refine j_if_ne (tgt := 40) hX dX0_sumByHand_33 (by decide) (fun hc => ?_) (fun hc => ?_)
      · have hf := ifn hc hf
        refine j_iload_n hX dX0_sumByHand_40 rfl ?_
        refine j_aload_n hX dX0_sumByHand_41 rfl ?_
        refine j_getR (k := 1) hX kX0 (by decide) fk_X0_45 (rf_35_1 hG) dX0_sumByHand_42 (sh_35 hG) rfl ?_
        refine j_aload_n hX dX0_sumByHand_45 rfl ?_
        refine j_getR (k := 2) hX kX0 (by decide) fk_X0_49 (rf_35_2 hG) dX0_sumByHand_46 (sh_35 hG) rfl ?_
        refine jpc (b := 49) rfl ?_
        refine j_iload_n hX dX0_sumByHand_49 rfl ?_
        obtain ⟨v6, i7, hh8, hf⟩ := bd2 hf
        refine j_cV2i hX lk_X0_101 kX3 dX0_sumByHand_50 (sh_23 hG) (okX3_lossByHand hG (sc_19 hG) hh8) rfl rfl (rmm (by omega) hRf hRl (by decide)) (Nat.le_of_ble_eq_true rfl) (Nat.le_add_right _ _) (Nat.le_add_right _ _) ?_
        refine j_imul hX dX0_sumByHand_53 ?_
        exact aJx (kX0_sumByHand_54 hX hr hlk hRf hRl ih hG  hf) (And.intro rfl (And.intro rfl (And.intro rfl (And.intro rfl (rfl)))))
      · have hf := ifp hc hf
        refine j_iconst hX dX0_sumByHand_36 ic_0 ?_
        refine j_goto (tgt := 54) hX dX0_sumByHand_37 (by decide) ?_
        exact aJx (kX0_sumByHand_54 hX hr hlk hRf hRl ih hG  hf) (And.intro rfl (And.intro rfl (And.intro rfl (And.intro rfl (rfl)))))
def fX0_sumByHand (a1 : Int32) (i : Nat → Nat → Int32) (rv : Nat → Nat → Option Nat) : Option ((Nat → Nat → Int32)) := bn1 (fX1_allWeights 15 i) fun v1 =>
    if aIn 0 512 = true then
    (lt (u2 i 36 (0 : Int32).toNatClampNeg 0) fun i3 => fX0_sumByHand_17 fuel a1 v1 0 i3 rv) else none
theorem kX0_sumByHand  {iR : Nat → Nat → Int32} (hX : aX p s m args c RX0 cX0_sumByHand 6 D cA A ad0) (hr : meth.sig.returnType = none) (hlk : meth.locks = false) (hRf : 5 ≤ R.frames) (hRl : 64 * 5 ≤ R.locals) {a1 : Int32} (hG : aGood sh rv) (hf : fX0_sumByHand a1 i rv = some (iR)) : aJ p l e R s m args below meth c (MQ below (aPost D cA ad0 A (sh, i0, lo0, rv0) none (sh, iR, lo, rv)) args s (sh.length - sh.length) (aSn sh - aSn sh) A) D cA A ad0 6 sh.length (aSn sh) 0 [some (.ref (100 + 35)), some (.int a1), none, none, none, none] [] (sh, i, lo, rv) := by
  unfold fX0_sumByHand at hf
  refine j_aload_n hX dX0_sumByHand_0 rfl ?_
  refine j_getR (k := 0) hX kX0 (by decide) fk_X0_41 (rf_35_0 hG) dX0_sumByHand_1 (sh_35 hG) rfl ?_
  obtain ⟨v1, hh2, hf⟩ := bd1 hf
  refine j_cV0i hX lk_X0_95 kX1 dX0_sumByHand_4 (sh_15 hG) (okX1_allWeights hG (cr_15 hG) hh2) rfl rfl (rmm (by omega) hRf hRl (by decide)) (Nat.le_of_ble_eq_true rfl) (Nat.le_add_right _ _) (Nat.le_add_right _ _) ?_
  refine j_istore_n hX dX0_sumByHand_7 (by decide) rfl ?_
  refine j_aload_n hX dX0_sumByHand_8 rfl ?_
  refine jpc (b := 9) rfl ?_
  refine j_getR (k := 3) hX kX0 (by decide) fk_X0_13 (rf_35_3 hG) dX0_sumByHand_9 (sh_35 hG) rfl ?_
  refine j_iconst hX dX0_sumByHand_12 ic_0 ?_
  refine j_iconst hX dX0_sumByHand_13 ic_0 ?_
  obtain ⟨hg, hf⟩ := gd hf
  have hf := ltd hf
  refine j_iast hX (sh_36 hG) hg dX0_sumByHand_14 ?_
  refine j_iconst hX dX0_sumByHand_15 ic_0 ?_
  refine j_istore_n hX dX0_sumByHand_16 (by decide) rfl ?_
  exact aJx (kX0_sumByHand_17 hX hr hlk hRf hRl fuel _ _ _ _ hG  hf) (And.intro rfl (And.intro rfl (And.intro rfl (And.intro rfl (rfl)))))
theorem okX0_sumByHand {l : Launch} {sh : List aSh} {i : Nat → Nat → Int32} {lo : Nat → Nat → Int64} {rv : Nat → Nat → Option Nat}  {a1 : Int32} {iR : Nat → Nat → Int32} (hG : aGood sh rv) (hf : fX0_sumByHand a1 i rv = some (iR)) : aM l yX0_sumByHand cX0_sumByHand 6 none 5 [.ref (100 + 35), .int a1] (sh, i, lo, rv) none (sh, iR, lo, rv) :=
  aM_of (by decide) (Nat.le_of_ble_eq_true rfl) (Nat.le_refl _) (Nat.le_refl _) (fun p e s m args below meth c D cA A ad0 hX hr hlk hnm => kX0_sumByHand hX hr hlk (Nat.le_refl _) (Nat.le_refl _) hG hf)
def fX0_layOutDrawer_219 (kh16 : Int32 → Int32 → Int32 → Int32 → Int32 → (Nat → Nat → Int32) → (Nat → Nat → Option Nat) → Option ((Nat → Nat → Int32))) (x1 : Int32) (x2 : Int32) (x3 : Int32) (x4 : Int32) (x5 : Int32) (i : Nat → Nat → Int32) (rv : Nat → Nat → Option Nat) : Option ((Nat → Nat → Int32)) := if aIn x5 9 = true then
    (lt (x3 + (i 38 (x5 : Int32).toNatClampNeg)) fun t20 =>
    kh16 x1 x2 t20 x4 (x5 + 1) i rv) else none
theorem kX0_layOutDrawer_219  {iR : Nat → Nat → Int32} (hX : aX p s m args c RX0 cX0_layOutDrawer 9 D cA A ad0) (hr : meth.sig.returnType = none) (hlk : meth.locks = false) (hRf : 4 ≤ R.frames) (hRl : 64 * 4 ≤ R.locals) {kh16 : Int32 → Int32 → Int32 → Int32 → Int32 → (Nat → Nat → Int32) → (Nat → Nat → Option Nat) → Option ((Nat → Nat → Int32))} (Hkh16 : ∀ (x1 : Int32) (x2 : Int32) (x3 : Int32) (x4 : Int32) (x5 : Int32) (i : Nat → Nat → Int32), aGood sh rv → kh16 x1 x2 x3 x4 x5 i rv = some (iR) → aJ p l e R s m args below meth c (MQ below (aPost D cA ad0 A (sh, i0, lo0, rv0) none (sh, iR, lo, rv)) args s (sh.length - sh.length) (aSn sh - aSn sh) A) D cA A ad0 9 sh.length (aSn sh) 16 [some (.ref (100 + 35)), some (.int x1), some (.int x2), some (.int x3), some (.int x4), some (.int x5), none, none, none] [] (sh, i, lo, rv)) {x1 : Int32} {x2 : Int32} {x3 : Int32} {x4 : Int32} {x5 : Int32} (hG : aGood sh rv) (hf : fX0_layOutDrawer_219 kh16 x1 x2 x3 x4 x5 i rv = some (iR)) : aJ p l e R s m args below meth c (MQ below (aPost D cA ad0 A (sh, i0, lo0, rv0) none (sh, iR, lo, rv)) args s (sh.length - sh.length) (aSn sh - aSn sh) A) D cA A ad0 9 sh.length (aSn sh) 219 [some (.ref (100 + 35)), some (.int x1), some (.int x2), some (.int x3), some (.int x4), some (.int x5), none, none, none] [] (sh, i, lo, rv) := by
  unfold fX0_layOutDrawer_219 at hf
  refine j_iload_n hX dX0_layOutDrawer_219 rfl ?_
  refine j_aload_n hX dX0_layOutDrawer_220 rfl ?_
  refine j_getR (k := 5) hX kX0 (by decide) fk_X0_20 (rf_35_5 hG) dX0_layOutDrawer_221 (sh_35 hG) rfl ?_
  refine j_iload hX dX0_layOutDrawer_224 rfl ?_
  obtain ⟨hg, hf⟩ := gd hf
  refine j_iald hX (sh_38 hG) hg dX0_layOutDrawer_226 ?_
  refine j_iadd hX dX0_layOutDrawer_227 ?_
  have hf := ltd hf
  refine j_istore_n hX dX0_layOutDrawer_228 (by decide) rfl ?_
  refine j_iinc hX dX0_layOutDrawer_229 rfl (congrArg (_ + ·) ic_1) (by decide) rfl ?_
  refine j_goto (tgt := 16) hX dX0_layOutDrawer_232 (by decide) ?_
  exact aJx (Hkh16 _ _ _ _ _ _ hG  hf) (And.intro rfl (And.intro rfl (And.intro rfl (And.intro rfl (And.intro rfl (And.intro rfl (rfl)))))))
def fX0_layOutDrawer_159 (kh16 : Int32 → Int32 → Int32 → Int32 → Int32 → (Nat → Nat → Int32) → (Nat → Nat → Option Nat) → Option ((Nat → Nat → Int32))) : Nat → Int32 → Int32 → Int32 → Int32 → Int32 → Int32 → Int32 → (Nat → Nat → Int32) → (Nat → Nat → Option Nat) → Option ((Nat → Nat → Int32))
  | 0, _, _, _, _, _, _, _, _, _ => none
  | n + 1, x1, x2, x3, x4, x5, x6, x7, i, rv => if x4 < x7 then (fX0_layOutDrawer_219 kh16 x1 x2 x3 (x4 + 1) x5 i rv) else (bn1 (fX1_ruleOf 15 3 i) fun v21 =>
    bn2 (fX3_lossOf 19 x6 (x3 + (x7 * v21)) x1 i rv) fun v23 i24 =>
    if aIn ((x5 * (9 : Int32)) + x7) 81 = true then
    (lt (u2 i24 37 (((x5 * (9 : Int32)) + x7) : Int32).toNatClampNeg v23) fun i26 => fX0_layOutDrawer_159 kh16 n x1 x2 x3 x4 x5 x6 (x7 + 1) i26 rv) else none)
theorem kX0_layOutDrawer_159  {iR : Nat → Nat → Int32} (hX : aX p s m args c RX0 cX0_layOutDrawer 9 D cA A ad0) (hr : meth.sig.returnType = none) (hlk : meth.locks = false) (hRf : 4 ≤ R.frames) (hRl : 64 * 4 ≤ R.locals) {kh16 : Int32 → Int32 → Int32 → Int32 → Int32 → (Nat → Nat → Int32) → (Nat → Nat → Option Nat) → Option ((Nat → Nat → Int32))} (Hkh16 : ∀ (x1 : Int32) (x2 : Int32) (x3 : Int32) (x4 : Int32) (x5 : Int32) (i : Nat → Nat → Int32), aGood sh rv → kh16 x1 x2 x3 x4 x5 i rv = some (iR) → aJ p l e R s m args below meth c (MQ below (aPost D cA ad0 A (sh, i0, lo0, rv0) none (sh, iR, lo, rv)) args s (sh.length - sh.length) (aSn sh - aSn sh) A) D cA A ad0 9 sh.length (aSn sh) 16 [some (.ref (100 + 35)), some (.int x1), some (.int x2), some (.int x3), some (.int x4), some (.int x5), none, none, none] [] (sh, i, lo, rv)) : ∀ (n : Nat) (x1 : Int32) (x2 : Int32) (x3 : Int32) (x4 : Int32) (x5 : Int32) (x6 : Int32) (x7 : Int32) (i : Nat → Nat → Int32), aGood sh rv → fX0_layOutDrawer_159 kh16 n x1 x2 x3 x4 x5 x6 x7 i rv = some (iR) → aJ p l e R s m args below meth c (MQ below (aPost D cA ad0 A (sh, i0, lo0, rv0) none (sh, iR, lo, rv)) args s (sh.length - sh.length) (aSn sh - aSn sh) A) D cA A ad0 9 sh.length (aSn sh) 159 [some (.ref (100 + 35)), some (.int x1), some (.int x2), some (.int x3), some (.int x4), some (.int x5), some (.int x6), some (.int x7), none] [] (sh, i, lo, rv) := by
  intro n
  induction n with
  | zero => intros; rename_i hf; cases hf
  | succ n ih =>
    intro x1 x2 x3 x4 x5 x6 x7 i hG hf
    rw [fX0_layOutDrawer_159] at hf
    refine j_iload hX dX0_layOutDrawer_159 rfl ?_
    refine j_iload hX dX0_layOutDrawer_161 rfl ?_
    refine j_icmp_gt (tgt := 216) hX dX0_layOutDrawer_163 (by decide) (fun hc => ?_) (fun hc => ?_)
    · have hf := ifp hc hf
      refine j_iinc hX dX0_layOutDrawer_216 rfl (congrArg (_ + ·) ic_1) (by decide) rfl ?_
      exact aJx (kX0_layOutDrawer_219 hX hr hlk hRf hRl Hkh16 hG  hf) (And.intro rfl (And.intro rfl (And.intro rfl (And.intro rfl (And.intro rfl (And.intro rfl (rfl)))))))
    · have hf := ifn hc hf
      refine j_iload_n hX dX0_layOutDrawer_166 rfl ?_
      refine j_iload hX dX0_layOutDrawer_167 rfl ?_
      refine j_aload_n hX dX0_layOutDrawer_169 rfl ?_
      refine j_getR (k := 0) hX kX0 (by decide) fk_X0_41 (rf_35_0 hG) dX0_layOutDrawer_170 (sh_35 hG) rfl ?_
      refine j_iconst hX dX0_layOutDrawer_173 ic_3 ?_
      refine jpc (b := 174) rfl ?_
      obtain ⟨v21, hh22, hf⟩ := bd1 hf
      refine j_cV1i hX lk_X0_128 kX1 dX0_layOutDrawer_174 (sh_15 hG) (okX1_ruleOf hG (cr_15 hG) hh22) rfl rfl (rmm (by omega) hRf hRl (by decide)) (Nat.le_of_ble_eq_true rfl) (Nat.le_add_right _ _) (Nat.le_add_right _ _) ?_
      refine j_imul hX dX0_layOutDrawer_177 ?_
      refine j_iadd hX dX0_layOutDrawer_178 ?_
      refine j_istore hX dX0_layOutDrawer_179 (by decide) rfl ?_
      refine j_aload_n hX dX0_layOutDrawer_181 rfl ?_
      refine j_getR (k := 4) hX kX0 (by decide) fk_X0_17 (rf_35_4 hG) dX0_layOutDrawer_182 (sh_35 hG) rfl ?_
      refine jpc (b := 185) rfl ?_
      refine j_iload hX dX0_layOutDrawer_185 rfl ?_
      refine j_bipush hX dX0_layOutDrawer_187 bp_9 ?_
      refine j_imul hX dX0_layOutDrawer_189 ?_
      refine j_iload hX dX0_layOutDrawer_190 rfl ?_
      refine j_iadd hX dX0_layOutDrawer_192 ?_
      refine j_aload_n hX dX0_layOutDrawer_193 rfl ?_
      refine jpc (b := 194) rfl ?_
      refine j_getR (k := 1) hX kX0 (by decide) fk_X0_45 (rf_35_1 hG) dX0_layOutDrawer_194 (sh_35 hG) rfl ?_
      refine j_aload_n hX dX0_layOutDrawer_197 rfl ?_
      refine j_getR (k := 2) hX kX0 (by decide) fk_X0_49 (rf_35_2 hG) dX0_layOutDrawer_198 (sh_35 hG) rfl ?_
      refine j_iload hX dX0_layOutDrawer_201 rfl ?_
      refine j_iload hX dX0_layOutDrawer_203 rfl ?_
      refine j_iload_n hX dX0_layOutDrawer_205 rfl ?_
      refine jpc (b := 206) rfl ?_
      obtain ⟨v23, i24, hh25, hf⟩ := bd2 hf
      refine j_cV4i hX lk_X0_131 kX3 dX0_layOutDrawer_206 (sh_23 hG) (okX3_lossOf hG (sc_19 hG) hh25) rfl rfl (rmm (by omega) hRf hRl (by decide)) (Nat.le_of_ble_eq_true rfl) (Nat.le_add_right _ _) (Nat.le_add_right _ _) ?_
      obtain ⟨hg, hf⟩ := gd hf
      have hf := ltd hf
      refine j_iast hX (sh_37 hG) hg dX0_layOutDrawer_209 ?_
      refine j_iinc hX dX0_layOutDrawer_210 rfl (congrArg (_ + ·) ic_1) (by decide) rfl ?_
      refine j_goto (tgt := 159) hX dX0_layOutDrawer_213 (by decide) ?_
      exact aJx (ih _ _ _ _ _ _ _ _ hG  hf) (And.intro rfl (And.intro rfl (And.intro rfl (And.intro rfl (And.intro rfl (And.intro rfl (And.intro rfl (And.intro rfl (rfl)))))))))
def fX0_layOutDrawer_145 (kh16 : Int32 → Int32 → Int32 → Int32 → Int32 → (Nat → Nat → Int32) → (Nat → Nat → Option Nat) → Option ((Nat → Nat → Int32))) (x1 : Int32) (x2 : Int32) (x3 : Int32) (x4 : Int32) (x5 : Int32) (x6 : Int32) (s1 : Int32) (s2 : Int32) (i : Nat → Nat → Int32) (rv : Nat → Nat → Option Nat) : Option ((Nat → Nat → Int32)) := if aIn s1 9 = true then
    (lt (u2 i 40 (s1 : Int32).toNatClampNeg s2) fun i19 => if aIn x5 9 = true then
    (if (i19 40 (x5 : Int32).toNatClampNeg) = 0 then (fX0_layOutDrawer_219 kh16 x1 x2 x3 x4 x5 i19 rv) else (fX0_layOutDrawer_159 kh16 fuel x1 x2 x3 x4 x5 x6 0 i19 rv)) else none) else none
theorem kX0_layOutDrawer_145  {iR : Nat → Nat → Int32} (hX : aX p s m args c RX0 cX0_layOutDrawer 9 D cA A ad0) (hr : meth.sig.returnType = none) (hlk : meth.locks = false) (hRf : 4 ≤ R.frames) (hRl : 64 * 4 ≤ R.locals) {kh16 : Int32 → Int32 → Int32 → Int32 → Int32 → (Nat → Nat → Int32) → (Nat → Nat → Option Nat) → Option ((Nat → Nat → Int32))} (Hkh16 : ∀ (x1 : Int32) (x2 : Int32) (x3 : Int32) (x4 : Int32) (x5 : Int32) (i : Nat → Nat → Int32), aGood sh rv → kh16 x1 x2 x3 x4 x5 i rv = some (iR) → aJ p l e R s m args below meth c (MQ below (aPost D cA ad0 A (sh, i0, lo0, rv0) none (sh, iR, lo, rv)) args s (sh.length - sh.length) (aSn sh - aSn sh) A) D cA A ad0 9 sh.length (aSn sh) 16 [some (.ref (100 + 35)), some (.int x1), some (.int x2), some (.int x3), some (.int x4), some (.int x5), none, none, none] [] (sh, i, lo, rv)) {x1 : Int32} {x2 : Int32} {x3 : Int32} {x4 : Int32} {x5 : Int32} {x6 : Int32} {s1 : Int32} {s2 : Int32} (hG : aGood sh rv) (hf : fX0_layOutDrawer_145 kh16 x1 x2 x3 x4 x5 x6 s1 s2 i rv = some (iR)) : aJ p l e R s m args below meth c (MQ below (aPost D cA ad0 A (sh, i0, lo0, rv0) none (sh, iR, lo, rv)) args s (sh.length - sh.length) (aSn sh - aSn sh) A) D cA A ad0 9 sh.length (aSn sh) 145 [some (.ref (100 + 35)), some (.int x1), some (.int x2), some (.int x3), some (.int x4), some (.int x5), some (.int x6), none, none] [.int s2, .int s1, .ref (100 + 40)] (sh, i, lo, rv) := by
  unfold fX0_layOutDrawer_145 at hf
  obtain ⟨hg, hf⟩ := gd hf
  have hf := ltd hf
  refine j_iast hX (sh_40 hG) hg dX0_layOutDrawer_145 ?_
  refine j_aload_n hX dX0_layOutDrawer_146 rfl ?_
  refine j_getR (k := 7) hX kX0 (by decide) fk_X0_26 (rf_35_7 hG) dX0_layOutDrawer_147 (sh_35 hG) rfl ?_
  refine j_iload hX dX0_layOutDrawer_150 rfl ?_
  obtain ⟨hg, hf⟩ := gd hf
  refine j_iald hX (sh_40 hG) hg dX0_layOutDrawer_152 ?_
  refine j_if_eq (tgt := 219) hX dX0_layOutDrawer_153 (by decide) (fun hc => ?_) (fun hc => ?_)
  · have hf := ifp hc hf
    exact aJx (kX0_layOutDrawer_219 hX hr hlk hRf hRl Hkh16 hG  hf) (And.intro rfl (And.intro rfl (And.intro rfl (And.intro rfl (And.intro rfl (And.intro rfl (rfl)))))))
  · have hf := ifn hc hf
    refine j_iconst hX dX0_layOutDrawer_156 ic_0 ?_
    refine j_istore hX dX0_layOutDrawer_157 (by decide) rfl ?_
    exact aJx (kX0_layOutDrawer_159 hX hr hlk hRf hRl Hkh16 fuel _ _ _ _ _ _ _ _ hG  hf) (And.intro rfl (And.intro rfl (And.intro rfl (And.intro rfl (And.intro rfl (And.intro rfl (And.intro rfl (And.intro rfl (rfl)))))))))
def fX0_layOutDrawer_114 (kh16 : Int32 → Int32 → Int32 → Int32 → Int32 → (Nat → Nat → Int32) → (Nat → Nat → Option Nat) → Option ((Nat → Nat → Int32))) (x1 : Int32) (x2 : Int32) (x3 : Int32) (x4 : Int32) (x5 : Int32) (x6 : Int32) (i : Nat → Nat → Int32) (rv : Nat → Nat → Option Nat) : Option ((Nat → Nat → Int32)) := bn1 (fX3_wakes 19 x6 x1 i) fun v17 =>
    if v17 = 0 then (fX0_layOutDrawer_145 kh16 x1 x2 x3 x4 x5 x6 x5 0 i rv) else (fX0_layOutDrawer_145 kh16 x1 x2 x3 x4 x5 x6 x5 ((1 : Int32) <<< (x6 &&& 31)) i rv)
theorem kX0_layOutDrawer_114  {iR : Nat → Nat → Int32} (hX : aX p s m args c RX0 cX0_layOutDrawer 9 D cA A ad0) (hr : meth.sig.returnType = none) (hlk : meth.locks = false) (hRf : 4 ≤ R.frames) (hRl : 64 * 4 ≤ R.locals) {kh16 : Int32 → Int32 → Int32 → Int32 → Int32 → (Nat → Nat → Int32) → (Nat → Nat → Option Nat) → Option ((Nat → Nat → Int32))} (Hkh16 : ∀ (x1 : Int32) (x2 : Int32) (x3 : Int32) (x4 : Int32) (x5 : Int32) (i : Nat → Nat → Int32), aGood sh rv → kh16 x1 x2 x3 x4 x5 i rv = some (iR) → aJ p l e R s m args below meth c (MQ below (aPost D cA ad0 A (sh, i0, lo0, rv0) none (sh, iR, lo, rv)) args s (sh.length - sh.length) (aSn sh - aSn sh) A) D cA A ad0 9 sh.length (aSn sh) 16 [some (.ref (100 + 35)), some (.int x1), some (.int x2), some (.int x3), some (.int x4), some (.int x5), none, none, none] [] (sh, i, lo, rv)) {x1 : Int32} {x2 : Int32} {x3 : Int32} {x4 : Int32} {x5 : Int32} {x6 : Int32} (hG : aGood sh rv) (hf : fX0_layOutDrawer_114 kh16 x1 x2 x3 x4 x5 x6 i rv = some (iR)) : aJ p l e R s m args below meth c (MQ below (aPost D cA ad0 A (sh, i0, lo0, rv0) none (sh, iR, lo, rv)) args s (sh.length - sh.length) (aSn sh - aSn sh) A) D cA A ad0 9 sh.length (aSn sh) 114 [some (.ref (100 + 35)), some (.int x1), some (.int x2), some (.int x3), some (.int x4), some (.int x5), some (.int x6), none, none] [] (sh, i, lo, rv) := by
  unfold fX0_layOutDrawer_114 at hf
  refine j_aload_n hX dX0_layOutDrawer_114 rfl ?_
  refine j_getR (k := 7) hX kX0 (by decide) fk_X0_26 (rf_35_7 hG) dX0_layOutDrawer_115 (sh_35 hG) rfl ?_
  refine j_iload hX dX0_layOutDrawer_118 rfl ?_
  refine j_aload_n hX dX0_layOutDrawer_120 rfl ?_
  refine j_getR (k := 1) hX kX0 (by decide) fk_X0_45 (rf_35_1 hG) dX0_layOutDrawer_121 (sh_35 hG) rfl ?_
  refine jpc (b := 124) rfl ?_
  refine j_aload_n hX dX0_layOutDrawer_124 rfl ?_
  refine j_getR (k := 2) hX kX0 (by decide) fk_X0_49 (rf_35_2 hG) dX0_layOutDrawer_125 (sh_35 hG) rfl ?_
  refine j_iload hX dX0_layOutDrawer_128 rfl ?_
  refine j_iload_n hX dX0_layOutDrawer_130 rfl ?_
  obtain ⟨v17, hh18, hf⟩ := bd1 hf
  refine j_cV3i hX lk_X0_124 kX3 dX0_layOutDrawer_131 (sh_23 hG) (okX3_wakes hG (sc_19 hG) hh18) rfl rfl (rmm (by omega) hRf hRl (by decide)) (Nat.le_of_ble_eq_true rfl) (Nat.le_add_right _ _) (Nat.le_add_right _ _) ?_
  refine j_if_eq (tgt := 144) hX dX0_layOutDrawer_134 (by decide) (fun hc => ?_) (fun hc => ?_)
  · have hf := ifp hc hf
    refine j_iconst hX dX0_layOutDrawer_144 ic_0 ?_
    exact aJx (kX0_layOutDrawer_145 hX hr hlk hRf hRl Hkh16 hG  hf) (And.intro rfl (And.intro rfl (And.intro rfl (And.intro rfl (And.intro rfl (And.intro rfl (And.intro rfl (rfl))))))))
  · have hf := ifn hc hf
    refine j_iconst hX dX0_layOutDrawer_137 ic_1 ?_
    refine j_iload hX dX0_layOutDrawer_138 rfl ?_
    refine j_ishl hX dX0_layOutDrawer_140 ?_
    refine j_goto (tgt := 145) hX dX0_layOutDrawer_141 (by decide) ?_
    exact aJx (kX0_layOutDrawer_145 hX hr hlk hRf hRl Hkh16 hG  hf) (And.intro rfl (And.intro rfl (And.intro rfl (And.intro rfl (And.intro rfl (And.intro rfl (And.intro rfl (rfl))))))))
def fX0_layOutDrawer_87 (kh16 : Int32 → Int32 → Int32 → Int32 → Int32 → (Nat → Nat → Int32) → (Nat → Nat → Option Nat) → Option ((Nat → Nat → Int32))) (x1 : Int32) (x2 : Int32) (x3 : Int32) (x4 : Int32) (x5 : Int32) (x6 : Int32) (s1 : Int32) (s3 : Int32) (s4 : Int32) (s5 : Int32) (s6 : Int32) (i : Nat → Nat → Int32) (rv : Nat → Nat → Option Nat) : Option ((Nat → Nat → Int32)) := bn1 (fX3_waitOf s3 s4 s5 s6 i) fun v12 =>
    if aIn s1 9 = true then
    (lt (u2 i 39 (s1 : Int32).toNatClampNeg v12) fun i14 => bn1 (fX3_takesCoffee 19 x6 i14) fun v15 =>
    if v15 = 0 then (fX0_layOutDrawer_114 kh16 x1 x2 x3 x4 x5 x6 i14 rv) else (if x2 ≤ 0 then (fX0_layOutDrawer_114 kh16 x1 x2 x3 x4 x5 x6 i14 rv) else (fX0_layOutDrawer_114 kh16 x1 (x2 + (-1)) x3 x4 x5 x6 i14 rv))) else none
theorem kX0_layOutDrawer_87  {iR : Nat → Nat → Int32} (hX : aX p s m args c RX0 cX0_layOutDrawer 9 D cA A ad0) (hr : meth.sig.returnType = none) (hlk : meth.locks = false) (hRf : 4 ≤ R.frames) (hRl : 64 * 4 ≤ R.locals) {kh16 : Int32 → Int32 → Int32 → Int32 → Int32 → (Nat → Nat → Int32) → (Nat → Nat → Option Nat) → Option ((Nat → Nat → Int32))} (Hkh16 : ∀ (x1 : Int32) (x2 : Int32) (x3 : Int32) (x4 : Int32) (x5 : Int32) (i : Nat → Nat → Int32), aGood sh rv → kh16 x1 x2 x3 x4 x5 i rv = some (iR) → aJ p l e R s m args below meth c (MQ below (aPost D cA ad0 A (sh, i0, lo0, rv0) none (sh, iR, lo, rv)) args s (sh.length - sh.length) (aSn sh - aSn sh) A) D cA A ad0 9 sh.length (aSn sh) 16 [some (.ref (100 + 35)), some (.int x1), some (.int x2), some (.int x3), some (.int x4), some (.int x5), none, none, none] [] (sh, i, lo, rv)) {x1 : Int32} {x2 : Int32} {x3 : Int32} {x4 : Int32} {x5 : Int32} {x6 : Int32} {s1 : Int32} {s3 : Int32} {s4 : Int32} {s5 : Int32} {s6 : Int32} (hG : aGood sh rv) (hf : fX0_layOutDrawer_87 kh16 x1 x2 x3 x4 x5 x6 s1 s3 s4 s5 s6 i rv = some (iR)) : aJ p l e R s m args below meth c (MQ below (aPost D cA ad0 A (sh, i0, lo0, rv0) none (sh, iR, lo, rv)) args s (sh.length - sh.length) (aSn sh - aSn sh) A) D cA A ad0 9 sh.length (aSn sh) 87 [some (.ref (100 + 35)), some (.int x1), some (.int x2), some (.int x3), some (.int x4), some (.int x5), some (.int x6), none, none] [.int s6, .int s5, .int s4, .int s3, .ref (100 + 23), .int s1, .ref (100 + 39)] (sh, i, lo, rv) := by
  unfold fX0_layOutDrawer_87 at hf
  obtain ⟨v12, hh13, hf⟩ := bd1 hf
  refine j_cV4i hX lk_X0_116 kX3 dX0_layOutDrawer_87 (sh_23 hG) (okX3_waitOf hG hh13) rfl rfl (rmm (by omega) hRf hRl (by decide)) (Nat.le_of_ble_eq_true rfl) (Nat.le_add_right _ _) (Nat.le_add_right _ _) ?_
  obtain ⟨hg, hf⟩ := gd hf
  have hf := ltd hf
  refine j_iast hX (sh_39 hG) hg dX0_layOutDrawer_90 ?_
  refine j_aload_n hX dX0_layOutDrawer_91 rfl ?_
  refine j_getR (k := 1) hX kX0 (by decide) fk_X0_45 (rf_35_1 hG) dX0_layOutDrawer_92 (sh_35 hG) rfl ?_
  refine j_aload_n hX dX0_layOutDrawer_95 rfl ?_
  refine j_getR (k := 2) hX kX0 (by decide) fk_X0_49 (rf_35_2 hG) dX0_layOutDrawer_96 (sh_35 hG) rfl ?_
  refine j_iload hX dX0_layOutDrawer_99 rfl ?_
  refine jpc (b := 101) rfl ?_
  obtain ⟨v15, hh16, hf⟩ := bd1 hf
  refine j_cV2i hX lk_X0_120 kX3 dX0_layOutDrawer_101 (sh_23 hG) (okX3_takesCoffee hG (sc_19 hG) hh16) rfl rfl (rmm (by omega) hRf hRl (by decide)) (Nat.le_of_ble_eq_true rfl) (Nat.le_add_right _ _) (Nat.le_add_right _ _) ?_
  refine j_if_eq (tgt := 114) hX dX0_layOutDrawer_104 (by decide) (fun hc => ?_) (fun hc => ?_)
  · have hf := ifp hc hf
    exact aJx (kX0_layOutDrawer_114 hX hr hlk hRf hRl Hkh16 hG  hf) (And.intro rfl (And.intro rfl (And.intro rfl (And.intro rfl (And.intro rfl (And.intro rfl (And.intro rfl (rfl))))))))
  · have hf := ifn hc hf
    refine j_iload_n hX dX0_layOutDrawer_107 rfl ?_
    refine j_if_le (tgt := 114) hX dX0_layOutDrawer_108 (by decide) (fun hc => ?_) (fun hc => ?_)
    · have hf := ifp hc hf
      exact aJx (kX0_layOutDrawer_114 hX hr hlk hRf hRl Hkh16 hG  hf) (And.intro rfl (And.intro rfl (And.intro rfl (And.intro rfl (And.intro rfl (And.intro rfl (And.intro rfl (rfl))))))))
    · have hf := ifn hc hf
      refine j_iinc hX dX0_layOutDrawer_111 rfl (congrArg (_ + ·) ic_m1) (by decide) rfl ?_
      exact aJx (kX0_layOutDrawer_114 hX hr hlk hRf hRl Hkh16 hG  hf) (And.intro rfl (And.intro rfl (And.intro rfl (And.intro rfl (And.intro rfl (And.intro rfl (And.intro rfl (rfl))))))))
def fX0_layOutDrawer_16 : Nat → Int32 → Int32 → Int32 → Int32 → Int32 → (Nat → Nat → Int32) → (Nat → Nat → Option Nat) → Option ((Nat → Nat → Int32))
  | 0, _, _, _, _, _, _, _ => none
  | n + 1, x1, x2, x3, x4, x5, i, rv => bn1 (fX1_papers 15 i) fun v3 =>
    if v3 ≤ x5 then (some (i)) else (bn1 (fX8_inDrawer 19 x5 i) fun v5 =>
    bn1 (fX3_turnAwake v5 x1 i) fun v7 =>
    if aIn x5 9 = true then
    (lt (u2 i 38 (x5 : Int32).toNatClampNeg v7) fun i9 => bn1 (fX8_saidFor 19 v5 i9) fun v10 =>
    if x2 ≤ 0 then (fX0_layOutDrawer_87 (fX0_layOutDrawer_16 n) x1 x2 x3 x4 x5 v5 x5 v5 x1 v10 0 i9 rv) else (fX0_layOutDrawer_87 (fX0_layOutDrawer_16 n) x1 x2 x3 x4 x5 v5 x5 v5 x1 v10 1 i9 rv)) else none)
theorem kX0_layOutDrawer_16  {iR : Nat → Nat → Int32} (hX : aX p s m args c RX0 cX0_layOutDrawer 9 D cA A ad0) (hr : meth.sig.returnType = none) (hlk : meth.locks = false) (hRf : 4 ≤ R.frames) (hRl : 64 * 4 ≤ R.locals) : ∀ (n : Nat) (x1 : Int32) (x2 : Int32) (x3 : Int32) (x4 : Int32) (x5 : Int32) (i : Nat → Nat → Int32), aGood sh rv → fX0_layOutDrawer_16 n x1 x2 x3 x4 x5 i rv = some (iR) → aJ p l e R s m args below meth c (MQ below (aPost D cA ad0 A (sh, i0, lo0, rv0) none (sh, iR, lo, rv)) args s (sh.length - sh.length) (aSn sh - aSn sh) A) D cA A ad0 9 sh.length (aSn sh) 16 [some (.ref (100 + 35)), some (.int x1), some (.int x2), some (.int x3), some (.int x4), some (.int x5), none, none, none] [] (sh, i, lo, rv) := by
  intro n
  induction n with
  | zero => intros; rename_i hf; cases hf
  | succ n ih =>
    intro x1 x2 x3 x4 x5 i hG hf
    rw [fX0_layOutDrawer_16] at hf
    refine j_iload hX dX0_layOutDrawer_16 rfl ?_
    refine j_aload_n hX dX0_layOutDrawer_18 rfl ?_
    refine j_getR (k := 0) hX kX0 (by decide) fk_X0_41 (rf_35_0 hG) dX0_layOutDrawer_19 (sh_35 hG) rfl ?_
    obtain ⟨v3, hh4, hf⟩ := bd1 hf
    refine j_cV0i hX lk_X0_82 kX1 dX0_layOutDrawer_22 (sh_15 hG) (okX1_papers hG (cr_15 hG) hh4) rfl rfl (rmm (by omega) hRf hRl (by decide)) (Nat.le_of_ble_eq_true rfl) (Nat.le_add_right _ _) (Nat.le_add_right _ _) ?_
    refine j_icmp_ge (tgt := 235) hX dX0_layOutDrawer_25 (by decide) (fun hc => ?_) (fun hc => ?_)
    · have hf := ifp hc hf
      cases hf
      exact j_vret hX hr hlk dX0_layOutDrawer_235
    · have hf := ifn hc hf
      refine j_aload_n hX dX0_layOutDrawer_28 rfl ?_
      refine j_getR (k := 2) hX kX0 (by decide) fk_X0_49 (rf_35_2 hG) dX0_layOutDrawer_29 (sh_35 hG) rfl ?_
      refine j_iload hX dX0_layOutDrawer_32 rfl ?_
      obtain ⟨v5, hh6, hf⟩ := bd1 hf
      refine j_cV1i hX lk_X0_85 kX8 dX0_layOutDrawer_34 (sh_19 hG) (okX8_inDrawer hG (sc_19 hG) hh6) rfl rfl (rmm (by omega) hRf hRl (by decide)) (Nat.le_of_ble_eq_true rfl) (Nat.le_add_right _ _) (Nat.le_add_right _ _) ?_
      refine j_istore hX dX0_layOutDrawer_37 (by decide) rfl ?_
      refine jpc (b := 39) rfl ?_
      refine j_aload_n hX dX0_layOutDrawer_39 rfl ?_
      refine j_getR (k := 5) hX kX0 (by decide) fk_X0_20 (rf_35_5 hG) dX0_layOutDrawer_40 (sh_35 hG) rfl ?_
      refine j_iload hX dX0_layOutDrawer_43 rfl ?_
      refine j_aload_n hX dX0_layOutDrawer_45 rfl ?_
      refine j_getR (k := 1) hX kX0 (by decide) fk_X0_45 (rf_35_1 hG) dX0_layOutDrawer_46 (sh_35 hG) rfl ?_
      refine j_iload hX dX0_layOutDrawer_49 rfl ?_
      refine jpc (b := 51) rfl ?_
      refine j_iload_n hX dX0_layOutDrawer_51 rfl ?_
      obtain ⟨v7, hh8, hf⟩ := bd1 hf
      refine j_cV2i hX lk_X0_110 kX3 dX0_layOutDrawer_52 (sh_23 hG) (okX3_turnAwake hG hh8) rfl rfl (rmm (by omega) hRf hRl (by decide)) (Nat.le_of_ble_eq_true rfl) (Nat.le_add_right _ _) (Nat.le_add_right _ _) ?_
      obtain ⟨hg, hf⟩ := gd hf
      have hf := ltd hf
      refine j_iast hX (sh_38 hG) hg dX0_layOutDrawer_55 ?_
      refine j_aload_n hX dX0_layOutDrawer_56 rfl ?_
      refine j_getR (k := 6) hX kX0 (by decide) fk_X0_23 (rf_35_6 hG) dX0_layOutDrawer_57 (sh_35 hG) rfl ?_
      refine j_iload hX dX0_layOutDrawer_60 rfl ?_
      refine j_aload_n hX dX0_layOutDrawer_62 rfl ?_
      refine j_getR (k := 1) hX kX0 (by decide) fk_X0_45 (rf_35_1 hG) dX0_layOutDrawer_63 (sh_35 hG) rfl ?_
      refine jpc (b := 66) rfl ?_
      refine j_iload hX dX0_layOutDrawer_66 rfl ?_
      refine j_iload_n hX dX0_layOutDrawer_68 rfl ?_
      refine j_aload_n hX dX0_layOutDrawer_69 rfl ?_
      refine j_getR (k := 2) hX kX0 (by decide) fk_X0_49 (rf_35_2 hG) dX0_layOutDrawer_70 (sh_35 hG) rfl ?_
      refine j_iload hX dX0_layOutDrawer_73 rfl ?_
      obtain ⟨v10, hh11, hf⟩ := bd1 hf
      refine j_cV1i hX lk_X0_113 kX8 dX0_layOutDrawer_75 (sh_19 hG) (okX8_saidFor hG (sc_19 hG) hh11) rfl rfl (rmm (by omega) hRf hRl (by decide)) (Nat.le_of_ble_eq_true rfl) (Nat.le_add_right _ _) (Nat.le_add_right _ _) ?_
      refine jpc (b := 78) rfl ?_
      refine j_iload_n hX dX0_layOutDrawer_78 rfl ?_
      refine j_if_le (tgt := 86) hX dX0_layOutDrawer_79 (by decide) (fun hc => ?_) (fun hc => ?_)
      · have hf := ifp hc hf
        refine j_iconst hX dX0_layOutDrawer_86 ic_0 ?_
        exact aJx (kX0_layOutDrawer_87 hX hr hlk hRf hRl ih hG  hf) (And.intro rfl (And.intro rfl (And.intro rfl (And.intro rfl (And.intro rfl (And.intro rfl (And.intro rfl (rfl))))))))
      · have hf := ifn hc hf
        refine j_iconst hX dX0_layOutDrawer_82 ic_1 ?_
        refine j_goto (tgt := 87) hX dX0_layOutDrawer_83 (by decide) ?_
        exact aJx (kX0_layOutDrawer_87 hX hr hlk hRf hRl ih hG  hf) (And.intro rfl (And.intro rfl (And.intro rfl (And.intro rfl (And.intro rfl (And.intro rfl (And.intro rfl (rfl))))))))
def fX0_layOutDrawer (a1 : Int32) (i : Nat → Nat → Int32) (rv : Nat → Nat → Option Nat) : Option ((Nat → Nat → Int32)) := bn1 (fX8_coffees 19 i) fun v1 =>
    fX0_layOutDrawer_16 fuel a1 v1 0 0 0 i rv
theorem kX0_layOutDrawer  {iR : Nat → Nat → Int32} (hX : aX p s m args c RX0 cX0_layOutDrawer 9 D cA A ad0) (hr : meth.sig.returnType = none) (hlk : meth.locks = false) (hRf : 4 ≤ R.frames) (hRl : 64 * 4 ≤ R.locals) {a1 : Int32} (hG : aGood sh rv) (hf : fX0_layOutDrawer a1 i rv = some (iR)) : aJ p l e R s m args below meth c (MQ below (aPost D cA ad0 A (sh, i0, lo0, rv0) none (sh, iR, lo, rv)) args s (sh.length - sh.length) (aSn sh - aSn sh) A) D cA A ad0 9 sh.length (aSn sh) 0 [some (.ref (100 + 35)), some (.int a1), none, none, none, none, none, none, none] [] (sh, i, lo, rv) := by
  unfold fX0_layOutDrawer at hf
  refine j_aload_n hX dX0_layOutDrawer_0 rfl ?_
  refine j_getR (k := 2) hX kX0 (by decide) fk_X0_49 (rf_35_2 hG) dX0_layOutDrawer_1 (sh_35 hG) rfl ?_
  obtain ⟨v1, hh2, hf⟩ := bd1 hf
  refine j_cV0i hX lk_X0_107 kX8 dX0_layOutDrawer_4 (sh_19 hG) (okX8_coffees hG (sc_19 hG) hh2) rfl rfl (rmm (by omega) hRf hRl (by decide)) (Nat.le_of_ble_eq_true rfl) (Nat.le_add_right _ _) (Nat.le_add_right _ _) ?_
  refine j_istore_n hX dX0_layOutDrawer_7 (by decide) rfl ?_
  refine j_iconst hX dX0_layOutDrawer_8 ic_0 ?_
  refine jpc (b := 9) rfl ?_
  refine j_istore_n hX dX0_layOutDrawer_9 (by decide) rfl ?_
  refine j_iconst hX dX0_layOutDrawer_10 ic_0 ?_
  refine j_istore hX dX0_layOutDrawer_11 (by decide) rfl ?_
  refine j_iconst hX dX0_layOutDrawer_13 ic_0 ?_
  refine j_istore hX dX0_layOutDrawer_14 (by decide) rfl ?_
  exact aJx (kX0_layOutDrawer_16 hX hr hlk hRf hRl fuel _ _ _ _ _ _ hG  hf) (And.intro rfl (And.intro rfl (And.intro rfl (And.intro rfl (And.intro rfl (And.intro rfl (rfl)))))))
theorem okX0_layOutDrawer {l : Launch} {sh : List aSh} {i : Nat → Nat → Int32} {lo : Nat → Nat → Int64} {rv : Nat → Nat → Option Nat}  {a1 : Int32} {iR : Nat → Nat → Int32} (hG : aGood sh rv) (hf : fX0_layOutDrawer a1 i rv = some (iR)) : aM l yX0_layOutDrawer cX0_layOutDrawer 9 none 4 [.ref (100 + 35), .int a1] (sh, i, lo, rv) none (sh, iR, lo, rv) :=
  aM_of (by decide) (Nat.le_of_ble_eq_true rfl) (Nat.le_refl _) (Nat.le_refl _) (fun p e s m args below meth c D cA A ad0 hX hr hlk hnm => kX0_layOutDrawer hX hr hlk (Nat.le_refl _) (Nat.le_refl _) hG hf)
def fX0_lossWithout_118 (kh32 : Int32 → Int32 → Int32 → Int32 → Int32 → Int32 → Int32 → Int32 → (Nat → Nat → Int32) → Option ((Int32))) (x1 : Int32) (x2 : Int32) (x3 : Int32) (x4 : Int32) (x5 : Int32) (x6 : Int32) (x7 : Int32) (x8 : Int32) (i : Nat → Nat → Int32) : Option ((Int32)) := kh32 x1 x2 x3 x4 x5 x6 x7 (x8 + 1) i
theorem kX0_lossWithout_118  {vR : Int32} (hX : aX p s m args c RX0 cX0_lossWithout 9 D cA A ad0) (hr : meth.sig.returnType = (some .int)) (hlk : meth.locks = false) (hRf : 1 ≤ R.frames) (hRl : 64 * 1 ≤ R.locals) {kh32 : Int32 → Int32 → Int32 → Int32 → Int32 → Int32 → Int32 → Int32 → (Nat → Nat → Int32) → Option ((Int32))} (Hkh32 : ∀ (x1 : Int32) (x2 : Int32) (x3 : Int32) (x4 : Int32) (x5 : Int32) (x6 : Int32) (x7 : Int32) (x8 : Int32), aGood sh rv → kh32 x1 x2 x3 x4 x5 x6 x7 x8 i = some (vR) → aJ p l e R s m args below meth c (MQ below (aPost D cA ad0 A (sh, i0, lo0, rv0) (some (.int vR)) (sh, i, lo, rv)) args s (sh.length - sh.length) (aSn sh - aSn sh) A) D cA A ad0 9 sh.length (aSn sh) 32 [some (.ref (100 + 35)), some (.int x1), some (.int x2), some (.int x3), some (.int x4), some (.int x5), some (.int x6), some (.int x7), some (.int x8)] [] (sh, i, lo, rv)) {x1 : Int32} {x2 : Int32} {x3 : Int32} {x4 : Int32} {x5 : Int32} {x6 : Int32} {x7 : Int32} {x8 : Int32} (hG : aGood sh rv) (hf : fX0_lossWithout_118 kh32 x1 x2 x3 x4 x5 x6 x7 x8 i = some (vR)) : aJ p l e R s m args below meth c (MQ below (aPost D cA ad0 A (sh, i0, lo0, rv0) (some (.int vR)) (sh, i, lo, rv)) args s (sh.length - sh.length) (aSn sh - aSn sh) A) D cA A ad0 9 sh.length (aSn sh) 118 [some (.ref (100 + 35)), some (.int x1), some (.int x2), some (.int x3), some (.int x4), some (.int x5), some (.int x6), some (.int x7), some (.int x8)] [] (sh, i, lo, rv) := by
  unfold fX0_lossWithout_118 at hf
  refine j_iinc hX dX0_lossWithout_118 rfl (congrArg (_ + ·) ic_1) (by decide) rfl ?_
  refine j_goto (tgt := 32) hX dX0_lossWithout_121 (by decide) ?_
  exact aJx (Hkh32 _ _ _ _ _ _ _ _ hG  hf) (And.intro rfl (And.intro rfl (And.intro rfl (And.intro rfl (And.intro rfl (And.intro rfl (And.intro rfl (And.intro rfl (And.intro rfl (rfl))))))))))
def fX0_lossWithout_79 (kh32 : Int32 → Int32 → Int32 → Int32 → Int32 → Int32 → Int32 → Int32 → (Nat → Nat → Int32) → Option ((Int32))) (x1 : Int32) (x2 : Int32) (x3 : Int32) (x4 : Int32) (x5 : Int32) (x6 : Int32) (x7 : Int32) (x8 : Int32) (i : Nat → Nat → Int32) : Option ((Int32)) := if aIn x8 9 = true then
    (lt (x4 + (i 38 (x8 : Int32).toNatClampNeg)) fun t8 =>
    if aIn x8 9 = true then
    (if (t8 + (i 39 (x8 : Int32).toNatClampNeg)) ≤ x5 then (fX0_lossWithout_118 kh32 x1 x2 x3 t8 x5 x6 x7 x8 i) else (if aIn x8 9 = true then
    (lt (t8 + (i 39 (x8 : Int32).toNatClampNeg)) fun t9 =>
    fX0_lossWithout_118 kh32 x1 x2 x3 t8 t9 x6 x7 x8 i) else none)) else none) else none
theorem kX0_lossWithout_79  {vR : Int32} (hX : aX p s m args c RX0 cX0_lossWithout 9 D cA A ad0) (hr : meth.sig.returnType = (some .int)) (hlk : meth.locks = false) (hRf : 1 ≤ R.frames) (hRl : 64 * 1 ≤ R.locals) {kh32 : Int32 → Int32 → Int32 → Int32 → Int32 → Int32 → Int32 → Int32 → (Nat → Nat → Int32) → Option ((Int32))} (Hkh32 : ∀ (x1 : Int32) (x2 : Int32) (x3 : Int32) (x4 : Int32) (x5 : Int32) (x6 : Int32) (x7 : Int32) (x8 : Int32), aGood sh rv → kh32 x1 x2 x3 x4 x5 x6 x7 x8 i = some (vR) → aJ p l e R s m args below meth c (MQ below (aPost D cA ad0 A (sh, i0, lo0, rv0) (some (.int vR)) (sh, i, lo, rv)) args s (sh.length - sh.length) (aSn sh - aSn sh) A) D cA A ad0 9 sh.length (aSn sh) 32 [some (.ref (100 + 35)), some (.int x1), some (.int x2), some (.int x3), some (.int x4), some (.int x5), some (.int x6), some (.int x7), some (.int x8)] [] (sh, i, lo, rv)) {x1 : Int32} {x2 : Int32} {x3 : Int32} {x4 : Int32} {x5 : Int32} {x6 : Int32} {x7 : Int32} {x8 : Int32} (hG : aGood sh rv) (hf : fX0_lossWithout_79 kh32 x1 x2 x3 x4 x5 x6 x7 x8 i = some (vR)) : aJ p l e R s m args below meth c (MQ below (aPost D cA ad0 A (sh, i0, lo0, rv0) (some (.int vR)) (sh, i, lo, rv)) args s (sh.length - sh.length) (aSn sh - aSn sh) A) D cA A ad0 9 sh.length (aSn sh) 79 [some (.ref (100 + 35)), some (.int x1), some (.int x2), some (.int x3), some (.int x4), some (.int x5), some (.int x6), some (.int x7), some (.int x8)] [] (sh, i, lo, rv) := by
  unfold fX0_lossWithout_79 at hf
  refine j_iload hX dX0_lossWithout_79 rfl ?_
  refine j_aload_n hX dX0_lossWithout_81 rfl ?_
  refine j_getR (k := 5) hX kX0 (by decide) fk_X0_20 (rf_35_5 hG) dX0_lossWithout_82 (sh_35 hG) rfl ?_
  refine j_iload hX dX0_lossWithout_85 rfl ?_
  obtain ⟨hg, hf⟩ := gd hf
  refine j_iald hX (sh_38 hG) hg dX0_lossWithout_87 ?_
  refine j_iadd hX dX0_lossWithout_88 ?_
  have hf := ltd hf
  refine j_istore hX dX0_lossWithout_89 (by decide) rfl ?_
  refine j_iload hX dX0_lossWithout_91 rfl ?_
  refine j_aload_n hX dX0_lossWithout_93 rfl ?_
  refine j_getR (k := 6) hX kX0 (by decide) fk_X0_23 (rf_35_6 hG) dX0_lossWithout_94 (sh_35 hG) rfl ?_
  refine jpc (b := 97) rfl ?_
  refine j_iload hX dX0_lossWithout_97 rfl ?_
  obtain ⟨hg, hf⟩ := gd hf
  refine j_iald hX (sh_39 hG) hg dX0_lossWithout_99 ?_
  refine j_iadd hX dX0_lossWithout_100 ?_
  refine j_iload hX dX0_lossWithout_101 rfl ?_
  refine j_icmp_le (tgt := 118) hX dX0_lossWithout_103 (by decide) (fun hc => ?_) (fun hc => ?_)
  · have hf := ifp hc hf
    exact aJx (kX0_lossWithout_118 hX hr hlk hRf hRl Hkh32 hG  hf) (And.intro rfl (And.intro rfl (And.intro rfl (And.intro rfl (And.intro rfl (And.intro rfl (And.intro rfl (And.intro rfl (And.intro rfl (rfl))))))))))
  · have hf := ifn hc hf
    refine j_iload hX dX0_lossWithout_106 rfl ?_
    refine j_aload_n hX dX0_lossWithout_108 rfl ?_
    refine j_getR (k := 6) hX kX0 (by decide) fk_X0_23 (rf_35_6 hG) dX0_lossWithout_109 (sh_35 hG) rfl ?_
    refine j_iload hX dX0_lossWithout_112 rfl ?_
    obtain ⟨hg, hf⟩ := gd hf
    refine j_iald hX (sh_39 hG) hg dX0_lossWithout_114 ?_
    refine j_iadd hX dX0_lossWithout_115 ?_
    have hf := ltd hf
    refine j_istore hX dX0_lossWithout_116 (by decide) rfl ?_
    exact aJx (kX0_lossWithout_118 hX hr hlk hRf hRl Hkh32 hG  hf) (And.intro rfl (And.intro rfl (And.intro rfl (And.intro rfl (And.intro rfl (And.intro rfl (And.intro rfl (And.intro rfl (And.intro rfl (rfl))))))))))
def fX0_lossWithout_32 : Nat → Int32 → Int32 → Int32 → Int32 → Int32 → Int32 → Int32 → Int32 → (Nat → Nat → Int32) → Option ((Int32))
  | 0, _, _, _, _, _, _, _, _, _ => none
  | n + 1, x1, x2, x3, x4, x5, x6, x7, x8, i => if x3 ≤ x8 then (bn1 (fX1_allowedTens 15 i) fun v5 =>
    if x5 ≤ v5 then (some (x7)) else (some ((-1)))) else (if aIn x8 9 = true then
    (if ((i 40 (x8 : Int32).toNatClampNeg) &&& (x1 ^^^ ((-1) : Int32))) = 0 then (fX0_lossWithout_79 (fX0_lossWithout_32 n) x1 x2 x3 x4 x5 x6 x7 x8 i) else (if aIn ((x8 * (9 : Int32)) + x6) 81 = true then
    (lt (x7 + (i 37 (((x8 * (9 : Int32)) + x6) : Int32).toNatClampNeg)) fun t7 =>
    fX0_lossWithout_79 (fX0_lossWithout_32 n) x1 x2 x3 (x4 + x2) x5 (x6 + 1) t7 x8 i) else none)) else none)
theorem kX0_lossWithout_32  {vR : Int32} (hX : aX p s m args c RX0 cX0_lossWithout 9 D cA A ad0) (hr : meth.sig.returnType = (some .int)) (hlk : meth.locks = false) (hRf : 1 ≤ R.frames) (hRl : 64 * 1 ≤ R.locals) : ∀ (n : Nat) (x1 : Int32) (x2 : Int32) (x3 : Int32) (x4 : Int32) (x5 : Int32) (x6 : Int32) (x7 : Int32) (x8 : Int32), aGood sh rv → fX0_lossWithout_32 n x1 x2 x3 x4 x5 x6 x7 x8 i = some (vR) → aJ p l e R s m args below meth c (MQ below (aPost D cA ad0 A (sh, i0, lo0, rv0) (some (.int vR)) (sh, i, lo, rv)) args s (sh.length - sh.length) (aSn sh - aSn sh) A) D cA A ad0 9 sh.length (aSn sh) 32 [some (.ref (100 + 35)), some (.int x1), some (.int x2), some (.int x3), some (.int x4), some (.int x5), some (.int x6), some (.int x7), some (.int x8)] [] (sh, i, lo, rv) := by
  intro n
  induction n with
  | zero => intros; rename_i hf; cases hf
  | succ n ih =>
    intro x1 x2 x3 x4 x5 x6 x7 x8 hG hf
    rw [fX0_lossWithout_32] at hf
    refine j_iload hX dX0_lossWithout_32 rfl ?_
    refine j_iload_n hX dX0_lossWithout_34 rfl ?_
    refine j_icmp_ge (tgt := 124) hX dX0_lossWithout_35 (by decide) (fun hc => ?_) (fun hc => ?_)
    · have hf := ifp hc hf
      refine j_iload hX dX0_lossWithout_124 rfl ?_
      refine j_aload_n hX dX0_lossWithout_126 rfl ?_
      refine j_getR (k := 0) hX kX0 (by decide) fk_X0_41 (rf_35_0 hG) dX0_lossWithout_127 (sh_35 hG) rfl ?_
      obtain ⟨v5, hh6, hf⟩ := bd1 hf
      refine j_cV0i hX lk_X0_138 kX1 dX0_lossWithout_130 (sh_15 hG) (okX1_allowedTens hG (cr_15 hG) hh6) rfl rfl (rmm (by omega) hRf hRl (by decide)) (Nat.le_of_ble_eq_true rfl) (Nat.le_add_right _ _) (Nat.le_add_right _ _) ?_
      refine j_icmp_le (tgt := 140) hX dX0_lossWithout_133 (by decide) (fun hc => ?_) (fun hc => ?_)
      · have hf := ifp hc hf
        refine j_iload hX dX0_lossWithout_140 rfl ?_
        cases hf
        exact j_ret hX hr hlk rfl dX0_lossWithout_142
      · have hf := ifn hc hf
        refine j_iconst hX dX0_lossWithout_136 ic_m1 ?_
        refine j_goto (tgt := 142) hX dX0_lossWithout_137 (by decide) ?_
        cases hf
        exact j_ret hX hr hlk rfl dX0_lossWithout_142
    · have hf := ifn hc hf
      refine j_aload_n hX dX0_lossWithout_38 rfl ?_
      refine j_getR (k := 7) hX kX0 (by decide) fk_X0_26 (rf_35_7 hG) dX0_lossWithout_39 (sh_35 hG) rfl ?_
      refine j_iload hX dX0_lossWithout_42 rfl ?_
      obtain ⟨hg, hf⟩ := gd hf
      refine j_iald hX (sh_40 hG) hg dX0_lossWithout_44 ?_
      refine j_iload_n hX dX0_lossWithout_45 rfl ?_
      refine j_iconst hX dX0_lossWithout_46 ic_m1 ?_
      refine j_ixor hX dX0_lossWithout_47 ?_
      refine j_iand hX dX0_lossWithout_48 ?_
      refine j_if_eq (tgt := 79) hX dX0_lossWithout_49 (by decide) (fun hc => ?_) (fun hc => ?_)
      · have hf := ifp hc hf
        exact aJx (kX0_lossWithout_79 hX hr hlk hRf hRl ih hG  hf) (And.intro rfl (And.intro rfl (And.intro rfl (And.intro rfl (And.intro rfl (And.intro rfl (And.intro rfl (And.intro rfl (And.intro rfl (rfl))))))))))
      · have hf := ifn hc hf
        refine j_iload hX dX0_lossWithout_52 rfl ?_
        refine j_aload_n hX dX0_lossWithout_54 rfl ?_
        refine j_getR (k := 4) hX kX0 (by decide) fk_X0_17 (rf_35_4 hG) dX0_lossWithout_55 (sh_35 hG) rfl ?_
        refine j_iload hX dX0_lossWithout_58 rfl ?_
        refine j_bipush hX dX0_lossWithout_60 bp_9 ?_
        refine jpc (b := 62) rfl ?_
        refine j_imul hX dX0_lossWithout_62 ?_
        refine j_iload hX dX0_lossWithout_63 rfl ?_
        refine j_iadd hX dX0_lossWithout_65 ?_
        obtain ⟨hg, hf⟩ := gd hf
        refine j_iald hX (sh_37 hG) hg dX0_lossWithout_66 ?_
        refine j_iadd hX dX0_lossWithout_67 ?_
        have hf := ltd hf
        refine j_istore hX dX0_lossWithout_68 (by decide) rfl ?_
        refine j_iinc hX dX0_lossWithout_70 rfl (congrArg (_ + ·) ic_1) (by decide) rfl ?_
        refine j_iload hX dX0_lossWithout_73 rfl ?_
        refine j_iload_n hX dX0_lossWithout_75 rfl ?_
        refine jpc (b := 76) rfl ?_
        refine j_iadd hX dX0_lossWithout_76 ?_
        refine j_istore hX dX0_lossWithout_77 (by decide) rfl ?_
        exact aJx (kX0_lossWithout_79 hX hr hlk hRf hRl ih hG  hf) (And.intro rfl (And.intro rfl (And.intro rfl (And.intro rfl (And.intro rfl (And.intro rfl (And.intro rfl (And.intro rfl (And.intro rfl (rfl))))))))))
def fX0_lossWithout (a1 : Int32) (i : Nat → Nat → Int32) : Option ((Int32)) := bn1 (fX1_ruleOf 15 3 i) fun v1 =>
    bn1 (fX1_papers 15 i) fun v3 =>
    fX0_lossWithout_32 fuel a1 v1 v3 0 0 0 0 0 i
theorem kX0_lossWithout  {vR : Int32} (hX : aX p s m args c RX0 cX0_lossWithout 9 D cA A ad0) (hr : meth.sig.returnType = (some .int)) (hlk : meth.locks = false) (hRf : 1 ≤ R.frames) (hRl : 64 * 1 ≤ R.locals) {a1 : Int32} (hG : aGood sh rv) (hf : fX0_lossWithout a1 i = some (vR)) : aJ p l e R s m args below meth c (MQ below (aPost D cA ad0 A (sh, i0, lo0, rv0) (some (.int vR)) (sh, i, lo, rv)) args s (sh.length - sh.length) (aSn sh - aSn sh) A) D cA A ad0 9 sh.length (aSn sh) 0 [some (.ref (100 + 35)), some (.int a1), none, none, none, none, none, none, none] [] (sh, i, lo, rv) := by
  unfold fX0_lossWithout at hf
  refine j_aload_n hX dX0_lossWithout_0 rfl ?_
  refine j_getR (k := 0) hX kX0 (by decide) fk_X0_41 (rf_35_0 hG) dX0_lossWithout_1 (sh_35 hG) rfl ?_
  refine j_iconst hX dX0_lossWithout_4 ic_3 ?_
  obtain ⟨v1, hh2, hf⟩ := bd1 hf
  refine j_cV1i hX lk_X0_128 kX1 dX0_lossWithout_5 (sh_15 hG) (okX1_ruleOf hG (cr_15 hG) hh2) rfl rfl (rmm (by omega) hRf hRl (by decide)) (Nat.le_of_ble_eq_true rfl) (Nat.le_add_right _ _) (Nat.le_add_right _ _) ?_
  refine j_istore_n hX dX0_lossWithout_8 (by decide) rfl ?_
  refine jpc (b := 9) rfl ?_
  refine j_aload_n hX dX0_lossWithout_9 rfl ?_
  refine j_getR (k := 0) hX kX0 (by decide) fk_X0_41 (rf_35_0 hG) dX0_lossWithout_10 (sh_35 hG) rfl ?_
  obtain ⟨v3, hh4, hf⟩ := bd1 hf
  refine j_cV0i hX lk_X0_82 kX1 dX0_lossWithout_13 (sh_15 hG) (okX1_papers hG (cr_15 hG) hh4) rfl rfl (rmm (by omega) hRf hRl (by decide)) (Nat.le_of_ble_eq_true rfl) (Nat.le_add_right _ _) (Nat.le_add_right _ _) ?_
  refine j_istore_n hX dX0_lossWithout_16 (by decide) rfl ?_
  refine j_iconst hX dX0_lossWithout_17 ic_0 ?_
  refine j_istore hX dX0_lossWithout_18 (by decide) rfl ?_
  refine jpc (b := 20) rfl ?_
  refine j_iconst hX dX0_lossWithout_20 ic_0 ?_
  refine j_istore hX dX0_lossWithout_21 (by decide) rfl ?_
  refine j_iconst hX dX0_lossWithout_23 ic_0 ?_
  refine j_istore hX dX0_lossWithout_24 (by decide) rfl ?_
  refine j_iconst hX dX0_lossWithout_26 ic_0 ?_
  refine j_istore hX dX0_lossWithout_27 (by decide) rfl ?_
  refine jpc (b := 29) rfl ?_
  refine j_iconst hX dX0_lossWithout_29 ic_0 ?_
  refine j_istore hX dX0_lossWithout_30 (by decide) rfl ?_
  exact aJx (kX0_lossWithout_32 hX hr hlk hRf hRl fuel _ _ _ _ _ _ _ _ hG  hf) (And.intro rfl (And.intro rfl (And.intro rfl (And.intro rfl (And.intro rfl (And.intro rfl (And.intro rfl (And.intro rfl (And.intro rfl (rfl))))))))))
theorem okX0_lossWithout {l : Launch} {sh : List aSh} {i : Nat → Nat → Int32} {lo : Nat → Nat → Int64} {rv : Nat → Nat → Option Nat}  {a1 : Int32} {vR : Int32} (hG : aGood sh rv) (hf : fX0_lossWithout a1 i = some (vR)) : aM l yX0_lossWithout cX0_lossWithout 9 (some .int) 1 [.ref (100 + 35), .int a1] (sh, i, lo, rv) (some (.int vR)) (sh, i, lo, rv) :=
  aM_of (by decide) (Nat.le_of_ble_eq_true rfl) (Nat.le_refl _) (Nat.le_refl _) (fun p e s m args below meth c D cA A ad0 hX hr hlk hnm => kX0_lossWithout hX hr hlk (Nat.le_refl _) (Nat.le_refl _) hG hf)
def fX0_addBorders_76 (kh13 : Int32 → Int32 → Int32 → (Nat → Nat → Int32) → Option ((Nat → Nat → Int32))) (x1 : Int32) (x3 : Int32) (x4 : Int32) (i : Nat → Nat → Int32) : Option ((Nat → Nat → Int32)) := kh13 x1 x3 (x4 + 1) i
theorem kX0_addBorders_76  {iR : Nat → Nat → Int32} (hX : aX p s m args c RX0 cX0_addBorders 6 D cA A ad0) (hr : meth.sig.returnType = none) (hlk : meth.locks = false) (hRf : 2 ≤ R.frames) (hRl : 64 * 2 ≤ R.locals) {kh13 : Int32 → Int32 → Int32 → (Nat → Nat → Int32) → Option ((Nat → Nat → Int32))} (Hkh13 : ∀ (x1 : Int32) (x3 : Int32) (x4 : Int32) (i : Nat → Nat → Int32), aGood sh rv → kh13 x1 x3 x4 i = some (iR) → aJ p l e R s m args below meth c (MQ below (aPost D cA ad0 A (sh, i0, lo0, rv0) none (sh, iR, lo, rv)) args s (sh.length - sh.length) (aSn sh - aSn sh) A) D cA A ad0 6 sh.length (aSn sh) 13 [some (.ref (100 + 35)), some (.int x1), none, some (.int x3), some (.int x4), none] [] (sh, i, lo, rv)) {x1 : Int32} {x3 : Int32} {x4 : Int32} (hG : aGood sh rv) (hf : fX0_addBorders_76 kh13 x1 x3 x4 i = some (iR)) : aJ p l e R s m args below meth c (MQ below (aPost D cA ad0 A (sh, i0, lo0, rv0) none (sh, iR, lo, rv)) args s (sh.length - sh.length) (aSn sh - aSn sh) A) D cA A ad0 6 sh.length (aSn sh) 76 [some (.ref (100 + 35)), some (.int x1), none, some (.int x3), some (.int x4), none] [] (sh, i, lo, rv) := by
  unfold fX0_addBorders_76 at hf
  refine j_iinc hX dX0_addBorders_76 rfl (congrArg (_ + ·) ic_1) (by decide) rfl ?_
  refine j_goto (tgt := 13) hX dX0_addBorders_79 (by decide) ?_
  exact aJx (Hkh13 _ _ _ _ hG  hf) (And.intro rfl (And.intro rfl (And.intro rfl (And.intro rfl (rfl)))))
def fX0_addBorders_75 (kh13 : Int32 → Int32 → Int32 → (Nat → Nat → Int32) → Option ((Nat → Nat → Int32))) (x1 : Int32) (x3 : Int32) (x4 : Int32) (s1 : Int32) (s2 : Int32) (i : Nat → Nat → Int32) : Option ((Nat → Nat → Int32)) := if aIn s1 512 = true then
    (lt (u2 i 36 (s1 : Int32).toNatClampNeg s2) fun i5 => fX0_addBorders_76 kh13 x1 x3 x4 i5) else none
theorem kX0_addBorders_75  {iR : Nat → Nat → Int32} (hX : aX p s m args c RX0 cX0_addBorders 6 D cA A ad0) (hr : meth.sig.returnType = none) (hlk : meth.locks = false) (hRf : 2 ≤ R.frames) (hRl : 64 * 2 ≤ R.locals) {kh13 : Int32 → Int32 → Int32 → (Nat → Nat → Int32) → Option ((Nat → Nat → Int32))} (Hkh13 : ∀ (x1 : Int32) (x3 : Int32) (x4 : Int32) (i : Nat → Nat → Int32), aGood sh rv → kh13 x1 x3 x4 i = some (iR) → aJ p l e R s m args below meth c (MQ below (aPost D cA ad0 A (sh, i0, lo0, rv0) none (sh, iR, lo, rv)) args s (sh.length - sh.length) (aSn sh - aSn sh) A) D cA A ad0 6 sh.length (aSn sh) 13 [some (.ref (100 + 35)), some (.int x1), none, some (.int x3), some (.int x4), none] [] (sh, i, lo, rv)) {x1 : Int32} {x3 : Int32} {x4 : Int32} {s1 : Int32} {s2 : Int32} (hG : aGood sh rv) (hf : fX0_addBorders_75 kh13 x1 x3 x4 s1 s2 i = some (iR)) : aJ p l e R s m args below meth c (MQ below (aPost D cA ad0 A (sh, i0, lo0, rv0) none (sh, iR, lo, rv)) args s (sh.length - sh.length) (aSn sh - aSn sh) A) D cA A ad0 6 sh.length (aSn sh) 75 [some (.ref (100 + 35)), some (.int x1), none, some (.int x3), some (.int x4), none] [.int s2, .int s1, .ref (100 + 36)] (sh, i, lo, rv) := by
  unfold fX0_addBorders_75 at hf
  obtain ⟨hg, hf⟩ := gd hf
  have hf := ltd hf
  refine j_iast hX (sh_36 hG) hg dX0_addBorders_75 ?_
  exact aJx (kX0_addBorders_76 hX hr hlk hRf hRl Hkh13 hG  hf) (And.intro rfl (And.intro rfl (And.intro rfl (And.intro rfl (rfl)))))
def fX0_addBorders_13 : Nat → Int32 → Int32 → Int32 → (Nat → Nat → Int32) → Option ((Nat → Nat → Int32))
  | 0, _, _, _, _ => none
  | n + 1, x1, x3, x4, i => if x1 < x4 then (some (i)) else (if (x4 &&& (x1 ^^^ ((-1) : Int32))) = 0 then (if aIn x4 512 = true then
    (if (i 36 (x4 : Int32).toNatClampNeg) = (-1) then (fX0_addBorders_76 (fX0_addBorders_13 n) x1 x3 x4 i) else (bn1 (fX0_lossWithout x4 i) fun v3 =>
    if v3 = (-1) then (fX0_addBorders_75 (fX0_addBorders_13 n) x1 x3 x4 x4 (-1) i) else (if aIn x4 512 = true then
    (fX0_addBorders_75 (fX0_addBorders_13 n) x1 x3 x4 x4 ((i 36 (x4 : Int32).toNatClampNeg) + (x3 * v3)) i) else none))) else none) else (fX0_addBorders_76 (fX0_addBorders_13 n) x1 x3 x4 i))
theorem kX0_addBorders_13  {iR : Nat → Nat → Int32} (hX : aX p s m args c RX0 cX0_addBorders 6 D cA A ad0) (hr : meth.sig.returnType = none) (hlk : meth.locks = false) (hRf : 2 ≤ R.frames) (hRl : 64 * 2 ≤ R.locals) : ∀ (n : Nat) (x1 : Int32) (x3 : Int32) (x4 : Int32) (i : Nat → Nat → Int32), aGood sh rv → fX0_addBorders_13 n x1 x3 x4 i = some (iR) → aJ p l e R s m args below meth c (MQ below (aPost D cA ad0 A (sh, i0, lo0, rv0) none (sh, iR, lo, rv)) args s (sh.length - sh.length) (aSn sh - aSn sh) A) D cA A ad0 6 sh.length (aSn sh) 13 [some (.ref (100 + 35)), some (.int x1), none, some (.int x3), some (.int x4), none] [] (sh, i, lo, rv) := by
  intro n
  induction n with
  | zero => intros; rename_i hf; cases hf
  | succ n ih =>
    intro x1 x3 x4 i hG hf
    rw [fX0_addBorders_13] at hf
    refine j_iload hX dX0_addBorders_13 rfl ?_
    refine j_iload_n hX dX0_addBorders_15 rfl ?_
    refine j_icmp_gt (tgt := 82) hX dX0_addBorders_16 (by decide) (fun hc => ?_) (fun hc => ?_)
    · have hf := ifp hc hf
      cases hf
      exact j_vret hX hr hlk dX0_addBorders_82
    · have hf := ifn hc hf
      refine j_iload hX dX0_addBorders_19 rfl ?_
      refine j_iload_n hX dX0_addBorders_21 rfl ?_
      refine j_iconst hX dX0_addBorders_22 ic_m1 ?_
      refine j_ixor hX dX0_addBorders_23 ?_
      refine j_iand hX dX0_addBorders_24 ?_
      refine jpc (b := 25) rfl ?_
      refine j_if_ne (tgt := 76) hX dX0_addBorders_25 (by decide) (fun hc => ?_) (fun hc => ?_)
      · have hf := ifn hc hf
        exact aJx (kX0_addBorders_76 hX hr hlk hRf hRl ih hG  hf) (And.intro rfl (And.intro rfl (And.intro rfl (And.intro rfl (rfl)))))
      · have hf := ifp hc hf
        refine j_aload_n hX dX0_addBorders_28 rfl ?_
        refine j_getR (k := 3) hX kX0 (by decide) fk_X0_13 (rf_35_3 hG) dX0_addBorders_29 (sh_35 hG) rfl ?_
        refine j_iload hX dX0_addBorders_32 rfl ?_
        obtain ⟨hg, hf⟩ := gd hf
        refine j_iald hX (sh_36 hG) hg dX0_addBorders_34 ?_
        refine j_iconst hX dX0_addBorders_35 ic_m1 ?_
        refine j_icmp_eq (tgt := 76) hX dX0_addBorders_36 (by decide) (fun hc => ?_) (fun hc => ?_)
        · have hf := ifp hc hf
          exact aJx (kX0_addBorders_76 hX hr hlk hRf hRl ih hG  hf) (And.intro rfl (And.intro rfl (And.intro rfl (And.intro rfl (rfl)))))
        · have hf := ifn hc hf
          refine j_aload_n hX dX0_addBorders_39 rfl ?_
          refine j_iload hX dX0_addBorders_40 rfl ?_
          obtain ⟨v3, hh4, hf⟩ := bd1 hf
          refine j_cV1i hX lk_X0_135 kX0 dX0_addBorders_42 (sh_35 hG) (okX0_lossWithout hG hh4) rfl rfl (rmm (by omega) hRf hRl (by decide)) (Nat.le_of_ble_eq_true rfl) (Nat.le_add_right _ _) (Nat.le_add_right _ _) ?_
          refine j_istore hX dX0_addBorders_45 (by decide) rfl ?_
          refine j_aload_n hX dX0_addBorders_47 rfl ?_
          refine jpc (b := 48) rfl ?_
          refine j_getR (k := 3) hX kX0 (by decide) fk_X0_13 (rf_35_3 hG) dX0_addBorders_48 (sh_35 hG) rfl ?_
          refine j_iload hX dX0_addBorders_51 rfl ?_
          refine j_iload hX dX0_addBorders_53 rfl ?_
          refine j_iconst hX dX0_addBorders_55 ic_m1 ?_
          refine j_icmp_ne (tgt := 63) hX dX0_addBorders_56 (by decide) (fun hc => ?_) (fun hc => ?_)
          · have hf := ifn hc hf
            refine j_aload_n hX dX0_addBorders_63 rfl ?_
            refine j_getR (k := 3) hX kX0 (by decide) fk_X0_13 (rf_35_3 hG) dX0_addBorders_64 (sh_35 hG) rfl ?_
            refine j_iload hX dX0_addBorders_67 rfl ?_
            obtain ⟨hg, hf⟩ := gd hf
            refine j_iald hX (sh_36 hG) hg dX0_addBorders_69 ?_
            refine j_iload_n hX dX0_addBorders_70 rfl ?_
            refine j_iload hX dX0_addBorders_71 rfl ?_
            refine j_imul hX dX0_addBorders_73 ?_
            refine j_iadd hX dX0_addBorders_74 ?_
            exact aJx (kX0_addBorders_75 hX hr hlk hRf hRl ih hG  hf) (And.intro rfl (And.intro rfl (And.intro rfl (And.intro rfl (rfl)))))
          · have hf := ifp hc hf
            refine j_iconst hX dX0_addBorders_59 ic_m1 ?_
            refine j_goto (tgt := 75) hX dX0_addBorders_60 (by decide) ?_
            exact aJx (kX0_addBorders_75 hX hr hlk hRf hRl ih hG  hf) (And.intro rfl (And.intro rfl (And.intro rfl (And.intro rfl (rfl)))))
def fX0_addBorders (a1 : Int32) (a2 : Int32) (i : Nat → Nat → Int32) : Option ((Nat → Nat → Int32)) := bn1 (fX1_ofOfficer 15 a2 0 i) fun v1 =>
    fX0_addBorders_13 fuel a1 v1 0 i
theorem kX0_addBorders  {iR : Nat → Nat → Int32} (hX : aX p s m args c RX0 cX0_addBorders 6 D cA A ad0) (hr : meth.sig.returnType = none) (hlk : meth.locks = false) (hRf : 2 ≤ R.frames) (hRl : 64 * 2 ≤ R.locals) {a1 : Int32} {a2 : Int32} (hG : aGood sh rv) (hf : fX0_addBorders a1 a2 i = some (iR)) : aJ p l e R s m args below meth c (MQ below (aPost D cA ad0 A (sh, i0, lo0, rv0) none (sh, iR, lo, rv)) args s (sh.length - sh.length) (aSn sh - aSn sh) A) D cA A ad0 6 sh.length (aSn sh) 0 [some (.ref (100 + 35)), some (.int a1), some (.int a2), none, none, none] [] (sh, i, lo, rv) := by
  unfold fX0_addBorders at hf
  refine j_aload_n hX dX0_addBorders_0 rfl ?_
  refine j_getR (k := 0) hX kX0 (by decide) fk_X0_41 (rf_35_0 hG) dX0_addBorders_1 (sh_35 hG) rfl ?_
  refine j_iload_n hX dX0_addBorders_4 rfl ?_
  refine j_iconst hX dX0_addBorders_5 ic_0 ?_
  obtain ⟨v1, hh2, hf⟩ := bd1 hf
  refine j_cV2i hX lk_X0_71 kX1 dX0_addBorders_6 (sh_15 hG) (okX1_ofOfficer hG (cr_15 hG) hh2) rfl rfl (rmm (by omega) hRf hRl (by decide)) (Nat.le_of_ble_eq_true rfl) (Nat.le_add_right _ _) (Nat.le_add_right _ _) ?_
  refine jpc (b := 9) rfl ?_
  refine j_istore_n hX dX0_addBorders_9 (by decide) rfl ?_
  refine j_iconst hX dX0_addBorders_10 ic_0 ?_
  refine j_istore hX dX0_addBorders_11 (by decide) rfl ?_
  exact aJx (kX0_addBorders_13 hX hr hlk hRf hRl fuel _ _ _ _ hG  hf) (And.intro rfl (And.intro rfl (And.intro rfl (And.intro rfl (rfl)))))
theorem okX0_addBorders {l : Launch} {sh : List aSh} {i : Nat → Nat → Int32} {lo : Nat → Nat → Int64} {rv : Nat → Nat → Option Nat}  {a1 : Int32} {a2 : Int32} {iR : Nat → Nat → Int32} (hG : aGood sh rv) (hf : fX0_addBorders a1 a2 i = some (iR)) : aM l yX0_addBorders cX0_addBorders 6 none 2 [.ref (100 + 35), .int a1, .int a2] (sh, i, lo, rv) none (sh, iR, lo, rv) :=
  aM_of (by decide) (Nat.le_of_ble_eq_true rfl) (Nat.le_refl _) (Nat.le_refl _) (fun p e s m args below meth c D cA A ad0 hX hr hlk hnm => kX0_addBorders hX hr hlk (Nat.le_refl _) (Nat.le_refl _) hG hf)
def fX0_findWhomToWake_46 (kh12 : Int32 → Int32 → (Nat → Nat → Int32) → (Nat → Nat → Option Nat) → Option ((Int32) × (Nat → Nat → Int32))) (x1 : Int32) (x2 : Int32) (i : Nat → Nat → Int32) (rv : Nat → Nat → Option Nat) : Option ((Int32) × (Nat → Nat → Int32)) := kh12 x1 (x2 + 1) i rv
theorem kX0_findWhomToWake_46  {vR : Int32} {iR : Nat → Nat → Int32} (hX : aX p s m args c RX0 cX0_findWhomToWake 4 D cA A ad0) (hr : meth.sig.returnType = (some .boolean)) (hlk : meth.locks = false) (hRf : 6 ≤ R.frames) (hRl : 64 * 6 ≤ R.locals) {kh12 : Int32 → Int32 → (Nat → Nat → Int32) → (Nat → Nat → Option Nat) → Option ((Int32) × (Nat → Nat → Int32))} (Hkh12 : ∀ (x1 : Int32) (x2 : Int32) (i : Nat → Nat → Int32), aGood sh rv → kh12 x1 x2 i rv = some (vR, iR) → aJ p l e R s m args below meth c (MQ below (aPost D cA ad0 A (sh, i0, lo0, rv0) (some (.int vR)) (sh, iR, lo, rv)) args s (sh.length - sh.length) (aSn sh - aSn sh) A) D cA A ad0 4 sh.length (aSn sh) 12 [some (.ref (100 + 35)), some (.int x1), some (.int x2), none] [] (sh, i, lo, rv)) {x1 : Int32} {x2 : Int32} (hG : aGood sh rv) (hf : fX0_findWhomToWake_46 kh12 x1 x2 i rv = some (vR, iR)) : aJ p l e R s m args below meth c (MQ below (aPost D cA ad0 A (sh, i0, lo0, rv0) (some (.int vR)) (sh, iR, lo, rv)) args s (sh.length - sh.length) (aSn sh - aSn sh) A) D cA A ad0 4 sh.length (aSn sh) 46 [some (.ref (100 + 35)), some (.int x1), some (.int x2), none] [] (sh, i, lo, rv) := by
  unfold fX0_findWhomToWake_46 at hf
  refine j_iinc hX dX0_findWhomToWake_46 rfl (congrArg (_ + ·) ic_1) (by decide) rfl ?_
  refine j_goto (tgt := 12) hX dX0_findWhomToWake_49 (by decide) ?_
  exact aJx (Hkh12 _ _ _ hG  hf) (And.intro rfl (And.intro rfl (And.intro rfl (rfl))))
def fX0_findWhomToWake_128 (kh59 : Int32 → Int32 → (Nat → Nat → Int32) → (Nat → Nat → Option Nat) → Option ((Int32) × (Nat → Nat → Int32))) (x1 : Int32) (x2 : Int32) (i : Nat → Nat → Int32) (rv : Nat → Nat → Option Nat) : Option ((Int32) × (Nat → Nat → Int32)) := kh59 x1 (x2 + 1) i rv
theorem kX0_findWhomToWake_128  {vR : Int32} {iR : Nat → Nat → Int32} (hX : aX p s m args c RX0 cX0_findWhomToWake 4 D cA A ad0) (hr : meth.sig.returnType = (some .boolean)) (hlk : meth.locks = false) (hRf : 6 ≤ R.frames) (hRl : 64 * 6 ≤ R.locals) {kh59 : Int32 → Int32 → (Nat → Nat → Int32) → (Nat → Nat → Option Nat) → Option ((Int32) × (Nat → Nat → Int32))} (Hkh59 : ∀ (x1 : Int32) (x2 : Int32) (i : Nat → Nat → Int32), aGood sh rv → kh59 x1 x2 i rv = some (vR, iR) → aJ p l e R s m args below meth c (MQ below (aPost D cA ad0 A (sh, i0, lo0, rv0) (some (.int vR)) (sh, iR, lo, rv)) args s (sh.length - sh.length) (aSn sh - aSn sh) A) D cA A ad0 4 sh.length (aSn sh) 59 [some (.ref (100 + 35)), some (.int x1), some (.int x2), none] [] (sh, i, lo, rv)) {x1 : Int32} {x2 : Int32} (hG : aGood sh rv) (hf : fX0_findWhomToWake_128 kh59 x1 x2 i rv = some (vR, iR)) : aJ p l e R s m args below meth c (MQ below (aPost D cA ad0 A (sh, i0, lo0, rv0) (some (.int vR)) (sh, iR, lo, rv)) args s (sh.length - sh.length) (aSn sh - aSn sh) A) D cA A ad0 4 sh.length (aSn sh) 128 [some (.ref (100 + 35)), some (.int x1), some (.int x2), none] [] (sh, i, lo, rv) := by
  unfold fX0_findWhomToWake_128 at hf
  refine j_iinc hX dX0_findWhomToWake_128 rfl (congrArg (_ + ·) ic_1) (by decide) rfl ?_
  refine j_goto (tgt := 59) hX dX0_findWhomToWake_131 (by decide) ?_
  exact aJx (Hkh59 _ _ _ hG  hf) (And.intro rfl (And.intro rfl (And.intro rfl (rfl))))
def fX0_findWhomToWake_113 (kh59 : Int32 → Int32 → (Nat → Nat → Int32) → (Nat → Nat → Option Nat) → Option ((Int32) × (Nat → Nat → Int32))) (x1 : Int32) (x2 : Int32) (i : Nat → Nat → Int32) (rv : Nat → Nat → Option Nat) : Option ((Int32) × (Nat → Nat → Int32)) := lt (u2 i 35 13 x2) fun i14 =>
    if aIn x2 512 = true then
    (lt (u2 i14 35 14 (i14 36 (x2 : Int32).toNatClampNeg)) fun i15 =>
    fX0_findWhomToWake_128 kh59 x1 x2 i15 rv) else none
theorem kX0_findWhomToWake_113  {vR : Int32} {iR : Nat → Nat → Int32} (hX : aX p s m args c RX0 cX0_findWhomToWake 4 D cA A ad0) (hr : meth.sig.returnType = (some .boolean)) (hlk : meth.locks = false) (hRf : 6 ≤ R.frames) (hRl : 64 * 6 ≤ R.locals) {kh59 : Int32 → Int32 → (Nat → Nat → Int32) → (Nat → Nat → Option Nat) → Option ((Int32) × (Nat → Nat → Int32))} (Hkh59 : ∀ (x1 : Int32) (x2 : Int32) (i : Nat → Nat → Int32), aGood sh rv → kh59 x1 x2 i rv = some (vR, iR) → aJ p l e R s m args below meth c (MQ below (aPost D cA ad0 A (sh, i0, lo0, rv0) (some (.int vR)) (sh, iR, lo, rv)) args s (sh.length - sh.length) (aSn sh - aSn sh) A) D cA A ad0 4 sh.length (aSn sh) 59 [some (.ref (100 + 35)), some (.int x1), some (.int x2), none] [] (sh, i, lo, rv)) {x1 : Int32} {x2 : Int32} (hG : aGood sh rv) (hf : fX0_findWhomToWake_113 kh59 x1 x2 i rv = some (vR, iR)) : aJ p l e R s m args below meth c (MQ below (aPost D cA ad0 A (sh, i0, lo0, rv0) (some (.int vR)) (sh, iR, lo, rv)) args s (sh.length - sh.length) (aSn sh - aSn sh) A) D cA A ad0 4 sh.length (aSn sh) 113 [some (.ref (100 + 35)), some (.int x1), some (.int x2), none] [] (sh, i, lo, rv) := by
  unfold fX0_findWhomToWake_113 at hf
  refine j_aload_n hX dX0_findWhomToWake_113 rfl ?_
  refine j_iload_n hX dX0_findWhomToWake_114 rfl ?_
  have hf := ltd hf
  refine j_putI (k := 13) hX kX0 (by decide) fk_X0_53 dX0_findWhomToWake_115 (sh_35 hG) rfl rfl rfl rfl ?_
  refine j_aload_n hX dX0_findWhomToWake_118 rfl ?_
  refine j_aload_n hX dX0_findWhomToWake_119 rfl ?_
  refine jpc (b := 120) rfl ?_
  refine j_getR (k := 3) hX kX0 (by decide) fk_X0_13 (rf_35_3 hG) dX0_findWhomToWake_120 (sh_35 hG) rfl ?_
  refine j_iload_n hX dX0_findWhomToWake_123 rfl ?_
  obtain ⟨hg, hf⟩ := gd hf
  refine j_iald hX (sh_36 hG) hg dX0_findWhomToWake_124 ?_
  have hf := ltd hf
  refine j_putI (k := 14) hX kX0 (by decide) fk_X0_57 dX0_findWhomToWake_125 (sh_35 hG) rfl rfl rfl rfl ?_
  exact aJx (kX0_findWhomToWake_128 hX hr hlk hRf hRl Hkh59 hG  hf) (And.intro rfl (And.intro rfl (And.intro rfl (rfl))))
def fX0_findWhomToWake_87 (kh59 : Int32 → Int32 → (Nat → Nat → Int32) → (Nat → Nat → Option Nat) → Option ((Int32) × (Nat → Nat → Int32))) (x1 : Int32) (x2 : Int32) (s0 : Int32) (i : Nat → Nat → Int32) (rv : Nat → Nat → Option Nat) : Option ((Int32) × (Nat → Nat → Int32)) := if s0 = 0 then (fX0_findWhomToWake_128 kh59 x1 x2 i rv) else (if (i 35 13) = (-1) then (fX0_findWhomToWake_113 kh59 x1 x2 i rv) else (if aIn x2 512 = true then
    (if (i 35 14) ≤ (i 36 (x2 : Int32).toNatClampNeg) then (fX0_findWhomToWake_128 kh59 x1 x2 i rv) else (fX0_findWhomToWake_113 kh59 x1 x2 i rv)) else none))
theorem kX0_findWhomToWake_87  {vR : Int32} {iR : Nat → Nat → Int32} (hX : aX p s m args c RX0 cX0_findWhomToWake 4 D cA A ad0) (hr : meth.sig.returnType = (some .boolean)) (hlk : meth.locks = false) (hRf : 6 ≤ R.frames) (hRl : 64 * 6 ≤ R.locals) {kh59 : Int32 → Int32 → (Nat → Nat → Int32) → (Nat → Nat → Option Nat) → Option ((Int32) × (Nat → Nat → Int32))} (Hkh59 : ∀ (x1 : Int32) (x2 : Int32) (i : Nat → Nat → Int32), aGood sh rv → kh59 x1 x2 i rv = some (vR, iR) → aJ p l e R s m args below meth c (MQ below (aPost D cA ad0 A (sh, i0, lo0, rv0) (some (.int vR)) (sh, iR, lo, rv)) args s (sh.length - sh.length) (aSn sh - aSn sh) A) D cA A ad0 4 sh.length (aSn sh) 59 [some (.ref (100 + 35)), some (.int x1), some (.int x2), none] [] (sh, i, lo, rv)) {x1 : Int32} {x2 : Int32} {s0 : Int32} (hG : aGood sh rv) (hf : fX0_findWhomToWake_87 kh59 x1 x2 s0 i rv = some (vR, iR)) : aJ p l e R s m args below meth c (MQ below (aPost D cA ad0 A (sh, i0, lo0, rv0) (some (.int vR)) (sh, iR, lo, rv)) args s (sh.length - sh.length) (aSn sh - aSn sh) A) D cA A ad0 4 sh.length (aSn sh) 87 [some (.ref (100 + 35)), some (.int x1), some (.int x2), none] [.int s0] (sh, i, lo, rv) := by
  unfold fX0_findWhomToWake_87 at hf
  refine j_istore_n hX dX0_findWhomToWake_87 (by decide) rfl ?_
  refine j_iload_n hX dX0_findWhomToWake_88 rfl ?_
  refine j_if_eq (tgt := 128) hX dX0_findWhomToWake_89 (by decide) (fun hc => ?_) (fun hc => ?_)
  · have hf := ifp hc hf
    exact aJx (kX0_findWhomToWake_128 hX hr hlk hRf hRl Hkh59 hG  hf) (And.intro rfl (And.intro rfl (And.intro rfl (rfl))))
  · have hf := ifn hc hf
    refine j_aload_n hX dX0_findWhomToWake_92 rfl ?_
    refine j_getI (k := 13) hX kX0 (by decide) fk_X0_53 dX0_findWhomToWake_93 (sh_35 hG) rfl ?_
    refine j_iconst hX dX0_findWhomToWake_96 ic_m1 ?_
    refine j_icmp_eq (tgt := 113) hX dX0_findWhomToWake_97 (by decide) (fun hc => ?_) (fun hc => ?_)
    · have hf := ifp hc hf
      exact aJx (kX0_findWhomToWake_113 hX hr hlk hRf hRl Hkh59 hG  hf) (And.intro rfl (And.intro rfl (And.intro rfl (rfl))))
    · have hf := ifn hc hf
      refine j_aload_n hX dX0_findWhomToWake_100 rfl ?_
      refine j_getR (k := 3) hX kX0 (by decide) fk_X0_13 (rf_35_3 hG) dX0_findWhomToWake_101 (sh_35 hG) rfl ?_
      refine j_iload_n hX dX0_findWhomToWake_104 rfl ?_
      obtain ⟨hg, hf⟩ := gd hf
      refine j_iald hX (sh_36 hG) hg dX0_findWhomToWake_105 ?_
      refine j_aload_n hX dX0_findWhomToWake_106 rfl ?_
      refine j_getI (k := 14) hX kX0 (by decide) fk_X0_57 dX0_findWhomToWake_107 (sh_35 hG) rfl ?_
      refine j_icmp_ge (tgt := 128) hX dX0_findWhomToWake_110 (by decide) (fun hc => ?_) (fun hc => ?_)
      · have hf := ifp hc hf
        exact aJx (kX0_findWhomToWake_128 hX hr hlk hRf hRl Hkh59 hG  hf) (And.intro rfl (And.intro rfl (And.intro rfl (rfl))))
      · have hf := ifn hc hf
        exact aJx (kX0_findWhomToWake_113 hX hr hlk hRf hRl Hkh59 hG  hf) (And.intro rfl (And.intro rfl (And.intro rfl (rfl))))
def fX0_findWhomToWake_86 (kh59 : Int32 → Int32 → (Nat → Nat → Int32) → (Nat → Nat → Option Nat) → Option ((Int32) × (Nat → Nat → Int32))) (x1 : Int32) (x2 : Int32) (i : Nat → Nat → Int32) (rv : Nat → Nat → Option Nat) : Option ((Int32) × (Nat → Nat → Int32)) := fX0_findWhomToWake_87 kh59 x1 x2 0 i rv
theorem kX0_findWhomToWake_86  {vR : Int32} {iR : Nat → Nat → Int32} (hX : aX p s m args c RX0 cX0_findWhomToWake 4 D cA A ad0) (hr : meth.sig.returnType = (some .boolean)) (hlk : meth.locks = false) (hRf : 6 ≤ R.frames) (hRl : 64 * 6 ≤ R.locals) {kh59 : Int32 → Int32 → (Nat → Nat → Int32) → (Nat → Nat → Option Nat) → Option ((Int32) × (Nat → Nat → Int32))} (Hkh59 : ∀ (x1 : Int32) (x2 : Int32) (i : Nat → Nat → Int32), aGood sh rv → kh59 x1 x2 i rv = some (vR, iR) → aJ p l e R s m args below meth c (MQ below (aPost D cA ad0 A (sh, i0, lo0, rv0) (some (.int vR)) (sh, iR, lo, rv)) args s (sh.length - sh.length) (aSn sh - aSn sh) A) D cA A ad0 4 sh.length (aSn sh) 59 [some (.ref (100 + 35)), some (.int x1), some (.int x2), none] [] (sh, i, lo, rv)) {x1 : Int32} {x2 : Int32} (hG : aGood sh rv) (hf : fX0_findWhomToWake_86 kh59 x1 x2 i rv = some (vR, iR)) : aJ p l e R s m args below meth c (MQ below (aPost D cA ad0 A (sh, i0, lo0, rv0) (some (.int vR)) (sh, iR, lo, rv)) args s (sh.length - sh.length) (aSn sh - aSn sh) A) D cA A ad0 4 sh.length (aSn sh) 86 [some (.ref (100 + 35)), some (.int x1), some (.int x2), none] [] (sh, i, lo, rv) := by
  unfold fX0_findWhomToWake_86 at hf
  refine j_iconst hX dX0_findWhomToWake_86 ic_0 ?_
  exact aJx (kX0_findWhomToWake_87 hX hr hlk hRf hRl Hkh59 hG  hf) (And.intro rfl (And.intro rfl (And.intro rfl (rfl))))
def fX0_findWhomToWake_59 : Nat → Int32 → Int32 → (Nat → Nat → Int32) → (Nat → Nat → Option Nat) → Option ((Int32) × (Nat → Nat → Int32))
  | 0, _, _, _, _ => none
  | n + 1, x1, x2, i, rv => if x1 < x2 then (if (i 35 13) = (-1) then (some (0, i)) else (some (1, i))) else (if (x2 &&& (x1 ^^^ ((-1) : Int32))) = 0 then (if aIn x2 512 = true then
    (if (i 36 (x2 : Int32).toNatClampNeg) = (-1) then (fX0_findWhomToWake_86 (fX0_findWhomToWake_59 n) x1 x2 i rv) else (fX0_findWhomToWake_87 (fX0_findWhomToWake_59 n) x1 x2 1 i rv)) else none) else (fX0_findWhomToWake_86 (fX0_findWhomToWake_59 n) x1 x2 i rv))
theorem kX0_findWhomToWake_59  {vR : Int32} {iR : Nat → Nat → Int32} (hX : aX p s m args c RX0 cX0_findWhomToWake 4 D cA A ad0) (hr : meth.sig.returnType = (some .boolean)) (hlk : meth.locks = false) (hRf : 6 ≤ R.frames) (hRl : 64 * 6 ≤ R.locals) : ∀ (n : Nat) (x1 : Int32) (x2 : Int32) (i : Nat → Nat → Int32), aGood sh rv → fX0_findWhomToWake_59 n x1 x2 i rv = some (vR, iR) → aJ p l e R s m args below meth c (MQ below (aPost D cA ad0 A (sh, i0, lo0, rv0) (some (.int vR)) (sh, iR, lo, rv)) args s (sh.length - sh.length) (aSn sh - aSn sh) A) D cA A ad0 4 sh.length (aSn sh) 59 [some (.ref (100 + 35)), some (.int x1), some (.int x2), none] [] (sh, i, lo, rv) := by
  intro n
  induction n with
  | zero => intros; rename_i hf; cases hf
  | succ n ih =>
    intro x1 x2 i hG hf
    rw [fX0_findWhomToWake_59] at hf
    refine j_iload_n hX dX0_findWhomToWake_59 rfl ?_
    refine j_iload_n hX dX0_findWhomToWake_60 rfl ?_
    refine j_icmp_gt (tgt := 134) hX dX0_findWhomToWake_61 (by decide) (fun hc => ?_) (fun hc => ?_)
    · have hf := ifp hc hf
      refine j_aload_n hX dX0_findWhomToWake_134 rfl ?_
      refine j_getI (k := 13) hX kX0 (by decide) fk_X0_53 dX0_findWhomToWake_135 (sh_35 hG) rfl ?_
      refine j_iconst hX dX0_findWhomToWake_138 ic_m1 ?_
      refine j_icmp_eq (tgt := 146) hX dX0_findWhomToWake_139 (by decide) (fun hc => ?_) (fun hc => ?_)
      · have hf := ifp hc hf
        refine j_iconst hX dX0_findWhomToWake_146 ic_0 ?_
        cases hf
        exact j_ret hX hr hlk rfl dX0_findWhomToWake_147
      · have hf := ifn hc hf
        refine j_iconst hX dX0_findWhomToWake_142 ic_1 ?_
        refine j_goto (tgt := 147) hX dX0_findWhomToWake_143 (by decide) ?_
        cases hf
        exact j_ret hX hr hlk rfl dX0_findWhomToWake_147
    · have hf := ifn hc hf
      refine j_iload_n hX dX0_findWhomToWake_64 rfl ?_
      refine j_iload_n hX dX0_findWhomToWake_65 rfl ?_
      refine j_iconst hX dX0_findWhomToWake_66 ic_m1 ?_
      refine j_ixor hX dX0_findWhomToWake_67 ?_
      refine j_iand hX dX0_findWhomToWake_68 ?_
      refine jpc (b := 69) rfl ?_
      refine j_if_ne (tgt := 86) hX dX0_findWhomToWake_69 (by decide) (fun hc => ?_) (fun hc => ?_)
      · have hf := ifn hc hf
        exact aJx (kX0_findWhomToWake_86 hX hr hlk hRf hRl ih hG  hf) (And.intro rfl (And.intro rfl (And.intro rfl (rfl))))
      · have hf := ifp hc hf
        refine j_aload_n hX dX0_findWhomToWake_72 rfl ?_
        refine j_getR (k := 3) hX kX0 (by decide) fk_X0_13 (rf_35_3 hG) dX0_findWhomToWake_73 (sh_35 hG) rfl ?_
        refine j_iload_n hX dX0_findWhomToWake_76 rfl ?_
        obtain ⟨hg, hf⟩ := gd hf
        refine j_iald hX (sh_36 hG) hg dX0_findWhomToWake_77 ?_
        refine j_iconst hX dX0_findWhomToWake_78 ic_m1 ?_
        refine j_icmp_eq (tgt := 86) hX dX0_findWhomToWake_79 (by decide) (fun hc => ?_) (fun hc => ?_)
        · have hf := ifp hc hf
          exact aJx (kX0_findWhomToWake_86 hX hr hlk hRf hRl ih hG  hf) (And.intro rfl (And.intro rfl (And.intro rfl (rfl))))
        · have hf := ifn hc hf
          refine j_iconst hX dX0_findWhomToWake_82 ic_1 ?_
          refine j_goto (tgt := 87) hX dX0_findWhomToWake_83 (by decide) ?_
          exact aJx (kX0_findWhomToWake_87 hX hr hlk hRf hRl ih hG  hf) (And.intro rfl (And.intro rfl (And.intro rfl (rfl))))
def fX0_findWhomToWake_12 : Nat → Int32 → Int32 → (Nat → Nat → Int32) → (Nat → Nat → Option Nat) → Option ((Int32) × (Nat → Nat → Int32))
  | 0, _, _, _, _ => none
  | n + 1, x1, x2, i, rv => bn1 (fX1_officers 15 i) fun v5 =>
    if v5 ≤ x2 then (lt (u2 i 35 13 (-1)) fun i7 =>
    fX0_findWhomToWake_59 fuel x1 0 i7 rv) else (bn1 (fX1_ofOfficer 15 x2 0 i) fun v8 =>
    if v8 ≤ 0 then (fX0_findWhomToWake_46 (fX0_findWhomToWake_12 n) x1 x2 i rv) else (bn1 (fX0_layOutDrawer x2 i rv) fun i10 =>
    bn1 (fX0_addBorders x1 x2 i10) fun i12 =>
    fX0_findWhomToWake_46 (fX0_findWhomToWake_12 n) x1 x2 i12 rv))
theorem kX0_findWhomToWake_12  {vR : Int32} {iR : Nat → Nat → Int32} (hX : aX p s m args c RX0 cX0_findWhomToWake 4 D cA A ad0) (hr : meth.sig.returnType = (some .boolean)) (hlk : meth.locks = false) (hRf : 6 ≤ R.frames) (hRl : 64 * 6 ≤ R.locals) : ∀ (n : Nat) (x1 : Int32) (x2 : Int32) (i : Nat → Nat → Int32), aGood sh rv → fX0_findWhomToWake_12 n x1 x2 i rv = some (vR, iR) → aJ p l e R s m args below meth c (MQ below (aPost D cA ad0 A (sh, i0, lo0, rv0) (some (.int vR)) (sh, iR, lo, rv)) args s (sh.length - sh.length) (aSn sh - aSn sh) A) D cA A ad0 4 sh.length (aSn sh) 12 [some (.ref (100 + 35)), some (.int x1), some (.int x2), none] [] (sh, i, lo, rv) := by
  intro n
  induction n with
  | zero => intros; rename_i hf; cases hf
  | succ n ih =>
    intro x1 x2 i hG hf
    rw [fX0_findWhomToWake_12] at hf
    refine j_iload_n hX dX0_findWhomToWake_12 rfl ?_
    refine j_aload_n hX dX0_findWhomToWake_13 rfl ?_
    refine j_getR (k := 0) hX kX0 (by decide) fk_X0_41 (rf_35_0 hG) dX0_findWhomToWake_14 (sh_35 hG) rfl ?_
    obtain ⟨v5, hh6, hf⟩ := bd1 hf
    refine j_cV0i hX lk_X0_68 kX1 dX0_findWhomToWake_17 (sh_15 hG) (okX1_officers hG (cr_15 hG) hh6) rfl rfl (rmm (by omega) hRf hRl (by decide)) (Nat.le_of_ble_eq_true rfl) (Nat.le_add_right _ _) (Nat.le_add_right _ _) ?_
    refine j_icmp_ge (tgt := 52) hX dX0_findWhomToWake_20 (by decide) (fun hc => ?_) (fun hc => ?_)
    · have hf := ifp hc hf
      refine j_aload_n hX dX0_findWhomToWake_52 rfl ?_
      refine j_iconst hX dX0_findWhomToWake_53 ic_m1 ?_
      have hf := ltd hf
      refine j_putI (k := 13) hX kX0 (by decide) fk_X0_53 dX0_findWhomToWake_54 (sh_35 hG) rfl rfl rfl rfl ?_
      refine j_iconst hX dX0_findWhomToWake_57 ic_0 ?_
      refine j_istore_n hX dX0_findWhomToWake_58 (by decide) rfl ?_
      exact aJx (kX0_findWhomToWake_59 hX hr hlk hRf hRl fuel _ _ _ hG  hf) (And.intro rfl (And.intro rfl (And.intro rfl (rfl))))
    · have hf := ifn hc hf
      refine j_aload_n hX dX0_findWhomToWake_23 rfl ?_
      refine j_getR (k := 0) hX kX0 (by decide) fk_X0_41 (rf_35_0 hG) dX0_findWhomToWake_24 (sh_35 hG) rfl ?_
      refine j_iload_n hX dX0_findWhomToWake_27 rfl ?_
      refine j_iconst hX dX0_findWhomToWake_28 ic_0 ?_
      obtain ⟨v8, hh9, hf⟩ := bd1 hf
      refine j_cV2i hX lk_X0_71 kX1 dX0_findWhomToWake_29 (sh_15 hG) (okX1_ofOfficer hG (cr_15 hG) hh9) rfl rfl (rmm (by omega) hRf hRl (by decide)) (Nat.le_of_ble_eq_true rfl) (Nat.le_add_right _ _) (Nat.le_add_right _ _) ?_
      refine jpc (b := 32) rfl ?_
      refine j_if_le (tgt := 46) hX dX0_findWhomToWake_32 (by decide) (fun hc => ?_) (fun hc => ?_)
      · have hf := ifp hc hf
        exact aJx (kX0_findWhomToWake_46 hX hr hlk hRf hRl ih hG  hf) (And.intro rfl (And.intro rfl (And.intro rfl (rfl))))
      · have hf := ifn hc hf
        refine j_aload_n hX dX0_findWhomToWake_35 rfl ?_
        refine j_iload_n hX dX0_findWhomToWake_36 rfl ?_
        obtain ⟨i10, hh11, hf⟩ := bd1 hf
        refine j_cV1v hX lk_X0_75 kX0 dX0_findWhomToWake_37 (sh_35 hG) (okX0_layOutDrawer hG hh11) rfl rfl (rmm (by omega) hRf hRl (by decide)) (Nat.le_of_ble_eq_true rfl) (Nat.le_add_right _ _) (Nat.le_add_right _ _) ?_
        refine j_aload_n hX dX0_findWhomToWake_40 rfl ?_
        refine j_iload_n hX dX0_findWhomToWake_41 rfl ?_
        refine jpc (b := 42) rfl ?_
        refine j_iload_n hX dX0_findWhomToWake_42 rfl ?_
        obtain ⟨i12, hh13, hf⟩ := bd1 hf
        refine j_cV2v hX lk_X0_78 kX0 dX0_findWhomToWake_43 (sh_35 hG) (okX0_addBorders hG hh13) rfl rfl (rmm (by omega) hRf hRl (by decide)) (Nat.le_of_ble_eq_true rfl) (Nat.le_add_right _ _) (Nat.le_add_right _ _) ?_
        exact aJx (kX0_findWhomToWake_46 hX hr hlk hRf hRl ih hG  hf) (And.intro rfl (And.intro rfl (And.intro rfl (rfl))))
def fX0_findWhomToWake (i : Nat → Nat → Int32) (rv : Nat → Nat → Option Nat) : Option ((Int32) × (Nat → Nat → Int32)) := bn1 (fX0_asleepWithPapers i) fun v1 =>
    bn1 (fX0_sumByHand v1 i rv) fun i3 =>
    fX0_findWhomToWake_12 fuel v1 0 i3 rv
theorem kX0_findWhomToWake  {vR : Int32} {iR : Nat → Nat → Int32} (hX : aX p s m args c RX0 cX0_findWhomToWake 4 D cA A ad0) (hr : meth.sig.returnType = (some .boolean)) (hlk : meth.locks = false) (hRf : 6 ≤ R.frames) (hRl : 64 * 6 ≤ R.locals) (hG : aGood sh rv) (hf : fX0_findWhomToWake i rv = some (vR, iR)) : aJ p l e R s m args below meth c (MQ below (aPost D cA ad0 A (sh, i0, lo0, rv0) (some (.int vR)) (sh, iR, lo, rv)) args s (sh.length - sh.length) (aSn sh - aSn sh) A) D cA A ad0 4 sh.length (aSn sh) 0 [some (.ref (100 + 35)), none, none, none] [] (sh, i, lo, rv) := by
  unfold fX0_findWhomToWake at hf
  refine j_aload_n hX dX0_findWhomToWake_0 rfl ?_
  obtain ⟨v1, hh2, hf⟩ := bd1 hf
  refine j_cV0i hX lk_X0_60 kX0 dX0_findWhomToWake_1 (sh_35 hG) (okX0_asleepWithPapers hG hh2) rfl rfl (rmm (by omega) hRf hRl (by decide)) (Nat.le_of_ble_eq_true rfl) (Nat.le_add_right _ _) (Nat.le_add_right _ _) ?_
  refine j_istore_n hX dX0_findWhomToWake_4 (by decide) rfl ?_
  refine j_aload_n hX dX0_findWhomToWake_5 rfl ?_
  refine j_iload_n hX dX0_findWhomToWake_6 rfl ?_
  refine jpc (b := 7) rfl ?_
  obtain ⟨i3, hh4, hf⟩ := bd1 hf
  refine j_cV1v hX lk_X0_64 kX0 dX0_findWhomToWake_7 (sh_35 hG) (okX0_sumByHand hG hh4) rfl rfl (rmm (by omega) hRf hRl (by decide)) (Nat.le_of_ble_eq_true rfl) (Nat.le_add_right _ _) (Nat.le_add_right _ _) ?_
  refine j_iconst hX dX0_findWhomToWake_10 ic_0 ?_
  refine j_istore_n hX dX0_findWhomToWake_11 (by decide) rfl ?_
  exact aJx (kX0_findWhomToWake_12 hX hr hlk hRf hRl fuel _ _ _ hG  hf) (And.intro rfl (And.intro rfl (And.intro rfl (rfl))))
theorem okX0_findWhomToWake {l : Launch} {sh : List aSh} {i : Nat → Nat → Int32} {lo : Nat → Nat → Int64} {rv : Nat → Nat → Option Nat}  {vR : Int32} {iR : Nat → Nat → Int32} (hG : aGood sh rv) (hf : fX0_findWhomToWake i rv = some (vR, iR)) : aM l yX0_findWhomToWake cX0_findWhomToWake 4 (some .boolean) 6 [.ref (100 + 35)] (sh, i, lo, rv) (some (.int vR)) (sh, iR, lo, rv) :=
  aM_of (by decide) (Nat.le_of_ble_eq_true rfl) (Nat.le_refl _) (Nat.le_refl _) (fun p e s m args below meth c D cA A ad0 hX hr hlk hnm => kX0_findWhomToWake hX hr hlk (Nat.le_refl _) (Nat.le_refl _) hG hf)
def fX0_answer (i : Nat → Nat → Int32) : Option ((Int32)) := some ((i 35 13))
theorem kX0_answer  {vR : Int32} (hX : aX p s m args c RX0 cX0_answer 1 D cA A ad0) (hr : meth.sig.returnType = (some .int)) (hlk : meth.locks = false) (hRf : 0 ≤ R.frames) (hRl : 64 * 0 ≤ R.locals) (hG : aGood sh rv) (hf : fX0_answer i = some (vR)) : aJ p l e R s m args below meth c (MQ below (aPost D cA ad0 A (sh, i0, lo0, rv0) (some (.int vR)) (sh, i, lo, rv)) args s (sh.length - sh.length) (aSn sh - aSn sh) A) D cA A ad0 1 sh.length (aSn sh) 0 [some (.ref (100 + 35))] [] (sh, i, lo, rv) := by
  unfold fX0_answer at hf
  refine j_aload_n hX dX0_answer_0 rfl ?_
  refine j_getI (k := 13) hX kX0 (by decide) fk_X0_53 dX0_answer_1 (sh_35 hG) rfl ?_
  cases hf
  exact j_ret hX hr hlk rfl dX0_answer_4
theorem okX0_answer {l : Launch} {sh : List aSh} {i : Nat → Nat → Int32} {lo : Nat → Nat → Int64} {rv : Nat → Nat → Option Nat}  {vR : Int32} (hG : aGood sh rv) (hf : fX0_answer i = some (vR)) : aM l yX0_answer cX0_answer 1 (some .int) 0 [.ref (100 + 35)] (sh, i, lo, rv) (some (.int vR)) (sh, i, lo, rv) :=
  aM_of (by decide) (Nat.le_of_ble_eq_true rfl) (Nat.le_refl _) (Nat.le_refl _) (fun p e s m args below meth c D cA A ad0 hX hr hlk hnm => kX0_answer hX hr hlk (Nat.le_refl _) (Nat.le_refl _) hG hf)
def fX0_worth (i : Nat → Nat → Int32) : Option ((Int32)) := some ((i 35 14))
theorem kX0_worth  {vR : Int32} (hX : aX p s m args c RX0 cX0_worth 1 D cA A ad0) (hr : meth.sig.returnType = (some .int)) (hlk : meth.locks = false) (hRf : 0 ≤ R.frames) (hRl : 64 * 0 ≤ R.locals) (hG : aGood sh rv) (hf : fX0_worth i = some (vR)) : aJ p l e R s m args below meth c (MQ below (aPost D cA ad0 A (sh, i0, lo0, rv0) (some (.int vR)) (sh, i, lo, rv)) args s (sh.length - sh.length) (aSn sh - aSn sh) A) D cA A ad0 1 sh.length (aSn sh) 0 [some (.ref (100 + 35))] [] (sh, i, lo, rv) := by
  unfold fX0_worth at hf
  refine j_aload_n hX dX0_worth_0 rfl ?_
  refine j_getI (k := 14) hX kX0 (by decide) fk_X0_57 dX0_worth_1 (sh_35 hG) rfl ?_
  cases hf
  exact j_ret hX hr hlk rfl dX0_worth_4
theorem okX0_worth {l : Launch} {sh : List aSh} {i : Nat → Nat → Int32} {lo : Nat → Nat → Int64} {rv : Nat → Nat → Option Nat}  {vR : Int32} (hG : aGood sh rv) (hf : fX0_worth i = some (vR)) : aM l yX0_worth cX0_worth 1 (some .int) 0 [.ref (100 + 35)] (sh, i, lo, rv) (some (.int vR)) (sh, i, lo, rv) :=
  aM_of (by decide) (Nat.le_of_ble_eq_true rfl) (Nat.le_refl _) (Nat.le_refl _) (fun p e s m args below meth c D cA A ad0 hX hr hlk hnm => kX0_worth hX hr hlk (Nat.le_refl _) (Nat.le_refl _) hG hf)
def fX11_before (a1 : Int32) (i : Nat → Nat → Int32) (rv : Nat → Nat → Option Nat) : Option ((Int32) × (Nat → Nat → Int32)) := bn1 (fX11_noCar i) fun v1 =>
    if v1 = 0 then (if a1 < 0 then (some ((-1), i)) else (if 1 < a1 then (some ((-1), i)) else (bn2 (fX0_findWhomToWake i rv) fun v3 i4 =>
    if v3 = 0 then (some ((-1), i4)) else (if a1 = 0 then (bn1 (fX0_answer i4) fun v8 =>
    some (v8, i4)) else (bn1 (fX0_worth i4) fun v6 =>
    some (v6, i4)))))) else (some ((-1), i))
theorem kX11_before  {vR : Int32} {iR : Nat → Nat → Int32} (hX : aX p s m args c RX11 cX11_before 2 D cA A ad0) (hr : meth.sig.returnType = (some .int)) (hlk : meth.locks = false) (hRf : 7 ≤ R.frames) (hRl : 64 * 7 ≤ R.locals) {a1 : Int32} (hG : aGood sh rv) (hf : fX11_before a1 i rv = some (vR, iR)) : aJ p l e R s m args below meth c (MQ below (aPost D cA ad0 A (sh, i0, lo0, rv0) (some (.int vR)) (sh, iR, lo, rv)) args s (sh.length - sh.length) (aSn sh - aSn sh) A) D cA A ad0 2 sh.length (aSn sh) 0 [some (.ref (100 + 0)), some (.int a1)] [] (sh, i, lo, rv) := by
  unfold fX11_before at hf
  refine j_aload_n hX dX11_before_0 rfl ?_
  obtain ⟨v1, hh2, hf⟩ := bd1 hf
  refine j_cV0i hX lk_X11_120 kX11 dX11_before_1 (sh_0 hG) (okX11_noCar hG hh2) rfl rfl (rmm (by omega) hRf hRl (by decide)) (Nat.le_of_ble_eq_true rfl) (Nat.le_add_right _ _) (Nat.le_add_right _ _) ?_
  refine j_if_ne (tgt := 26) hX dX11_before_4 (by decide) (fun hc => ?_) (fun hc => ?_)
  · have hf := ifn hc hf
    refine j_iconst hX dX11_before_26 ic_m1 ?_
    cases hf
    exact j_ret hX hr hlk rfl dX11_before_27
  · have hf := ifp hc hf
    refine j_iload_n hX dX11_before_7 rfl ?_
    refine j_if_lt (tgt := 26) hX dX11_before_8 (by decide) (fun hc => ?_) (fun hc => ?_)
    · have hf := ifp hc hf
      refine j_iconst hX dX11_before_26 ic_m1 ?_
      cases hf
      exact j_ret hX hr hlk rfl dX11_before_27
    · have hf := ifn hc hf
      refine j_iload_n hX dX11_before_11 rfl ?_
      refine j_iconst hX dX11_before_12 ic_1 ?_
      refine j_icmp_gt (tgt := 26) hX dX11_before_13 (by decide) (fun hc => ?_) (fun hc => ?_)
      · have hf := ifp hc hf
        refine j_iconst hX dX11_before_26 ic_m1 ?_
        cases hf
        exact j_ret hX hr hlk rfl dX11_before_27
      · have hf := ifn hc hf
        refine j_aload_n hX dX11_before_16 rfl ?_
        refine j_getR (k := 9) hX kX11 (by decide) fk_X11_71 (rf_0_9 hG) dX11_before_17 (sh_0 hG) rfl ?_
        obtain ⟨v3, i4, hh5, hf⟩ := bd2 hf
        refine j_cV0i hX lk_X11_252 kX0 dX11_before_20 (sh_35 hG) (okX0_findWhomToWake hG hh5) rfl rfl (rmm (by omega) hRf hRl (by decide)) (Nat.le_of_ble_eq_true rfl) (Nat.le_add_right _ _) (Nat.le_add_right _ _) ?_
        refine j_if_ne (tgt := 28) hX dX11_before_23 (by decide) (fun hc => ?_) (fun hc => ?_)
        · have hf := ifn hc hf
          refine j_iload_n hX dX11_before_28 rfl ?_
          refine j_if_ne (tgt := 42) hX dX11_before_29 (by decide) (fun hc => ?_) (fun hc => ?_)
          · have hf := ifn hc hf
            refine j_aload_n hX dX11_before_42 rfl ?_
            refine j_getR (k := 9) hX kX11 (by decide) fk_X11_71 (rf_0_9 hG) dX11_before_43 (sh_0 hG) rfl ?_
            obtain ⟨v6, hh7, hf⟩ := bd1 hf
            refine j_cV0i hX lk_X11_258 kX0 dX11_before_46 (sh_35 hG) (okX0_worth hG hh7) rfl rfl (rmm (by omega) hRf hRl (by decide)) (Nat.le_of_ble_eq_true rfl) (Nat.le_add_right _ _) (Nat.le_add_right _ _) ?_
            cases hf
            exact j_ret hX hr hlk rfl dX11_before_49
          · have hf := ifp hc hf
            refine j_aload_n hX dX11_before_32 rfl ?_
            refine j_getR (k := 9) hX kX11 (by decide) fk_X11_71 (rf_0_9 hG) dX11_before_33 (sh_0 hG) rfl ?_
            obtain ⟨v8, hh9, hf⟩ := bd1 hf
            refine j_cV0i hX lk_X11_255 kX0 dX11_before_36 (sh_35 hG) (okX0_answer hG hh9) rfl rfl (rmm (by omega) hRf hRl (by decide)) (Nat.le_of_ble_eq_true rfl) (Nat.le_add_right _ _) (Nat.le_add_right _ _) ?_
            refine j_goto (tgt := 49) hX dX11_before_39 (by decide) ?_
            cases hf
            exact j_ret hX hr hlk rfl dX11_before_49
        · have hf := ifp hc hf
          refine j_iconst hX dX11_before_26 ic_m1 ?_
          cases hf
          exact j_ret hX hr hlk rfl dX11_before_27
theorem okX11_before {l : Launch} {sh : List aSh} {i : Nat → Nat → Int32} {lo : Nat → Nat → Int64} {rv : Nat → Nat → Option Nat}  {a1 : Int32} {vR : Int32} {iR : Nat → Nat → Int32} (hG : aGood sh rv) (hf : fX11_before a1 i rv = some (vR, iR)) : aM l yX11_before cX11_before 2 (some .int) 7 [.ref (100 + 0), .int a1] (sh, i, lo, rv) (some (.int vR)) (sh, iR, lo, rv) :=
  aM_of (by decide) (Nat.le_of_ble_eq_true rfl) (Nat.le_refl _) (Nat.le_refl _) (fun p e s m args below meth c D cA A ad0 hX hr hlk hnm => kX11_before hX hr hlk (Nat.le_refl _) (Nat.le_refl _) hG hf)
def fX0_cellOf (a0 : Int32) (a1 : Int32) (a2 : Int32) : Option ((Int32)) := some (((((a0 * (3 : Int32)) + a1) * (4 : Int32)) + a2))
theorem kX0_cellOf  {vR : Int32} (hX : aX p s m args c RX0 cX0_cellOf 3 D cA A ad0) (hr : meth.sig.returnType = (some .int)) (hlk : meth.locks = false) (hRf : 0 ≤ R.frames) (hRl : 64 * 0 ≤ R.locals) {a0 : Int32} {a1 : Int32} {a2 : Int32} (hG : aGood sh rv) (hf : fX0_cellOf a0 a1 a2 = some (vR)) : aJ p l e R s m args below meth c (MQ below (aPost D cA ad0 A (sh, i0, lo0, rv0) (some (.int vR)) (sh, i, lo, rv)) args s (sh.length - sh.length) (aSn sh - aSn sh) A) D cA A ad0 3 sh.length (aSn sh) 0 [some (.int a0), some (.int a1), some (.int a2)] [] (sh, i, lo, rv) := by
  unfold fX0_cellOf at hf
  refine j_iload_n hX dX0_cellOf_0 rfl ?_
  refine j_iconst hX dX0_cellOf_1 ic_3 ?_
  refine j_imul hX dX0_cellOf_2 ?_
  refine j_iload_n hX dX0_cellOf_3 rfl ?_
  refine j_iadd hX dX0_cellOf_4 ?_
  refine jpc (b := 5) rfl ?_
  refine j_iconst hX dX0_cellOf_5 ic_4 ?_
  refine j_imul hX dX0_cellOf_6 ?_
  refine j_iload_n hX dX0_cellOf_7 rfl ?_
  refine j_iadd hX dX0_cellOf_8 ?_
  cases hf
  exact j_ret hX hr hlk rfl dX0_cellOf_9
theorem okX0_cellOf {l : Launch} {sh : List aSh} {i : Nat → Nat → Int32} {lo : Nat → Nat → Int64} {rv : Nat → Nat → Option Nat}  {a0 : Int32} {a1 : Int32} {a2 : Int32} {vR : Int32} (hG : aGood sh rv) (hf : fX0_cellOf a0 a1 a2 = some (vR)) : aM l yX0_cellOf cX0_cellOf 3 (some .int) 0 [.int a0, .int a1, .int a2] (sh, i, lo, rv) (some (.int vR)) (sh, i, lo, rv) :=
  aM_of (by decide) (Nat.le_of_ble_eq_true rfl) (Nat.le_refl _) (Nat.le_refl _) (fun p e s m args below meth c D cA A ad0 hX hr hlk hnm => kX0_cellOf hX hr hlk (Nat.le_refl _) (Nat.le_refl _) hG hf)
def fX0_layOutRest_41 (kh21 : Int32 → Int32 → (Nat → Nat → Int32) → Option ((Nat → Nat → Int32))) : Nat → Int32 → Int32 → Int32 → Int32 → (Nat → Nat → Int32) → Option ((Nat → Nat → Int32))
  | 0, _, _, _, _, _ => none
  | n + 1, x1, x3, x4, x5, i => if 3 ≤ x5 then (if aIn (((x3 + (1 : Int32)) * (4 : Int32)) + x1) 40 = true then
    (lt (i 44 ((((x3 + (1 : Int32)) * (4 : Int32)) + x1) : Int32).toNatClampNeg) fun t6 =>
    if aIn ((x3 * (4 : Int32)) + x1) 40 = true then
    (lt (u2 i 44 (((x3 * (4 : Int32)) + x1) : Int32).toNatClampNeg (if x4 < t6 then t6 else x4)) fun i7 => kh21 x1 (x3 + (-1)) i7) else none) else none) else (bn1 (fX0_cellOf x3 x5 x1) fun v8 =>
    if aIn v8 108 = true then
    (lt (if (i 42 (v8 : Int32).toNatClampNeg) < x4 then (i 42 (v8 : Int32).toNatClampNeg) else x4) fun t10 =>
    fX0_layOutRest_41 kh21 n x1 x3 t10 (x5 + 1) i) else none)
theorem kX0_layOutRest_41  {iR : Nat → Nat → Int32} (hX : aX p s m args c RX0 cX0_layOutRest 6 D cA A ad0) (hr : meth.sig.returnType = none) (hlk : meth.locks = false) (hRf : 1 ≤ R.frames) (hRl : 64 * 1 ≤ R.locals) {kh21 : Int32 → Int32 → (Nat → Nat → Int32) → Option ((Nat → Nat → Int32))} (Hkh21 : ∀ (x1 : Int32) (x3 : Int32) (i : Nat → Nat → Int32), aGood sh rv → kh21 x1 x3 i = some (iR) → aJ p l e R s m args below meth c (MQ below (aPost D cA ad0 A (sh, i0, lo0, rv0) none (sh, iR, lo, rv)) args s (sh.length - sh.length) (aSn sh - aSn sh) A) D cA A ad0 6 sh.length (aSn sh) 21 [some (.ref (100 + 35)), some (.int x1), none, some (.int x3), none, none] [] (sh, i, lo, rv)) : ∀ (n : Nat) (x1 : Int32) (x3 : Int32) (x4 : Int32) (x5 : Int32) (i : Nat → Nat → Int32), aGood sh rv → fX0_layOutRest_41 kh21 n x1 x3 x4 x5 i = some (iR) → aJ p l e R s m args below meth c (MQ below (aPost D cA ad0 A (sh, i0, lo0, rv0) none (sh, iR, lo, rv)) args s (sh.length - sh.length) (aSn sh - aSn sh) A) D cA A ad0 6 sh.length (aSn sh) 41 [some (.ref (100 + 35)), some (.int x1), none, some (.int x3), some (.int x4), some (.int x5)] [] (sh, i, lo, rv) := by
  intro n
  induction n with
  | zero => intros; rename_i hf; cases hf
  | succ n ih =>
    intro x1 x3 x4 x5 i hG hf
    rw [fX0_layOutRest_41] at hf
    refine j_iload hX dX0_layOutRest_41 rfl ?_
    refine j_iconst hX dX0_layOutRest_43 ic_3 ?_
    refine j_icmp_ge (tgt := 72) hX dX0_layOutRest_44 (by decide) (fun hc => ?_) (fun hc => ?_)
    · have hf := ifp hc hf
      refine j_aload_n hX dX0_layOutRest_72 rfl ?_
      refine j_getR (k := 11) hX kX0 (by decide) fk_X0_38 (rf_35_11 hG) dX0_layOutRest_73 (sh_35 hG) rfl ?_
      refine j_iload_n hX dX0_layOutRest_76 rfl ?_
      refine j_iconst hX dX0_layOutRest_77 ic_1 ?_
      refine j_iadd hX dX0_layOutRest_78 ?_
      refine jpc (b := 79) rfl ?_
      refine j_iconst hX dX0_layOutRest_79 ic_4 ?_
      refine j_imul hX dX0_layOutRest_80 ?_
      refine j_iload_n hX dX0_layOutRest_81 rfl ?_
      refine j_iadd hX dX0_layOutRest_82 ?_
      obtain ⟨hg, hf⟩ := gd hf
      refine j_iald hX (sh_44 hG) hg dX0_layOutRest_83 ?_
      have hf := ltd hf
      refine j_istore hX dX0_layOutRest_84 (by decide) rfl ?_
      refine j_aload_n hX dX0_layOutRest_86 rfl ?_
      refine j_getR (k := 11) hX kX0 (by decide) fk_X0_38 (rf_35_11 hG) dX0_layOutRest_87 (sh_35 hG) rfl ?_
      refine j_iload_n hX dX0_layOutRest_90 rfl ?_
      refine j_iconst hX dX0_layOutRest_91 ic_4 ?_
      refine jpc (b := 92) rfl ?_
      refine j_imul hX dX0_layOutRest_92 ?_
      refine j_iload_n hX dX0_layOutRest_93 rfl ?_
      refine j_iadd hX dX0_layOutRest_94 ?_
      refine j_iload hX dX0_layOutRest_95 rfl ?_
      refine j_iload hX dX0_layOutRest_97 rfl ?_
      refine j_max hX lk_X0_174 dX0_layOutRest_99 ⟨by omega, Nat.le_trans (Nat.le_of_ble_eq_true rfl) hRl⟩ (Nat.le_add_right _ _) (Nat.le_add_right _ _) ?_
      refine jpc (b := 102) rfl ?_
      obtain ⟨hg, hf⟩ := gd hf
      have hf := ltd hf
      refine j_iast hX (sh_44 hG) hg dX0_layOutRest_102 ?_
      refine j_iinc hX dX0_layOutRest_103 rfl (congrArg (_ + ·) ic_m1) (by decide) rfl ?_
      refine j_goto (tgt := 21) hX dX0_layOutRest_106 (by decide) ?_
      exact aJx (Hkh21 _ _ _ hG  hf) (And.intro rfl (And.intro rfl (And.intro rfl (rfl))))
    · have hf := ifn hc hf
      refine j_iload hX dX0_layOutRest_47 rfl ?_
      refine j_aload_n hX dX0_layOutRest_49 rfl ?_
      refine j_getR (k := 9) hX kX0 (by decide) fk_X0_32 (rf_35_9 hG) dX0_layOutRest_50 (sh_35 hG) rfl ?_
      refine j_iload_n hX dX0_layOutRest_53 rfl ?_
      refine j_iload hX dX0_layOutRest_54 rfl ?_
      refine jpc (b := 56) rfl ?_
      refine j_iload_n hX dX0_layOutRest_56 rfl ?_
      obtain ⟨v8, hh9, hf⟩ := bd1 hf
      refine j_cS3i hX lk_X0_162 dX0_layOutRest_57 (okX0_cellOf hG hh9) rfl rfl (rmm (by omega) hRf hRl (by decide)) (Nat.le_of_ble_eq_true rfl) (Nat.le_add_right _ _) (Nat.le_add_right _ _) ?_
      obtain ⟨hg, hf⟩ := gd hf
      refine j_iald hX (sh_42 hG) hg dX0_layOutRest_60 ?_
      refine j_min hX lk_X0_169 dX0_layOutRest_61 ⟨by omega, Nat.le_trans (Nat.le_of_ble_eq_true rfl) hRl⟩ (Nat.le_add_right _ _) (Nat.le_add_right _ _) ?_
      have hf := ltd hf
      refine j_istore hX dX0_layOutRest_64 (by decide) rfl ?_
      refine j_iinc hX dX0_layOutRest_66 rfl (congrArg (_ + ·) ic_1) (by decide) rfl ?_
      refine j_goto (tgt := 41) hX dX0_layOutRest_69 (by decide) ?_
      exact aJx (ih _ _ _ _ _ hG  hf) (And.intro rfl (And.intro rfl (And.intro rfl (And.intro rfl (And.intro rfl (rfl))))))
def fX0_layOutRest_21 : Nat → Int32 → Int32 → (Nat → Nat → Int32) → Option ((Nat → Nat → Int32))
  | 0, _, _, _ => none
  | n + 1, x1, x3, i => if x3 < 0 then (some (i)) else (bn1 (fX0_cellOf x3 0 x1) fun v3 =>
    if aIn v3 108 = true then
    (lt (i 42 (v3 : Int32).toNatClampNeg) fun t5 =>
    fX0_layOutRest_41 (fX0_layOutRest_21 n) fuel x1 x3 t5 1 i) else none)
theorem kX0_layOutRest_21  {iR : Nat → Nat → Int32} (hX : aX p s m args c RX0 cX0_layOutRest 6 D cA A ad0) (hr : meth.sig.returnType = none) (hlk : meth.locks = false) (hRf : 1 ≤ R.frames) (hRl : 64 * 1 ≤ R.locals) : ∀ (n : Nat) (x1 : Int32) (x3 : Int32) (i : Nat → Nat → Int32), aGood sh rv → fX0_layOutRest_21 n x1 x3 i = some (iR) → aJ p l e R s m args below meth c (MQ below (aPost D cA ad0 A (sh, i0, lo0, rv0) none (sh, iR, lo, rv)) args s (sh.length - sh.length) (aSn sh - aSn sh) A) D cA A ad0 6 sh.length (aSn sh) 21 [some (.ref (100 + 35)), some (.int x1), none, some (.int x3), none, none] [] (sh, i, lo, rv) := by
  intro n
  induction n with
  | zero => intros; rename_i hf; cases hf
  | succ n ih =>
    intro x1 x3 i hG hf
    rw [fX0_layOutRest_21] at hf
    refine j_iload_n hX dX0_layOutRest_21 rfl ?_
    refine j_if_lt (tgt := 109) hX dX0_layOutRest_22 (by decide) (fun hc => ?_) (fun hc => ?_)
    · have hf := ifp hc hf
      cases hf
      exact j_vret hX hr hlk dX0_layOutRest_109
    · have hf := ifn hc hf
      refine j_aload_n hX dX0_layOutRest_25 rfl ?_
      refine j_getR (k := 9) hX kX0 (by decide) fk_X0_32 (rf_35_9 hG) dX0_layOutRest_26 (sh_35 hG) rfl ?_
      refine j_iload_n hX dX0_layOutRest_29 rfl ?_
      refine j_iconst hX dX0_layOutRest_30 ic_0 ?_
      refine j_iload_n hX dX0_layOutRest_31 rfl ?_
      refine jpc (b := 32) rfl ?_
      obtain ⟨v3, hh4, hf⟩ := bd1 hf
      refine j_cS3i hX lk_X0_162 dX0_layOutRest_32 (okX0_cellOf hG hh4) rfl rfl (rmm (by omega) hRf hRl (by decide)) (Nat.le_of_ble_eq_true rfl) (Nat.le_add_right _ _) (Nat.le_add_right _ _) ?_
      obtain ⟨hg, hf⟩ := gd hf
      refine j_iald hX (sh_42 hG) hg dX0_layOutRest_35 ?_
      have hf := ltd hf
      refine j_istore hX dX0_layOutRest_36 (by decide) rfl ?_
      refine j_iconst hX dX0_layOutRest_38 ic_1 ?_
      refine j_istore hX dX0_layOutRest_39 (by decide) rfl ?_
      exact aJx (kX0_layOutRest_41 hX hr hlk hRf hRl ih fuel _ _ _ _ _ hG  hf) (And.intro rfl (And.intro rfl (And.intro rfl (And.intro rfl (And.intro rfl (rfl))))))
def fX0_layOutRest (a1 : Int32) (a2 : Int32) (i : Nat → Nat → Int32) : Option ((Nat → Nat → Int32)) := if aIn (((i 35 12) * (4 : Int32)) + a1) 40 = true then
    (lt (u2 i 44 ((((i 35 12) * (4 : Int32)) + a1) : Int32).toNatClampNeg a2) fun i1 => lt ((i1 35 12) - (1 : Int32)) fun t2 =>
    fX0_layOutRest_21 fuel a1 t2 i1) else none
theorem kX0_layOutRest  {iR : Nat → Nat → Int32} (hX : aX p s m args c RX0 cX0_layOutRest 6 D cA A ad0) (hr : meth.sig.returnType = none) (hlk : meth.locks = false) (hRf : 1 ≤ R.frames) (hRl : 64 * 1 ≤ R.locals) {a1 : Int32} {a2 : Int32} (hG : aGood sh rv) (hf : fX0_layOutRest a1 a2 i = some (iR)) : aJ p l e R s m args below meth c (MQ below (aPost D cA ad0 A (sh, i0, lo0, rv0) none (sh, iR, lo, rv)) args s (sh.length - sh.length) (aSn sh - aSn sh) A) D cA A ad0 6 sh.length (aSn sh) 0 [some (.ref (100 + 35)), some (.int a1), some (.int a2), none, none, none] [] (sh, i, lo, rv) := by
  unfold fX0_layOutRest at hf
  refine j_aload_n hX dX0_layOutRest_0 rfl ?_
  refine j_getR (k := 11) hX kX0 (by decide) fk_X0_38 (rf_35_11 hG) dX0_layOutRest_1 (sh_35 hG) rfl ?_
  refine j_aload_n hX dX0_layOutRest_4 rfl ?_
  refine j_getI (k := 12) hX kX0 (by decide) fk_X0_141 dX0_layOutRest_5 (sh_35 hG) rfl ?_
  refine j_iconst hX dX0_layOutRest_8 ic_4 ?_
  refine jpc (b := 9) rfl ?_
  refine j_imul hX dX0_layOutRest_9 ?_
  refine j_iload_n hX dX0_layOutRest_10 rfl ?_
  refine j_iadd hX dX0_layOutRest_11 ?_
  refine j_iload_n hX dX0_layOutRest_12 rfl ?_
  obtain ⟨hg, hf⟩ := gd hf
  have hf := ltd hf
  refine j_iast hX (sh_44 hG) hg dX0_layOutRest_13 ?_
  refine j_aload_n hX dX0_layOutRest_14 rfl ?_
  refine j_getI (k := 12) hX kX0 (by decide) fk_X0_141 dX0_layOutRest_15 (sh_35 hG) rfl ?_
  refine j_iconst hX dX0_layOutRest_18 ic_1 ?_
  refine j_isub hX dX0_layOutRest_19 ?_
  have hf := ltd hf
  refine j_istore_n hX dX0_layOutRest_20 (by decide) rfl ?_
  exact aJx (kX0_layOutRest_21 hX hr hlk hRf hRl fuel _ _ _ hG  hf) (And.intro rfl (And.intro rfl (And.intro rfl (rfl))))
theorem okX0_layOutRest {l : Launch} {sh : List aSh} {i : Nat → Nat → Int32} {lo : Nat → Nat → Int64} {rv : Nat → Nat → Option Nat}  {a1 : Int32} {a2 : Int32} {iR : Nat → Nat → Int32} (hG : aGood sh rv) (hf : fX0_layOutRest a1 a2 i = some (iR)) : aM l yX0_layOutRest cX0_layOutRest 6 none 1 [.ref (100 + 35), .int a1, .int a2] (sh, i, lo, rv) none (sh, iR, lo, rv) :=
  aM_of (by decide) (Nat.le_of_ble_eq_true rfl) (Nat.le_refl _) (Nat.le_refl _) (fun p e s m args below meth c D cA A ad0 hX hr hlk hnm => kX0_layOutRest hX hr hlk (Nat.le_refl _) (Nat.le_refl _) hG hf)
end DC
