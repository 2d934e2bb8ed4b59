/-! decompiled: X12_waitOf X12_goBorder X12_tryBorder X12_isLate X12_rule X12_sleeper X12_officer X12_law X12_drowsy X12_remember X12_canMove X12_moves X12_move X12_canSay X12_say X12_canWake X12_wake X12_canLie X12_asleepIn X12_lie X12_canSwap X12_swaps X12_swap -/
section DC
variable {p : Program} {l : Launch} {e : Env} {R : Room} {s : State} {m : MethodId} {args : Array Value} {below : List Frame} {meth : Method} {c : Code} {D : va_G} {cA : FieldType → ClassId} {A : Nat → Prop} {ad0 : Nat → Nat} {sh : List aSh} {i i0 : Nat → Nat → Int32} {lo lo0 : Nat → Nat → Int64} {rv rv0 : Nat → Nat → Option Nat}
def fX12_waitOf (w1 : Nat) (n1 : Nat) (a2 : Int32) (a3 : Int32) (a4 : Int32) (i : Nat → Nat → Int32) : Option ((Int32)) := if aIn (((6 : Int32) * a2) + (1 : Int32)) 54 = true then
    (lt ((6 : Int32) * (i 57 ((((6 : Int32) * a2) + (1 : Int32)) : Int32).toNatClampNeg)) fun t1 =>
    if aIn (((6 : Int32) * a2) + (2 : Int32)) n1 = true then
    (lt (i w1 ((((6 : Int32) * a2) + (2 : Int32)) : Int32).toNatClampNeg) fun t2 =>
    if t2 = 1 then (if aIn (((4 : Int32) * a3) + (1 : Int32)) 16 = true then
    (if (i 59 ((((4 : Int32) * a3) + (1 : Int32)) : Int32).toNatClampNeg) = 0 then (some ((t1 / (2 : Int32)))) else (some (((2 : Int32) * t1)))) else none) else (if t2 = 2 then (if a4 = 0 then (some (t1)) else (if aIn (((4 : Int32) * a3) + (3 : Int32)) 16 = true then
    (some ((if (0 : Int32) < (t1 - ((6 : Int32) * (i 59 ((((4 : Int32) * a3) + (3 : Int32)) : Int32).toNatClampNeg))) then (t1 - ((6 : Int32) * (i 59 ((((4 : Int32) * a3) + (3 : Int32)) : Int32).toNatClampNeg))) else (0 : Int32)))) else none)) else (some (t1)))) else none) else none
theorem kX12_waitOf  {w1 : Nat} {n1 : Nat} {vR : Int32} (hX : aX p s m args c RX12 cX12_waitOf 7 D cA A ad0) (hr : meth.sig.returnType = (some .int)) (hlk : meth.locks = false) (hRf : 1 ≤ R.frames) (hRl : 64 * 1 ≤ R.locals) (h1 : sh[w1]? = some (.inl (.int, n1))) {a2 : Int32} {a3 : Int32} {a4 : Int32} (hG : aGood sh rv) (hf : fX12_waitOf w1 n1 a2 a3 a4 i = some (vR)) : aJ p l e R s m args below meth c (MQ below (aPost D cA ad0 A (sh, i0, lo0, rv0) (some (.int vR)) (sh, i, lo, rv)) args s (sh.length - sh.length) (aSn sh - aSn sh) A) D cA A ad0 7 sh.length (aSn sh) 0 [some (.ref (100 + 50)), some (.ref (100 + w1)), some (.int a2), some (.int a3), some (.int a4), none, none] [] (sh, i, lo, rv) := by
  unfold fX12_waitOf at hf
  refine j_bipush hX dX12_waitOf_0 bp_6 ?_
  refine j_aload_n hX dX12_waitOf_2 rfl ?_
  refine j_getR (k := 20) hX kX12 (by decide) fk_X12_43 (rf_50_20 hG) dX12_waitOf_3 (sh_50 hG) rfl ?_
  refine j_bipush hX dX12_waitOf_6 bp_6 ?_
  refine j_iload_n hX dX12_waitOf_8 rfl ?_
  refine jpc (b := 9) rfl ?_
  refine j_imul hX dX12_waitOf_9 ?_
  refine j_iconst hX dX12_waitOf_10 ic_1 ?_
  refine j_iadd hX dX12_waitOf_11 ?_
  obtain ⟨hg, hf⟩ := gd hf
  refine j_iald hX (sh_57 hG) hg dX12_waitOf_12 ?_
  refine j_imul hX dX12_waitOf_13 ?_
  have hf := ltd hf
  refine j_istore hX dX12_waitOf_14 (by decide) rfl ?_
  refine j_aload_n hX dX12_waitOf_16 rfl ?_
  refine j_bipush hX dX12_waitOf_17 bp_6 ?_
  refine j_iload_n hX dX12_waitOf_19 rfl ?_
  refine jpc (b := 20) rfl ?_
  refine j_imul hX dX12_waitOf_20 ?_
  refine j_iconst hX dX12_waitOf_21 ic_2 ?_
  refine j_iadd hX dX12_waitOf_22 ?_
  obtain ⟨hg, hf⟩ := gd hf
  refine j_iald hX h1 hg dX12_waitOf_23 ?_
  have hf := ltd hf
  refine j_istore hX dX12_waitOf_24 (by decide) rfl ?_
  refine j_iload hX dX12_waitOf_26 rfl ?_
  refine j_iconst hX dX12_waitOf_28 ic_1 ?_
  refine j_icmp_ne (tgt := 57) hX dX12_waitOf_29 (by decide) (fun hc => ?_) (fun hc => ?_)
  · have hf := ifn hc hf
    refine j_iload hX dX12_waitOf_57 rfl ?_
    refine j_iconst hX dX12_waitOf_59 ic_2 ?_
    refine j_icmp_ne (tgt := 91) hX dX12_waitOf_60 (by decide) (fun hc => ?_) (fun hc => ?_)
    · have hf := ifn hc hf
      refine j_iload hX dX12_waitOf_91 rfl ?_
      cases hf
      exact j_ret hX hr hlk rfl dX12_waitOf_93
    · have hf := ifp hc hf
      refine j_iload hX dX12_waitOf_63 rfl ?_
      refine j_if_eq (tgt := 91) hX dX12_waitOf_65 (by decide) (fun hc => ?_) (fun hc => ?_)
      · have hf := ifp hc hf
        refine j_iload hX dX12_waitOf_91 rfl ?_
        cases hf
        exact j_ret hX hr hlk rfl dX12_waitOf_93
      · have hf := ifn hc hf
        refine j_iconst hX dX12_waitOf_68 ic_0 ?_
        refine j_iload hX dX12_waitOf_69 rfl ?_
        refine j_bipush hX dX12_waitOf_71 bp_6 ?_
        refine j_aload_n hX dX12_waitOf_73 rfl ?_
        refine j_getR (k := 22) hX kX12 (by decide) fk_X12_49 (rf_50_22 hG) dX12_waitOf_74 (sh_50 hG) rfl ?_
        refine jpc (b := 77) rfl ?_
        refine j_iconst hX dX12_waitOf_77 ic_4 ?_
        refine j_iload_n hX dX12_waitOf_78 rfl ?_
        refine j_imul hX dX12_waitOf_79 ?_
        refine j_iconst hX dX12_waitOf_80 ic_3 ?_
        refine j_iadd hX dX12_waitOf_81 ?_
        obtain ⟨hg, hf⟩ := gd hf
        refine j_iald hX (sh_59 hG) hg dX12_waitOf_82 ?_
        refine j_imul hX dX12_waitOf_83 ?_
        refine j_isub hX dX12_waitOf_84 ?_
        refine j_max hX lk_X12_327 dX12_waitOf_85 ⟨by omega, Nat.le_trans (Nat.le_of_ble_eq_true rfl) hRl⟩ (Nat.le_add_right _ _) (Nat.le_add_right _ _) ?_
        refine j_goto (tgt := 93) hX dX12_waitOf_88 (by decide) ?_
        cases hf
        exact j_ret hX hr hlk rfl dX12_waitOf_93
  · have hf := ifp hc hf
    refine j_aload_n hX dX12_waitOf_32 rfl ?_
    refine j_getR (k := 22) hX kX12 (by decide) fk_X12_49 (rf_50_22 hG) dX12_waitOf_33 (sh_50 hG) rfl ?_
    refine j_iconst hX dX12_waitOf_36 ic_4 ?_
    refine j_iload_n hX dX12_waitOf_37 rfl ?_
    refine j_imul hX dX12_waitOf_38 ?_
    refine jpc (b := 39) rfl ?_
    refine j_iconst hX dX12_waitOf_39 ic_1 ?_
    refine j_iadd hX dX12_waitOf_40 ?_
    obtain ⟨hg, hf⟩ := gd hf
    refine j_iald hX (sh_59 hG) hg dX12_waitOf_41 ?_
    refine j_if_ne (tgt := 52) hX dX12_waitOf_42 (by decide) (fun hc => ?_) (fun hc => ?_)
    · have hf := ifn hc hf
      refine j_iconst hX dX12_waitOf_52 ic_2 ?_
      refine j_iload hX dX12_waitOf_53 rfl ?_
      refine j_imul hX dX12_waitOf_55 ?_
      cases hf
      exact j_ret hX hr hlk rfl dX12_waitOf_56
    · have hf := ifp hc hf
      refine j_iload hX dX12_waitOf_45 rfl ?_
      refine j_iconst hX dX12_waitOf_47 ic_2 ?_
      refine j_idiv hX dX12_waitOf_48 (by decide) ?_
      refine j_goto (tgt := 56) hX dX12_waitOf_49 (by decide) ?_
      cases hf
      exact j_ret hX hr hlk rfl dX12_waitOf_56
theorem okX12_waitOf {l : Launch} {sh : List aSh} {i : Nat → Nat → Int32} {lo : Nat → Nat → Int64} {rv : Nat → Nat → Option Nat}  {w1 : Nat} {n1 : Nat} {a2 : Int32} {a3 : Int32} {a4 : Int32} {vR : Int32} (hG : aGood sh rv) (h1 : sh[w1]? = some (.inl (.int, n1))) (hf : fX12_waitOf w1 n1 a2 a3 a4 i = some (vR)) : aM l yX12_waitOf cX12_waitOf 7 (some .int) 1 [.ref (100 + 50), .ref (100 + w1), .int a2, .int a3, .int a4] (sh, i, lo, rv) (some (.int vR)) (sh, i, lo, rv) :=
  aM_of (by decide) (Nat.le_of_ble_eq_true rfl) (Nat.le_refl _) (Nat.le_refl _) (fun p e s m args below meth c D cA A ad0 hX hr hlk hnm => kX12_waitOf hX hr hlk (Nat.le_refl _) (Nat.le_refl _) h1 hG hf)
def fX12_goBorder_218 (w1 : Nat) (n1 : Nat) (kh25 : Int32 → Int32 → Int32 → (Nat → Nat → Int32) → (Nat → Nat → Option Nat) → Option ((Nat → Nat → Int32) × (Nat → Nat → Option Nat))) (x2 : Int32) (x3 : Int32) (x4 : Int32) (i : Nat → Nat → Int32) (rv : Nat → Nat → Option Nat) : Option ((Nat → Nat → Int32) × (Nat → Nat → Option Nat)) := kh25 x2 x3 (x4 + 1) i rv
theorem kX12_goBorder_218  {w1 : Nat} {n1 : Nat} {iR : Nat → Nat → Int32} {rvR : Nat → Nat → Option Nat} (hX : aX p s m args c RX12 cX12_goBorder 8 D cA A ad0) (hr : meth.sig.returnType = none) (hlk : meth.locks = false) (hRf : 1148 ≤ R.frames) (hRl : 64 * 1148 ≤ R.locals) (h1 : sh[w1]? = some (.inl (.int, n1))) {kh25 : Int32 → Int32 → Int32 → (Nat → Nat → Int32) → (Nat → Nat → Option Nat) → Option ((Nat → Nat → Int32) × (Nat → Nat → Option Nat))} (Hkh25 : ∀ (x2 : Int32) (x3 : Int32) (x4 : Int32) (i : Nat → Nat → Int32) (rv : Nat → Nat → Option Nat), aGood sh rv → kh25 x2 x3 x4 i rv = some (iR, rvR) → aJ p l e R s m args below meth c (MQ below (aPost D cA ad0 A (sh, i0, lo0, rv0) none (sh, iR, lo, rvR)) args s (sh.length - sh.length) (aSn sh - aSn sh) A) D cA A ad0 8 sh.length (aSn sh) 25 [some (.ref (100 + 50)), some (.ref (100 + w1)), some (.int x2), some (.int x3), some (.int x4), none, none, none] [] (sh, i, lo, rv)) {x2 : Int32} {x3 : Int32} {x4 : Int32} (hG : aGood sh rv) (hf : fX12_goBorder_218 w1 n1 kh25 x2 x3 x4 i rv = some (iR, rvR)) : aJ p l e R s m args below meth c (MQ below (aPost D cA ad0 A (sh, i0, lo0, rv0) none (sh, iR, lo, rvR)) args s (sh.length - sh.length) (aSn sh - aSn sh) A) D cA A ad0 8 sh.length (aSn sh) 218 [some (.ref (100 + 50)), some (.ref (100 + w1)), some (.int x2), some (.int x3), some (.int x4), none, none, none] [] (sh, i, lo, rv) := by
  unfold fX12_goBorder_218 at hf
  refine j_iinc hX dX12_goBorder_218 rfl (congrArg (_ + ·) ic_1) (by decide) rfl ?_
  refine j_goto (tgt := 25) hX dX12_goBorder_221 (by decide) ?_
  exact aJx (Hkh25 _ _ _ _ _ hG  hf) (And.intro rfl (And.intro rfl (And.intro rfl (And.intro rfl (And.intro rfl (rfl))))))
theorem gX12_goBorder_218 {w1 : Nat} {n1 : Nat} {iR : Nat → Nat → Int32} {rvR : Nat → Nat → Option Nat} (h1 : sh[w1]? = some (.inl (.int, n1))) {kh25 : Int32 → Int32 → Int32 → (Nat → Nat → Int32) → (Nat → Nat → Option Nat) → Option ((Nat → Nat → Int32) × (Nat → Nat → Option Nat))} (Hkh25 : ∀ (x2 : Int32) (x3 : Int32) (x4 : Int32) (i : Nat → Nat → Int32) (rv : Nat → Nat → Option Nat), aGood sh rv → kh25 x2 x3 x4 i rv = some (iR, rvR) → aGood sh rvR) {x2 : Int32} {x3 : Int32} {x4 : Int32} (hG : aGood sh rv) (hf : fX12_goBorder_218 w1 n1 kh25 x2 x3 x4 i rv = some (iR, rvR)) : aGood sh rvR := by
  unfold fX12_goBorder_218 at hf
  exact Hkh25 _ _ _ _ _ hG  hf
def fX12_goBorder_206 (w1 : Nat) (n1 : Nat) (kh25 : Int32 → Int32 → Int32 → (Nat → Nat → Int32) → (Nat → Nat → Option Nat) → Option ((Nat → Nat → Int32) × (Nat → Nat → Option Nat))) (x2 : Int32) (x3 : Int32) (x4 : Int32) (x5 : Int32) (x7 : Int32) (i : Nat → Nat → Int32) (rv : Nat → Nat → Option Nat) : Option ((Nat → Nat → Int32) × (Nat → Nat → Option Nat)) := lt (u2 i 50 39 x5) fun i19 =>
    lt (u2 i19 50 40 x7) fun i20 =>
    fX12_goBorder_218 w1 n1 kh25 x2 x3 x4 i20 rv
theorem kX12_goBorder_206  {w1 : Nat} {n1 : Nat} {iR : Nat → Nat → Int32} {rvR : Nat → Nat → Option Nat} (hX : aX p s m args c RX12 cX12_goBorder 8 D cA A ad0) (hr : meth.sig.returnType = none) (hlk : meth.locks = false) (hRf : 1148 ≤ R.frames) (hRl : 64 * 1148 ≤ R.locals) (h1 : sh[w1]? = some (.inl (.int, n1))) {kh25 : Int32 → Int32 → Int32 → (Nat → Nat → Int32) → (Nat → Nat → Option Nat) → Option ((Nat → Nat → Int32) × (Nat → Nat → Option Nat))} (Hkh25 : ∀ (x2 : Int32) (x3 : Int32) (x4 : Int32) (i : Nat → Nat → Int32) (rv : Nat → Nat → Option Nat), aGood sh rv → kh25 x2 x3 x4 i rv = some (iR, rvR) → aJ p l e R s m args below meth c (MQ below (aPost D cA ad0 A (sh, i0, lo0, rv0) none (sh, iR, lo, rvR)) args s (sh.length - sh.length) (aSn sh - aSn sh) A) D cA A ad0 8 sh.length (aSn sh) 25 [some (.ref (100 + 50)), some (.ref (100 + w1)), some (.int x2), some (.int x3), some (.int x4), none, none, none] [] (sh, i, lo, rv)) {x2 : Int32} {x3 : Int32} {x4 : Int32} {x5 : Int32} {x7 : Int32} (hG : aGood sh rv) (hf : fX12_goBorder_206 w1 n1 kh25 x2 x3 x4 x5 x7 i rv = some (iR, rvR)) : aJ p l e R s m args below meth c (MQ below (aPost D cA ad0 A (sh, i0, lo0, rv0) none (sh, iR, lo, rvR)) args s (sh.length - sh.length) (aSn sh - aSn sh) A) D cA A ad0 8 sh.length (aSn sh) 206 [some (.ref (100 + 50)), some (.ref (100 + w1)), some (.int x2), some (.int x3), some (.int x4), some (.int x5), none, some (.int x7)] [] (sh, i, lo, rv) := by
  unfold fX12_goBorder_206 at hf
  refine j_aload_n hX dX12_goBorder_206 rfl ?_
  refine j_iload hX dX12_goBorder_207 rfl ?_
  have hf := ltd hf
  refine j_putI (k := 39) hX kX12 (by decide) fk_X12_339 dX12_goBorder_209 (sh_50 hG) rfl rfl rfl rfl ?_
  refine j_aload_n hX dX12_goBorder_212 rfl ?_
  refine j_iload hX dX12_goBorder_213 rfl ?_
  refine jpc (b := 215) rfl ?_
  have hf := ltd hf
  refine j_putI (k := 40) hX kX12 (by decide) fk_X12_342 dX12_goBorder_215 (sh_50 hG) rfl rfl rfl rfl ?_
  exact aJx (kX12_goBorder_218 hX hr hlk hRf hRl h1 Hkh25 hG  hf) (And.intro rfl (And.intro rfl (And.intro rfl (And.intro rfl (And.intro rfl (rfl))))))
theorem gX12_goBorder_206 {w1 : Nat} {n1 : Nat} {iR : Nat → Nat → Int32} {rvR : Nat → Nat → Option Nat} (h1 : sh[w1]? = some (.inl (.int, n1))) {kh25 : Int32 → Int32 → Int32 → (Nat → Nat → Int32) → (Nat → Nat → Option Nat) → Option ((Nat → Nat → Int32) × (Nat → Nat → Option Nat))} (Hkh25 : ∀ (x2 : Int32) (x3 : Int32) (x4 : Int32) (i : Nat → Nat → Int32) (rv : Nat → Nat → Option Nat), aGood sh rv → kh25 x2 x3 x4 i rv = some (iR, rvR) → aGood sh rvR) {x2 : Int32} {x3 : Int32} {x4 : Int32} {x5 : Int32} {x7 : Int32} (hG : aGood sh rv) (hf : fX12_goBorder_206 w1 n1 kh25 x2 x3 x4 x5 x7 i rv = some (iR, rvR)) : aGood sh rvR := by
  unfold fX12_goBorder_206 at hf
  have hf := ltd hf
  have hf := ltd hf
  exact gX12_goBorder_218 h1 Hkh25 hG  hf
def fX12_goBorder_173 (w1 : Nat) (n1 : Nat) (kh25 : Int32 → Int32 → Int32 → (Nat → Nat → Int32) → (Nat → Nat → Option Nat) → Option ((Nat → Nat → Int32) × (Nat → Nat → Option Nat))) (x2 : Int32) (x3 : Int32) (x4 : Int32) (x5 : Int32) (x7 : Int32) (i : Nat → Nat → Int32) (rv : Nat → Nat → Option Nat) : Option ((Nat → Nat → Int32) × (Nat → Nat → Option Nat)) := lt (u2 i 50 37 (if (i 50 37) < x7 then x7 else (i 50 37))) fun i18 =>
    if (i18 50 39) = (-1) then (fX12_goBorder_206 w1 n1 kh25 x2 x3 x4 x5 x7 i18 rv) else (if (i18 50 40) < x7 then (fX12_goBorder_206 w1 n1 kh25 x2 x3 x4 x5 x7 i18 rv) else (fX12_goBorder_218 w1 n1 kh25 x2 x3 x4 i18 rv))
theorem kX12_goBorder_173  {w1 : Nat} {n1 : Nat} {iR : Nat → Nat → Int32} {rvR : Nat → Nat → Option Nat} (hX : aX p s m args c RX12 cX12_goBorder 8 D cA A ad0) (hr : meth.sig.returnType = none) (hlk : meth.locks = false) (hRf : 1148 ≤ R.frames) (hRl : 64 * 1148 ≤ R.locals) (h1 : sh[w1]? = some (.inl (.int, n1))) {kh25 : Int32 → Int32 → Int32 → (Nat → Nat → Int32) → (Nat → Nat → Option Nat) → Option ((Nat → Nat → Int32) × (Nat → Nat → Option Nat))} (Hkh25 : ∀ (x2 : Int32) (x3 : Int32) (x4 : Int32) (i : Nat → Nat → Int32) (rv : Nat → Nat → Option Nat), aGood sh rv → kh25 x2 x3 x4 i rv = some (iR, rvR) → aJ p l e R s m args below meth c (MQ below (aPost D cA ad0 A (sh, i0, lo0, rv0) none (sh, iR, lo, rvR)) args s (sh.length - sh.length) (aSn sh - aSn sh) A) D cA A ad0 8 sh.length (aSn sh) 25 [some (.ref (100 + 50)), some (.ref (100 + w1)), some (.int x2), some (.int x3), some (.int x4), none, none, none] [] (sh, i, lo, rv)) {x2 : Int32} {x3 : Int32} {x4 : Int32} {x5 : Int32} {x7 : Int32} (hG : aGood sh rv) (hf : fX12_goBorder_173 w1 n1 kh25 x2 x3 x4 x5 x7 i rv = some (iR, rvR)) : aJ p l e R s m args below meth c (MQ below (aPost D cA ad0 A (sh, i0, lo0, rv0) none (sh, iR, lo, rvR)) args s (sh.length - sh.length) (aSn sh - aSn sh) A) D cA A ad0 8 sh.length (aSn sh) 173 [some (.ref (100 + 50)), some (.ref (100 + w1)), some (.int x2), some (.int x3), some (.int x4), some (.int x5), none, some (.int x7)] [] (sh, i, lo, rv) := by
  unfold fX12_goBorder_173 at hf
  refine j_aload_n hX dX12_goBorder_173 rfl ?_
  refine j_aload_n hX dX12_goBorder_174 rfl ?_
  refine j_getI (k := 37) hX kX12 (by decide) fk_X12_333 dX12_goBorder_175 (sh_50 hG) rfl ?_
  refine j_iload hX dX12_goBorder_178 rfl ?_
  refine j_max hX lk_X12_327 dX12_goBorder_180 ⟨by omega, Nat.le_trans (Nat.le_of_ble_eq_true rfl) hRl⟩ (Nat.le_add_right _ _) (Nat.le_add_right _ _) ?_
  refine jpc (b := 183) rfl ?_
  have hf := ltd hf
  refine j_putI (k := 37) hX kX12 (by decide) fk_X12_333 dX12_goBorder_183 (sh_50 hG) rfl rfl rfl rfl ?_
  refine j_aload_n hX dX12_goBorder_186 rfl ?_
  refine j_getI (k := 39) hX kX12 (by decide) fk_X12_339 dX12_goBorder_187 (sh_50 hG) rfl ?_
  refine j_iconst hX dX12_goBorder_190 ic_m1 ?_
  refine j_icmp_eq (tgt := 206) hX dX12_goBorder_191 (by decide) (fun hc => ?_) (fun hc => ?_)
  · have hf := ifp hc hf
    exact aJx (kX12_goBorder_206 hX hr hlk hRf hRl h1 Hkh25 hG  hf) (And.intro rfl (And.intro rfl (And.intro rfl (And.intro rfl (And.intro rfl (And.intro rfl (And.intro rfl (rfl))))))))
  · have hf := ifn hc hf
    refine j_iload hX dX12_goBorder_194 rfl ?_
    refine j_aload_n hX dX12_goBorder_196 rfl ?_
    refine j_getI (k := 40) hX kX12 (by decide) fk_X12_342 dX12_goBorder_197 (sh_50 hG) rfl ?_
    refine j_icmp_gt (tgt := 206) hX dX12_goBorder_200 (by decide) (fun hc => ?_) (fun hc => ?_)
    · have hf := ifp hc hf
      exact aJx (kX12_goBorder_206 hX hr hlk hRf hRl h1 Hkh25 hG  hf) (And.intro rfl (And.intro rfl (And.intro rfl (And.intro rfl (And.intro rfl (And.intro rfl (And.intro rfl (rfl))))))))
    · have hf := ifn hc hf
      refine j_goto (tgt := 218) hX dX12_goBorder_203 (by decide) ?_
      exact aJx (kX12_goBorder_218 hX hr hlk hRf hRl h1 Hkh25 hG  hf) (And.intro rfl (And.intro rfl (And.intro rfl (And.intro rfl (And.intro rfl (rfl))))))
theorem gX12_goBorder_173 {w1 : Nat} {n1 : Nat} {iR : Nat → Nat → Int32} {rvR : Nat → Nat → Option Nat} (h1 : sh[w1]? = some (.inl (.int, n1))) {kh25 : Int32 → Int32 → Int32 → (Nat → Nat → Int32) → (Nat → Nat → Option Nat) → Option ((Nat → Nat → Int32) × (Nat → Nat → Option Nat))} (Hkh25 : ∀ (x2 : Int32) (x3 : Int32) (x4 : Int32) (i : Nat → Nat → Int32) (rv : Nat → Nat → Option Nat), aGood sh rv → kh25 x2 x3 x4 i rv = some (iR, rvR) → aGood sh rvR) {x2 : Int32} {x3 : Int32} {x4 : Int32} {x5 : Int32} {x7 : Int32} (hG : aGood sh rv) (hf : fX12_goBorder_173 w1 n1 kh25 x2 x3 x4 x5 x7 i rv = some (iR, rvR)) : aGood sh rvR := by
  unfold fX12_goBorder_173 at hf
  have hf := ltd hf
  refine ifs hf (fun hc hf => ?_) (fun hc hf => ?_)
  · have hf := hf
    exact gX12_goBorder_206 h1 Hkh25 hG  hf
  · have hf := hf
    refine ifs hf (fun hc hf => ?_) (fun hc hf => ?_)
    · have hf := hf
      exact gX12_goBorder_206 h1 Hkh25 hG  hf
    · have hf := hf
      exact gX12_goBorder_218 h1 Hkh25 hG  hf
def fX12_goBorder_139 (w1 : Nat) (n1 : Nat) (kh25 : Int32 → Int32 → Int32 → (Nat → Nat → Int32) → (Nat → Nat → Option Nat) → Option ((Nat → Nat → Int32) × (Nat → Nat → Option Nat))) (x2 : Int32) (x3 : Int32) (x4 : Int32) (x5 : Int32) (s0 : Int32) (s3 : Int32) (s4 : Int32) (s5 : Int32) (i : Nat → Nat → Int32) (rv : Nat → Nat → Option Nat) : Option ((Nat → Nat → Int32) × (Nat → Nat → Option Nat)) := bn1 (fX12_waitOf w1 n1 s3 s4 s5 i) fun v15 =>
    if aIn (((6 : Int32) * x5) + (2 : Int32)) n1 = true then
    (if (i w1 ((((6 : Int32) * x5) + (2 : Int32)) : Int32).toNatClampNeg) = 2 then (if aIn 54 n1 = true then
    (if (i w1 (54 : Int32).toNatClampNeg) ≤ 0 then (fX12_goBorder_173 w1 n1 kh25 x2 x3 x4 x5 (s0 + v15) i rv) else (if aIn 54 n1 = true then
    (if aIn 54 n1 = true then
    (lt (u2 i w1 (54 : Int32).toNatClampNeg ((i w1 (54 : Int32).toNatClampNeg) - (1 : Int32))) fun i17 => fX12_goBorder_173 w1 n1 kh25 x2 x3 x4 x5 (s0 + v15) i17 rv) else none) else none)) else none) else (fX12_goBorder_173 w1 n1 kh25 x2 x3 x4 x5 (s0 + v15) i rv)) else none
theorem kX12_goBorder_139  {w1 : Nat} {n1 : Nat} {iR : Nat → Nat → Int32} {rvR : Nat → Nat → Option Nat} (hX : aX p s m args c RX12 cX12_goBorder 8 D cA A ad0) (hr : meth.sig.returnType = none) (hlk : meth.locks = false) (hRf : 1148 ≤ R.frames) (hRl : 64 * 1148 ≤ R.locals) (h1 : sh[w1]? = some (.inl (.int, n1))) {kh25 : Int32 → Int32 → Int32 → (Nat → Nat → Int32) → (Nat → Nat → Option Nat) → Option ((Nat → Nat → Int32) × (Nat → Nat → Option Nat))} (Hkh25 : ∀ (x2 : Int32) (x3 : Int32) (x4 : Int32) (i : Nat → Nat → Int32) (rv : Nat → Nat → Option Nat), aGood sh rv → kh25 x2 x3 x4 i rv = some (iR, rvR) → aJ p l e R s m args below meth c (MQ below (aPost D cA ad0 A (sh, i0, lo0, rv0) none (sh, iR, lo, rvR)) args s (sh.length - sh.length) (aSn sh - aSn sh) A) D cA A ad0 8 sh.length (aSn sh) 25 [some (.ref (100 + 50)), some (.ref (100 + w1)), some (.int x2), some (.int x3), some (.int x4), none, none, none] [] (sh, i, lo, rv)) {x2 : Int32} {x3 : Int32} {x4 : Int32} {x5 : Int32} {s0 : Int32} {s3 : Int32} {s4 : Int32} {s5 : Int32} (hG : aGood sh rv) (hf : fX12_goBorder_139 w1 n1 kh25 x2 x3 x4 x5 s0 s3 s4 s5 i rv = some (iR, rvR)) : aJ p l e R s m args below meth c (MQ below (aPost D cA ad0 A (sh, i0, lo0, rv0) none (sh, iR, lo, rvR)) args s (sh.length - sh.length) (aSn sh - aSn sh) A) D cA A ad0 8 sh.length (aSn sh) 139 [some (.ref (100 + 50)), some (.ref (100 + w1)), some (.int x2), some (.int x3), some (.int x4), some (.int x5), none, none] [.int s5, .int s4, .int s3, .ref (100 + w1), .ref (100 + 50), .int s0] (sh, i, lo, rv) := by
  unfold fX12_goBorder_139 at hf
  obtain ⟨v15, hh16, hf⟩ := bd1 hf
  refine j_cV4i hX lk_X12_355 kX12 dX12_goBorder_139 (sh_50 hG) (okX12_waitOf hG h1 hh16) rfl rfl (rmm (by omega) hRf hRl (by decide)) (Nat.le_of_ble_eq_true rfl) (Nat.le_add_right _ _) (Nat.le_add_right _ _) ?_
  refine j_iadd hX dX12_goBorder_142 ?_
  refine j_istore hX dX12_goBorder_143 (by decide) rfl ?_
  refine j_aload_n hX dX12_goBorder_145 rfl ?_
  refine j_bipush hX dX12_goBorder_146 bp_6 ?_
  refine jpc (b := 148) rfl ?_
  refine j_iload hX dX12_goBorder_148 rfl ?_
  refine j_imul hX dX12_goBorder_150 ?_
  refine j_iconst hX dX12_goBorder_151 ic_2 ?_
  refine j_iadd hX dX12_goBorder_152 ?_
  obtain ⟨hg, hf⟩ := gd hf
  refine j_iald hX h1 hg dX12_goBorder_153 ?_
  refine j_iconst hX dX12_goBorder_154 ic_2 ?_
  refine j_icmp_ne (tgt := 173) hX dX12_goBorder_155 (by decide) (fun hc => ?_) (fun hc => ?_)
  · have hf := ifn hc hf
    exact aJx (kX12_goBorder_173 hX hr hlk hRf hRl h1 Hkh25 hG  hf) (And.intro rfl (And.intro rfl (And.intro rfl (And.intro rfl (And.intro rfl (And.intro rfl (And.intro rfl (rfl))))))))
  · have hf := ifp hc hf
    refine j_aload_n hX dX12_goBorder_158 rfl ?_
    refine j_bipush hX dX12_goBorder_159 bp_54 ?_
    obtain ⟨hg, hf⟩ := gd hf
    refine j_iald hX h1 hg dX12_goBorder_161 ?_
    refine j_if_le (tgt := 173) hX dX12_goBorder_162 (by decide) (fun hc => ?_) (fun hc => ?_)
    · have hf := ifp hc hf
      exact aJx (kX12_goBorder_173 hX hr hlk hRf hRl h1 Hkh25 hG  hf) (And.intro rfl (And.intro rfl (And.intro rfl (And.intro rfl (And.intro rfl (And.intro rfl (And.intro rfl (rfl))))))))
    · have hf := ifn hc hf
      refine j_aload_n hX dX12_goBorder_165 rfl ?_
      refine j_bipush hX dX12_goBorder_166 bp_54 ?_
      refine j_dup2 hX dX12_goBorder_168 rfl rfl ?_
      obtain ⟨hg, hf⟩ := gd hf
      refine j_iald hX h1 hg dX12_goBorder_169 ?_
      refine j_iconst hX dX12_goBorder_170 ic_1 ?_
      refine j_isub hX dX12_goBorder_171 ?_
      obtain ⟨hg, hf⟩ := gd hf
      have hf := ltd hf
      refine j_iast hX h1 hg dX12_goBorder_172 ?_
      exact aJx (kX12_goBorder_173 hX hr hlk hRf hRl h1 Hkh25 hG  hf) (And.intro rfl (And.intro rfl (And.intro rfl (And.intro rfl (And.intro rfl (And.intro rfl (And.intro rfl (rfl))))))))
theorem gX12_goBorder_139 {w1 : Nat} {n1 : Nat} {iR : Nat → Nat → Int32} {rvR : Nat → Nat → Option Nat} (h1 : sh[w1]? = some (.inl (.int, n1))) {kh25 : Int32 → Int32 → Int32 → (Nat → Nat → Int32) → (Nat → Nat → Option Nat) → Option ((Nat → Nat → Int32) × (Nat → Nat → Option Nat))} (Hkh25 : ∀ (x2 : Int32) (x3 : Int32) (x4 : Int32) (i : Nat → Nat → Int32) (rv : Nat → Nat → Option Nat), aGood sh rv → kh25 x2 x3 x4 i rv = some (iR, rvR) → aGood sh rvR) {x2 : Int32} {x3 : Int32} {x4 : Int32} {x5 : Int32} {s0 : Int32} {s3 : Int32} {s4 : Int32} {s5 : Int32} (hG : aGood sh rv) (hf : fX12_goBorder_139 w1 n1 kh25 x2 x3 x4 x5 s0 s3 s4 s5 i rv = some (iR, rvR)) : aGood sh rvR := by
  unfold fX12_goBorder_139 at hf
  obtain ⟨v15, hh16, hf⟩ := bd1 hf
  obtain ⟨hg, hf⟩ := gd hf
  refine ifs2 hf (fun hc hf => ?_) (fun hc hf => ?_)
  · have hf := hf
    exact gX12_goBorder_173 h1 Hkh25 hG  hf
  · have hf := hf
    obtain ⟨hg, hf⟩ := gd hf
    refine ifs hf (fun hc hf => ?_) (fun hc hf => ?_)
    · have hf := hf
      exact gX12_goBorder_173 h1 Hkh25 hG  hf
    · have hf := hf
      obtain ⟨hg, hf⟩ := gd hf
      obtain ⟨hg, hf⟩ := gd hf
      have hf := ltd hf
      exact gX12_goBorder_173 h1 Hkh25 hG  hf
def fX12_goBorder_98 (w1 : Nat) (n1 : Nat) (kh25 : Int32 → Int32 → Int32 → (Nat → Nat → Int32) → (Nat → Nat → Option Nat) → Option ((Nat → Nat → Int32) × (Nat → Nat → Option Nat))) (x2 : Int32) (x3 : Int32) (x4 : Int32) (x5 : Int32) (x6 : Int32) (i : Nat → Nat → Int32) (rv : Nat → Nat → Option Nat) : Option ((Nat → Nat → Int32) × (Nat → Nat → Option Nat)) := if aIn (((6 : Int32) * x5) + (1 : Int32)) 54 = true then
    (if (i 57 ((((6 : Int32) * x5) + (1 : Int32)) : Int32).toNatClampNeg) = 0 then (fX12_goBorder_218 w1 n1 kh25 x2 (x3 + x6) x4 i rv) else (if aIn 54 n1 = true then
    (if (i w1 (54 : Int32).toNatClampNeg) ≤ 0 then (fX12_goBorder_139 w1 n1 kh25 x2 (x3 + x6) x4 x5 (x3 + x6) x5 x2 0 i rv) else (fX12_goBorder_139 w1 n1 kh25 x2 (x3 + x6) x4 x5 (x3 + x6) x5 x2 1 i rv)) else none)) else none
theorem kX12_goBorder_98  {w1 : Nat} {n1 : Nat} {iR : Nat → Nat → Int32} {rvR : Nat → Nat → Option Nat} (hX : aX p s m args c RX12 cX12_goBorder 8 D cA A ad0) (hr : meth.sig.returnType = none) (hlk : meth.locks = false) (hRf : 1148 ≤ R.frames) (hRl : 64 * 1148 ≤ R.locals) (h1 : sh[w1]? = some (.inl (.int, n1))) {kh25 : Int32 → Int32 → Int32 → (Nat → Nat → Int32) → (Nat → Nat → Option Nat) → Option ((Nat → Nat → Int32) × (Nat → Nat → Option Nat))} (Hkh25 : ∀ (x2 : Int32) (x3 : Int32) (x4 : Int32) (i : Nat → Nat → Int32) (rv : Nat → Nat → Option Nat), aGood sh rv → kh25 x2 x3 x4 i rv = some (iR, rvR) → aJ p l e R s m args below meth c (MQ below (aPost D cA ad0 A (sh, i0, lo0, rv0) none (sh, iR, lo, rvR)) args s (sh.length - sh.length) (aSn sh - aSn sh) A) D cA A ad0 8 sh.length (aSn sh) 25 [some (.ref (100 + 50)), some (.ref (100 + w1)), some (.int x2), some (.int x3), some (.int x4), none, none, none] [] (sh, i, lo, rv)) {x2 : Int32} {x3 : Int32} {x4 : Int32} {x5 : Int32} {x6 : Int32} (hG : aGood sh rv) (hf : fX12_goBorder_98 w1 n1 kh25 x2 x3 x4 x5 x6 i rv = some (iR, rvR)) : aJ p l e R s m args below meth c (MQ below (aPost D cA ad0 A (sh, i0, lo0, rv0) none (sh, iR, lo, rvR)) args s (sh.length - sh.length) (aSn sh - aSn sh) A) D cA A ad0 8 sh.length (aSn sh) 98 [some (.ref (100 + 50)), some (.ref (100 + w1)), some (.int x2), some (.int x3), some (.int x4), some (.int x5), some (.int x6), none] [] (sh, i, lo, rv) := by
  unfold fX12_goBorder_98 at hf
  refine j_iload_n hX dX12_goBorder_98 rfl ?_
  refine j_iload hX dX12_goBorder_99 rfl ?_
  refine j_iadd hX dX12_goBorder_101 ?_
  refine j_istore_n hX dX12_goBorder_102 (by decide) rfl ?_
  refine j_aload_n hX dX12_goBorder_103 rfl ?_
  refine jpc (b := 104) rfl ?_
  refine j_getR (k := 20) hX kX12 (by decide) fk_X12_43 (rf_50_20 hG) dX12_goBorder_104 (sh_50 hG) rfl ?_
  refine j_bipush hX dX12_goBorder_107 bp_6 ?_
  refine j_iload hX dX12_goBorder_109 rfl ?_
  refine j_imul hX dX12_goBorder_111 ?_
  refine j_iconst hX dX12_goBorder_112 ic_1 ?_
  refine j_iadd hX dX12_goBorder_113 ?_
  refine jpc (b := 114) rfl ?_
  obtain ⟨hg, hf⟩ := gd hf
  refine j_iald hX (sh_57 hG) hg dX12_goBorder_114 ?_
  refine j_if_ne (tgt := 121) hX dX12_goBorder_115 (by decide) (fun hc => ?_) (fun hc => ?_)
  · have hf := ifn hc hf
    refine j_iload_n hX dX12_goBorder_121 rfl ?_
    refine j_aload_n hX dX12_goBorder_122 rfl ?_
    refine j_aload_n hX dX12_goBorder_123 rfl ?_
    refine j_iload hX dX12_goBorder_124 rfl ?_
    refine j_iload_n hX dX12_goBorder_126 rfl ?_
    refine jpc (b := 127) rfl ?_
    refine j_aload_n hX dX12_goBorder_127 rfl ?_
    refine j_bipush hX dX12_goBorder_128 bp_54 ?_
    obtain ⟨hg, hf⟩ := gd hf
    refine j_iald hX h1 hg dX12_goBorder_130 ?_
    refine j_if_le (tgt := 138) hX dX12_goBorder_131 (by decide) (fun hc => ?_) (fun hc => ?_)
    · have hf := ifp hc hf
      refine j_iconst hX dX12_goBorder_138 ic_0 ?_
      exact aJx (kX12_goBorder_139 hX hr hlk hRf hRl h1 Hkh25 hG  hf) (And.intro rfl (And.intro rfl (And.intro rfl (And.intro rfl (And.intro rfl (And.intro rfl (rfl)))))))
    · have hf := ifn hc hf
      refine j_iconst hX dX12_goBorder_134 ic_1 ?_
      refine j_goto (tgt := 139) hX dX12_goBorder_135 (by decide) ?_
      exact aJx (kX12_goBorder_139 hX hr hlk hRf hRl h1 Hkh25 hG  hf) (And.intro rfl (And.intro rfl (And.intro rfl (And.intro rfl (And.intro rfl (And.intro rfl (rfl)))))))
  · have hf := ifp hc hf
    refine j_goto (tgt := 218) hX dX12_goBorder_118 (by decide) ?_
    exact aJx (kX12_goBorder_218 hX hr hlk hRf hRl h1 Hkh25 hG  hf) (And.intro rfl (And.intro rfl (And.intro rfl (And.intro rfl (And.intro rfl (rfl))))))
theorem gX12_goBorder_98 {w1 : Nat} {n1 : Nat} {iR : Nat → Nat → Int32} {rvR : Nat → Nat → Option Nat} (h1 : sh[w1]? = some (.inl (.int, n1))) {kh25 : Int32 → Int32 → Int32 → (Nat → Nat → Int32) → (Nat → Nat → Option Nat) → Option ((Nat → Nat → Int32) × (Nat → Nat → Option Nat))} (Hkh25 : ∀ (x2 : Int32) (x3 : Int32) (x4 : Int32) (i : Nat → Nat → Int32) (rv : Nat → Nat → Option Nat), aGood sh rv → kh25 x2 x3 x4 i rv = some (iR, rvR) → aGood sh rvR) {x2 : Int32} {x3 : Int32} {x4 : Int32} {x5 : Int32} {x6 : Int32} (hG : aGood sh rv) (hf : fX12_goBorder_98 w1 n1 kh25 x2 x3 x4 x5 x6 i rv = some (iR, rvR)) : aGood sh rvR := by
  unfold fX12_goBorder_98 at hf
  obtain ⟨hg, hf⟩ := gd hf
  refine ifs2 hf (fun hc hf => ?_) (fun hc hf => ?_)
  · have hf := hf
    obtain ⟨hg, hf⟩ := gd hf
    refine ifs hf (fun hc hf => ?_) (fun hc hf => ?_)
    · have hf := hf
      exact gX12_goBorder_139 h1 Hkh25 hG  hf
    · have hf := hf
      exact gX12_goBorder_139 h1 Hkh25 hG  hf
  · have hf := hf
    exact gX12_goBorder_218 h1 Hkh25 hG  hf
def fX12_goBorder_25 (w1 : Nat) (n1 : Nat) : Nat → Int32 → Int32 → Int32 → (Nat → Nat → Int32) → (Nat → Nat → Option Nat) → Option ((Nat → Nat → Int32) × (Nat → Nat → Option Nat))
  | 0, _, _, _, _, _ => none
  | n + 1, x2, x3, x4, i, rv => if (i 50 28) ≤ x4 then (lt (u2 i 50 37 (if (i 50 37) < x3 then x3 else (i 50 37))) fun i5 =>
    some (i5, rv)) else (bn1 (fX12_paperAt w1 n1 x4 i) fun v6 =>
    bn1 (fX12_turnOf w1 n1 v6 x2 i) fun v8 =>
    if aIn (((4 : Int32) * x2) + (1 : Int32)) 16 = true then
    (if (i 59 ((((4 : Int32) * x2) + (1 : Int32)) : Int32).toNatClampNeg) = 1 then (if aIn (((6 : Int32) * v6) + (3 : Int32)) n1 = true then
    (if (i w1 ((((6 : Int32) * v6) + (3 : Int32)) : Int32).toNatClampNeg) = 1 then (bn3 (fX12_wakes w1 n1 v6 x3 x2 i rv) fun v10 i11 rv12 =>
    lt (u2 i11 50 38 ((i 50 38) + v10)) fun i14 =>
    fX12_goBorder_98 w1 n1 (fX12_goBorder_25 w1 n1 n) x2 x3 x4 v6 v8 i14 rv12) else (fX12_goBorder_98 w1 n1 (fX12_goBorder_25 w1 n1 n) x2 x3 x4 v6 v8 i rv)) else none) else (fX12_goBorder_98 w1 n1 (fX12_goBorder_25 w1 n1 n) x2 x3 x4 v6 v8 i rv)) else none)
theorem kX12_goBorder_25  {w1 : Nat} {n1 : Nat} {iR : Nat → Nat → Int32} {rvR : Nat → Nat → Option Nat} (hX : aX p s m args c RX12 cX12_goBorder 8 D cA A ad0) (hr : meth.sig.returnType = none) (hlk : meth.locks = false) (hRf : 1148 ≤ R.frames) (hRl : 64 * 1148 ≤ R.locals) (h1 : sh[w1]? = some (.inl (.int, n1))) : ∀ (n : Nat) (x2 : Int32) (x3 : Int32) (x4 : Int32) (i : Nat → Nat → Int32) (rv : Nat → Nat → Option Nat), aGood sh rv → fX12_goBorder_25 w1 n1 n x2 x3 x4 i rv = some (iR, rvR) → aJ p l e R s m args below meth c (MQ below (aPost D cA ad0 A (sh, i0, lo0, rv0) none (sh, iR, lo, rvR)) args s (sh.length - sh.length) (aSn sh - aSn sh) A) D cA A ad0 8 sh.length (aSn sh) 25 [some (.ref (100 + 50)), some (.ref (100 + w1)), some (.int x2), some (.int x3), some (.int x4), none, none, none] [] (sh, i, lo, rv) := by
  intro n
  induction n with
  | zero => intros; rename_i hf; cases hf
  | succ n ih =>
    intro x2 x3 x4 i rv hG hf
    rw [fX12_goBorder_25] at hf
    refine j_iload hX dX12_goBorder_25 rfl ?_
    refine j_aload_n hX dX12_goBorder_27 rfl ?_
    refine j_getI (k := 28) hX kX12 (by decide) fk_X12_303 dX12_goBorder_28 (sh_50 hG) rfl ?_
    refine j_icmp_ge (tgt := 224) hX dX12_goBorder_31 (by decide) (fun hc => ?_) (fun hc => ?_)
    · have hf := ifp hc hf
      refine j_aload_n hX dX12_goBorder_224 rfl ?_
      refine j_aload_n hX dX12_goBorder_225 rfl ?_
      refine j_getI (k := 37) hX kX12 (by decide) fk_X12_333 dX12_goBorder_226 (sh_50 hG) rfl ?_
      refine j_iload_n hX dX12_goBorder_229 rfl ?_
      refine j_max hX lk_X12_327 dX12_goBorder_230 ⟨by omega, Nat.le_trans (Nat.le_of_ble_eq_true rfl) hRl⟩ (Nat.le_add_right _ _) (Nat.le_add_right _ _) ?_
      refine jpc (b := 233) rfl ?_
      have hf := ltd hf
      refine j_putI (k := 37) hX kX12 (by decide) fk_X12_333 dX12_goBorder_233 (sh_50 hG) rfl rfl rfl rfl ?_
      cases hf
      exact j_vret hX hr hlk dX12_goBorder_236
    · have hf := ifn hc hf
      refine j_aload_n hX dX12_goBorder_34 rfl ?_
      refine j_aload_n hX dX12_goBorder_35 rfl ?_
      refine j_iload hX dX12_goBorder_36 rfl ?_
      obtain ⟨v6, hh7, hf⟩ := bd1 hf
      refine j_cV2i hX lk_X12_345 kX12 dX12_goBorder_38 (sh_50 hG) (okX12_paperAt hG h1 hh7) rfl rfl (rmm (by omega) hRf hRl (by decide)) (Nat.le_of_ble_eq_true rfl) (Nat.le_add_right _ _) (Nat.le_add_right _ _) ?_
      refine j_istore hX dX12_goBorder_41 (by decide) rfl ?_
      refine jpc (b := 43) rfl ?_
      refine j_aload_n hX dX12_goBorder_43 rfl ?_
      refine j_aload_n hX dX12_goBorder_44 rfl ?_
      refine j_iload hX dX12_goBorder_45 rfl ?_
      refine j_iload_n hX dX12_goBorder_47 rfl ?_
      obtain ⟨v8, hh9, hf⟩ := bd1 hf
      refine j_cV3i hX lk_X12_348 kX12 dX12_goBorder_48 (sh_50 hG) (okX12_turnOf hG h1 hh9) rfl rfl (rmm (by omega) hRf hRl (by decide)) (Nat.le_of_ble_eq_true rfl) (Nat.le_add_right _ _) (Nat.le_add_right _ _) ?_
      refine j_istore hX dX12_goBorder_51 (by decide) rfl ?_
      refine jpc (b := 53) rfl ?_
      refine j_aload_n hX dX12_goBorder_53 rfl ?_
      refine j_getR (k := 22) hX kX12 (by decide) fk_X12_49 (rf_50_22 hG) dX12_goBorder_54 (sh_50 hG) rfl ?_
      refine j_iconst hX dX12_goBorder_57 ic_4 ?_
      refine j_iload_n hX dX12_goBorder_58 rfl ?_
      refine j_imul hX dX12_goBorder_59 ?_
      refine j_iconst hX dX12_goBorder_60 ic_1 ?_
      refine jpc (b := 61) rfl ?_
      refine j_iadd hX dX12_goBorder_61 ?_
      obtain ⟨hg, hf⟩ := gd hf
      refine j_iald hX (sh_59 hG) hg dX12_goBorder_62 ?_
      refine j_iconst hX dX12_goBorder_63 ic_1 ?_
      refine j_icmp_ne (tgt := 98) hX dX12_goBorder_64 (by decide) (fun hc => ?_) (fun hc => ?_)
      · have hf := ifn hc hf
        exact aJx (kX12_goBorder_98 hX hr hlk hRf hRl h1 ih hG  hf) (And.intro rfl (And.intro rfl (And.intro rfl (And.intro rfl (And.intro rfl (And.intro rfl (And.intro rfl (rfl))))))))
      · have hf := ifp hc hf
        refine j_aload_n hX dX12_goBorder_67 rfl ?_
        refine j_bipush hX dX12_goBorder_68 bp_6 ?_
        refine j_iload hX dX12_goBorder_70 rfl ?_
        refine j_imul hX dX12_goBorder_72 ?_
        refine j_iconst hX dX12_goBorder_73 ic_3 ?_
        refine jpc (b := 74) rfl ?_
        refine j_iadd hX dX12_goBorder_74 ?_
        obtain ⟨hg, hf⟩ := gd hf
        refine j_iald hX h1 hg dX12_goBorder_75 ?_
        refine j_iconst hX dX12_goBorder_76 ic_1 ?_
        refine j_icmp_ne (tgt := 98) hX dX12_goBorder_77 (by decide) (fun hc => ?_) (fun hc => ?_)
        · have hf := ifn hc hf
          exact aJx (kX12_goBorder_98 hX hr hlk hRf hRl h1 ih hG  hf) (And.intro rfl (And.intro rfl (And.intro rfl (And.intro rfl (And.intro rfl (And.intro rfl (And.intro rfl (rfl))))))))
        · have hf := ifp hc hf
          refine j_aload_n hX dX12_goBorder_80 rfl ?_
          refine j_dup hX dX12_goBorder_81 rfl ?_
          refine j_getI (k := 38) hX kX12 (by decide) fk_X12_336 dX12_goBorder_82 (sh_50 hG) rfl ?_
          refine j_aload_n hX dX12_goBorder_85 rfl ?_
          refine j_aload_n hX dX12_goBorder_86 rfl ?_
          refine jpc (b := 87) rfl ?_
          refine j_iload hX dX12_goBorder_87 rfl ?_
          refine j_iload_n hX dX12_goBorder_89 rfl ?_
          refine j_iload_n hX dX12_goBorder_90 rfl ?_
          obtain ⟨v10, i11, rv12, hh13, hf⟩ := bd3 hf
          refine j_cV4i hX lk_X12_352 kX12 dX12_goBorder_91 (sh_50 hG) (okX12_wakes hG h1 hh13) rfl rfl (rmm (by omega) hRf hRl (by decide)) (Nat.le_of_ble_eq_true rfl) (Nat.le_add_right _ _) (Nat.le_add_right _ _) ?_
          have hG := gdX12_wakes hG h1 hh13
          refine j_iadd hX dX12_goBorder_94 ?_
          have hf := ltd hf
          refine j_putI (k := 38) hX kX12 (by decide) fk_X12_336 dX12_goBorder_95 (sh_50 hG) rfl rfl rfl rfl ?_
          exact aJx (kX12_goBorder_98 hX hr hlk hRf hRl h1 ih hG  hf) (And.intro rfl (And.intro rfl (And.intro rfl (And.intro rfl (And.intro rfl (And.intro rfl (And.intro rfl (rfl))))))))
theorem gX12_goBorder_25 {w1 : Nat} {n1 : Nat} {iR : Nat → Nat → Int32} {rvR : Nat → Nat → Option Nat} (h1 : sh[w1]? = some (.inl (.int, n1))) : ∀ (n : Nat) (x2 : Int32) (x3 : Int32) (x4 : Int32) (i : Nat → Nat → Int32) (rv : Nat → Nat → Option Nat), aGood sh rv → fX12_goBorder_25 w1 n1 n x2 x3 x4 i rv = some (iR, rvR) → aGood sh rvR := by
  intro n
  induction n with
  | zero => intros; rename_i hf; cases hf
  | succ n ih =>
    intro x2 x3 x4 i rv hG hf
    rw [fX12_goBorder_25] at hf
    refine ifs hf (fun hc hf => ?_) (fun hc hf => ?_)
    · have hf := hf
      have hf := ltd hf
      cases hf
      exact hG
    · have hf := hf
      obtain ⟨v6, hh7, hf⟩ := bd1 hf
      obtain ⟨v8, hh9, hf⟩ := bd1 hf
      obtain ⟨hg, hf⟩ := gd hf
      refine ifs2 hf (fun hc hf => ?_) (fun hc hf => ?_)
      · have hf := hf
        exact gX12_goBorder_98 h1 ih hG  hf
      · have hf := hf
        obtain ⟨hg, hf⟩ := gd hf
        refine ifs2 hf (fun hc hf => ?_) (fun hc hf => ?_)
        · have hf := hf
          exact gX12_goBorder_98 h1 ih hG  hf
        · have hf := hf
          obtain ⟨v10, i11, rv12, hh13, hf⟩ := bd3 hf
          have hG := gdX12_wakes hG h1 hh13
          have hf := ltd hf
          exact gX12_goBorder_98 h1 ih hG  hf
def fX12_goBorder (w1 : Nat) (n1 : Nat) (a2 : Int32) (i : Nat → Nat → Int32) (rv : Nat → Nat → Option Nat) : Option ((Nat → Nat → Int32) × (Nat → Nat → Option Nat)) := lt (u2 i 50 37 0) fun i1 =>
    lt (u2 i1 50 38 0) fun i2 =>
    lt (u2 i2 50 39 (-1)) fun i3 =>
    lt (u2 i3 50 40 0) fun i4 =>
    fX12_goBorder_25 w1 n1 fuel a2 0 0 i4 rv
theorem kX12_goBorder  {w1 : Nat} {n1 : Nat} {iR : Nat → Nat → Int32} {rvR : Nat → Nat → Option Nat} (hX : aX p s m args c RX12 cX12_goBorder 8 D cA A ad0) (hr : meth.sig.returnType = none) (hlk : meth.locks = false) (hRf : 1148 ≤ R.frames) (hRl : 64 * 1148 ≤ R.locals) (h1 : sh[w1]? = some (.inl (.int, n1))) {a2 : Int32} (hG : aGood sh rv) (hf : fX12_goBorder w1 n1 a2 i rv = some (iR, rvR)) : aJ p l e R s m args below meth c (MQ below (aPost D cA ad0 A (sh, i0, lo0, rv0) none (sh, iR, lo, rvR)) args s (sh.length - sh.length) (aSn sh - aSn sh) A) D cA A ad0 8 sh.length (aSn sh) 0 [some (.ref (100 + 50)), some (.ref (100 + w1)), some (.int a2), none, none, none, none, none] [] (sh, i, lo, rv) := by
  unfold fX12_goBorder at hf
  refine j_iconst hX dX12_goBorder_0 ic_0 ?_
  refine j_istore_n hX dX12_goBorder_1 (by decide) rfl ?_
  refine j_aload_n hX dX12_goBorder_2 rfl ?_
  refine j_iconst hX dX12_goBorder_3 ic_0 ?_
  have hf := ltd hf
  refine j_putI (k := 37) hX kX12 (by decide) fk_X12_333 dX12_goBorder_4 (sh_50 hG) rfl rfl rfl rfl ?_
  refine jpc (b := 7) rfl ?_
  refine j_aload_n hX dX12_goBorder_7 rfl ?_
  refine j_iconst hX dX12_goBorder_8 ic_0 ?_
  have hf := ltd hf
  refine j_putI (k := 38) hX kX12 (by decide) fk_X12_336 dX12_goBorder_9 (sh_50 hG) rfl rfl rfl rfl ?_
  refine j_aload_n hX dX12_goBorder_12 rfl ?_
  refine j_iconst hX dX12_goBorder_13 ic_m1 ?_
  have hf := ltd hf
  refine j_putI (k := 39) hX kX12 (by decide) fk_X12_339 dX12_goBorder_14 (sh_50 hG) rfl rfl rfl rfl ?_
  refine jpc (b := 17) rfl ?_
  refine j_aload_n hX dX12_goBorder_17 rfl ?_
  refine j_iconst hX dX12_goBorder_18 ic_0 ?_
  have hf := ltd hf
  refine j_putI (k := 40) hX kX12 (by decide) fk_X12_342 dX12_goBorder_19 (sh_50 hG) rfl rfl rfl rfl ?_
  refine j_iconst hX dX12_goBorder_22 ic_0 ?_
  refine j_istore hX dX12_goBorder_23 (by decide) rfl ?_
  exact aJx (kX12_goBorder_25 hX hr hlk hRf hRl h1 fuel _ _ _ _ _ hG  hf) (And.intro rfl (And.intro rfl (And.intro rfl (And.intro rfl (And.intro rfl (rfl))))))
theorem gdX12_goBorder {w1 : Nat} {n1 : Nat} {iR : Nat → Nat → Int32} {rvR : Nat → Nat → Option Nat} {a2 : Int32} (hG : aGood sh rv) (h1 : sh[w1]? = some (.inl (.int, n1))) (hf : fX12_goBorder w1 n1 a2 i rv = some (iR, rvR)) : aGood sh rvR := by
  unfold fX12_goBorder at hf
  have hf := ltd hf
  have hf := ltd hf
  have hf := ltd hf
  have hf := ltd hf
  exact gX12_goBorder_25 h1 fuel _ _ _ _ _ hG  hf
theorem okX12_goBorder {l : Launch} {sh : List aSh} {i : Nat → Nat → Int32} {lo : Nat → Nat → Int64} {rv : Nat → Nat → Option Nat}  {w1 : Nat} {n1 : Nat} {a2 : Int32} {iR : Nat → Nat → Int32} {rvR : Nat → Nat → Option Nat} (hG : aGood sh rv) (h1 : sh[w1]? = some (.inl (.int, n1))) (hf : fX12_goBorder w1 n1 a2 i rv = some (iR, rvR)) : aM l yX12_goBorder cX12_goBorder 8 none 1148 [.ref (100 + 50), .ref (100 + w1), .int a2] (sh, i, lo, rv) none (sh, iR, lo, rvR) :=
  aM_of (by decide) (Nat.le_of_ble_eq_true rfl) (Nat.le_refl _) (Nat.le_refl _) (fun p e s m args below meth c D cA A ad0 hX hr hlk hnm => kX12_goBorder hX hr hlk (Nat.le_refl _) (Nat.le_refl _) h1 hG hf)
def fX12_tryBorder (a1 : Int32) (i : Nat → Nat → Int32) (rv : Nat → Nat → Option Nat) : Option ((Nat → Nat → Int32) × (Nat → Nat → Option Nat)) := bn1 (fX12_copy 63 296 64 296 i) fun i1 =>
    bn2 (fX12_goBorder 64 296 a1 i1 rv) fun i3 rv4 =>
    some (i3, rv4)
theorem kX12_tryBorder  {iR : Nat → Nat → Int32} {rvR : Nat → Nat → Option Nat} (hX : aX p s m args c RX12 cX12_tryBorder 2 D cA A ad0) (hr : meth.sig.returnType = none) (hlk : meth.locks = false) (hRf : 1149 ≤ R.frames) (hRl : 64 * 1149 ≤ R.locals) {a1 : Int32} (hG : aGood sh rv) (hf : fX12_tryBorder a1 i rv = some (iR, rvR)) : aJ p l e R s m args below meth c (MQ below (aPost D cA ad0 A (sh, i0, lo0, rv0) none (sh, iR, lo, rvR)) args s (sh.length - sh.length) (aSn sh - aSn sh) A) D cA A ad0 2 sh.length (aSn sh) 0 [some (.ref (100 + 50)), some (.int a1)] [] (sh, i, lo, rv) := by
  unfold fX12_tryBorder at hf
  refine j_aload_n hX dX12_tryBorder_0 rfl ?_
  refine j_getR (k := 33) hX kX12 (by decide) fk_X12_61 (rf_50_33 hG) dX12_tryBorder_1 (sh_50 hG) rfl ?_
  refine j_aload_n hX dX12_tryBorder_4 rfl ?_
  refine j_getR (k := 34) hX kX12 (by decide) fk_X12_64 (rf_50_34 hG) dX12_tryBorder_5 (sh_50 hG) rfl ?_
  obtain ⟨i1, hh2, hf⟩ := bd1 hf
  refine j_cS2v hX lk_X12_359 dX12_tryBorder_8 (okX12_copy hG (sh_63 hG) (sh_64 hG) hh2) rfl rfl (rmm (by omega) hRf hRl (by decide)) (Nat.le_of_ble_eq_true rfl) (Nat.le_add_right _ _) (Nat.le_add_right _ _) ?_
  refine jpc (b := 11) rfl ?_
  refine j_aload_n hX dX12_tryBorder_11 rfl ?_
  refine j_aload_n hX dX12_tryBorder_12 rfl ?_
  refine j_getR (k := 34) hX kX12 (by decide) fk_X12_64 (rf_50_34 hG) dX12_tryBorder_13 (sh_50 hG) rfl ?_
  refine j_iload_n hX dX12_tryBorder_16 rfl ?_
  obtain ⟨i3, rv4, hh5, hf⟩ := bd2 hf
  refine j_cV2v hX lk_X12_363 kX12 dX12_tryBorder_17 (sh_50 hG) (okX12_goBorder hG (sh_64 hG) hh5) rfl rfl (rmm (by omega) hRf hRl (by decide)) (Nat.le_of_ble_eq_true rfl) (Nat.le_add_right _ _) (Nat.le_add_right _ _) ?_
  have hG := gdX12_goBorder hG (sh_64 hG) hh5
  cases hf
  exact j_vret hX hr hlk dX12_tryBorder_20
theorem gdX12_tryBorder {iR : Nat → Nat → Int32} {rvR : Nat → Nat → Option Nat} {a1 : Int32} (hG : aGood sh rv) (hf : fX12_tryBorder a1 i rv = some (iR, rvR)) : aGood sh rvR := by
  unfold fX12_tryBorder at hf
  obtain ⟨i1, hh2, hf⟩ := bd1 hf
  obtain ⟨i3, rv4, hh5, hf⟩ := bd2 hf
  have hG := gdX12_goBorder hG (sh_64 hG) hh5
  cases hf
  exact hG
theorem okX12_tryBorder {l : Launch} {sh : List aSh} {i : Nat → Nat → Int32} {lo : Nat → Nat → Int64} {rv : Nat → Nat → Option Nat}  {a1 : Int32} {iR : Nat → Nat → Int32} {rvR : Nat → Nat → Option Nat} (hG : aGood sh rv) (hf : fX12_tryBorder a1 i rv = some (iR, rvR)) : aM l yX12_tryBorder cX12_tryBorder 2 none 1149 [.ref (100 + 50), .int a1] (sh, i, lo, rv) none (sh, iR, lo, rvR) :=
  aM_of (by decide) (Nat.le_of_ble_eq_true rfl) (Nat.le_refl _) (Nat.le_refl _) (fun p e s m args below meth c D cA A ad0 hX hr hlk hnm => kX12_tryBorder hX hr hlk (Nat.le_refl _) (Nat.le_refl _) hG hf)
def fX12_isLate (a1 : Int32) (i : Nat → Nat → Int32) : Option ((Int32)) := if aIn 0 4 = true then
    (if a1 ≤ ((6 : Int32) * (i 55 (0 : Int32).toNatClampNeg)) then (some (0)) else (some (1))) else none
theorem kX12_isLate  {vR : Int32} (hX : aX p s m args c RX12 cX12_isLate 2 D cA A ad0) (hr : meth.sig.returnType = (some .boolean)) (hlk : meth.locks = false) (hRf : 0 ≤ R.frames) (hRl : 64 * 0 ≤ R.locals) {a1 : Int32} (hG : aGood sh rv) (hf : fX12_isLate a1 i = some (vR)) : aJ p l e R s m args below meth c (MQ below (aPost D cA ad0 A (sh, i0, lo0, rv0) (some (.int vR)) (sh, i, lo, rv)) args s (sh.length - sh.length) (aSn sh - aSn sh) A) D cA A ad0 2 sh.length (aSn sh) 0 [some (.ref (100 + 50)), some (.int a1)] [] (sh, i, lo, rv) := by
  unfold fX12_isLate at hf
  refine j_iload_n hX dX12_isLate_0 rfl ?_
  refine j_bipush hX dX12_isLate_1 bp_6 ?_
  refine j_aload_n hX dX12_isLate_3 rfl ?_
  refine j_getR (k := 18) hX kX12 (by decide) fk_X12_37 (rf_50_18 hG) dX12_isLate_4 (sh_50 hG) rfl ?_
  refine j_iconst hX dX12_isLate_7 ic_0 ?_
  refine jpc (b := 8) rfl ?_
  obtain ⟨hg, hf⟩ := gd hf
  refine j_iald hX (sh_55 hG) hg dX12_isLate_8 ?_
  refine j_imul hX dX12_isLate_9 ?_
  refine j_icmp_le (tgt := 17) hX dX12_isLate_10 (by decide) (fun hc => ?_) (fun hc => ?_)
  · have hf := ifp hc hf
    refine j_iconst hX dX12_isLate_17 ic_0 ?_
    cases hf
    exact j_ret hX hr hlk rfl dX12_isLate_18
  · have hf := ifn hc hf
    refine j_iconst hX dX12_isLate_13 ic_1 ?_
    refine j_goto (tgt := 18) hX dX12_isLate_14 (by decide) ?_
    cases hf
    exact j_ret hX hr hlk rfl dX12_isLate_18
theorem okX12_isLate {l : Launch} {sh : List aSh} {i : Nat → Nat → Int32} {lo : Nat → Nat → Int64} {rv : Nat → Nat → Option Nat}  {a1 : Int32} {vR : Int32} (hG : aGood sh rv) (hf : fX12_isLate a1 i = some (vR)) : aM l yX12_isLate cX12_isLate 2 (some .boolean) 0 [.ref (100 + 50), .int a1] (sh, i, lo, rv) (some (.int vR)) (sh, i, lo, rv) :=
  aM_of (by decide) (Nat.le_of_ble_eq_true rfl) (Nat.le_refl _) (Nat.le_refl _) (fun p e s m args below meth c D cA A ad0 hX hr hlk hnm => kX12_isLate hX hr hlk (Nat.le_refl _) (Nat.le_refl _) hG hf)
def fX12_rule (a1 : Int32) (i : Nat → Nat → Int32) : Option ((Int32) × (Nat → Nat → Int32)) := lt (u2 i 50 0 0) fun i1 =>
    if (i1 50 26) ≤ 0 then (some ((-1), i1)) else (bn1 (fX12_isIn (a1 : Int32).toInt64 0 3) fun v2 =>
    if v2 = 0 then (some ((-1), i1)) else (if a1 = 2 then (if aIn 54 296 = true then
    (some ((i1 63 (54 : Int32).toNatClampNeg), i1)) else none) else (if aIn a1 4 = true then
    (some ((i1 55 (a1 : Int32).toNatClampNeg), i1)) else none)))
theorem kX12_rule  {vR : Int32} {iR : Nat → Nat → Int32} (hX : aX p s m args c RX12 cX12_rule 2 D cA A ad0) (hr : meth.sig.returnType = (some .int)) (hlk : meth.locks = false) (hRf : 1 ≤ R.frames) (hRl : 64 * 1 ≤ R.locals) {a1 : Int32} (hG : aGood sh rv) (hf : fX12_rule a1 i = some (vR, iR)) : aJ p l e R s m args below meth c (MQ below (aPost D cA ad0 A (sh, i0, lo0, rv0) (some (.int vR)) (sh, iR, lo, rv)) args s (sh.length - sh.length) (aSn sh - aSn sh) A) D cA A ad0 2 sh.length (aSn sh) 0 [some (.ref (100 + 50)), some (.int a1)] [] (sh, i, lo, rv) := by
  unfold fX12_rule at hf
  refine j_aload_n hX dX12_rule_0 rfl ?_
  refine j_iconst hX dX12_rule_1 ic_0 ?_
  have hf := ltd hf
  refine j_putI (k := 0) hX kX12 (by decide) fk_X12_99 dX12_rule_2 (sh_50 hG) rfl rfl rfl rfl ?_
  refine j_aload_n hX dX12_rule_5 rfl ?_
  refine j_getI (k := 26) hX kX12 (by decide) fk_X12_297 dX12_rule_6 (sh_50 hG) rfl ?_
  refine jpc (b := 9) rfl ?_
  refine j_if_le (tgt := 48) hX dX12_rule_9 (by decide) (fun hc => ?_) (fun hc => ?_)
  · have hf := ifp hc hf
    refine j_iconst hX dX12_rule_48 ic_m1 ?_
    cases hf
    exact j_ret hX hr hlk rfl dX12_rule_49
  · have hf := ifn hc hf
    refine j_iload_n hX dX12_rule_12 rfl ?_
    refine j_i2l hX dX12_rule_13 ?_
    refine j_lconst (v := 0) hX dX12_rule_14 (by decide) ?_
    refine j_ldc2_w hX kc_X12_367 dX12_rule_15 ?_
    obtain ⟨v2, hh3, hf⟩ := bd1 hf
    refine j_cS3i hX lk_X12_220 dX12_rule_18 (okX12_isIn hG hh3) rfl rfl (rmm (by omega) hRf hRl (by decide)) (Nat.le_of_ble_eq_true rfl) (Nat.le_add_right _ _) (Nat.le_add_right _ _) ?_
    refine jpc (b := 21) rfl ?_
    refine j_if_eq (tgt := 48) hX dX12_rule_21 (by decide) (fun hc => ?_) (fun hc => ?_)
    · have hf := ifp hc hf
      refine j_iconst hX dX12_rule_48 ic_m1 ?_
      cases hf
      exact j_ret hX hr hlk rfl dX12_rule_49
    · have hf := ifn hc hf
      refine j_iload_n hX dX12_rule_24 rfl ?_
      refine j_iconst hX dX12_rule_25 ic_2 ?_
      refine j_icmp_ne (tgt := 39) hX dX12_rule_26 (by decide) (fun hc => ?_) (fun hc => ?_)
      · have hf := ifn hc hf
        refine j_aload_n hX dX12_rule_39 rfl ?_
        refine j_getR (k := 18) hX kX12 (by decide) fk_X12_37 (rf_50_18 hG) dX12_rule_40 (sh_50 hG) rfl ?_
        refine j_iload_n hX dX12_rule_43 rfl ?_
        obtain ⟨hg, hf⟩ := gd hf
        refine j_iald hX (sh_55 hG) hg dX12_rule_44 ?_
        refine j_goto (tgt := 49) hX dX12_rule_45 (by decide) ?_
        cases hf
        exact j_ret hX hr hlk rfl dX12_rule_49
      · have hf := ifp hc hf
        refine j_aload_n hX dX12_rule_29 rfl ?_
        refine j_getR (k := 33) hX kX12 (by decide) fk_X12_61 (rf_50_33 hG) dX12_rule_30 (sh_50 hG) rfl ?_
        refine j_bipush hX dX12_rule_33 bp_54 ?_
        obtain ⟨hg, hf⟩ := gd hf
        refine j_iald hX (sh_63 hG) hg dX12_rule_35 ?_
        refine j_goto (tgt := 49) hX dX12_rule_36 (by decide) ?_
        cases hf
        exact j_ret hX hr hlk rfl dX12_rule_49
theorem okX12_rule {l : Launch} {sh : List aSh} {i : Nat → Nat → Int32} {lo : Nat → Nat → Int64} {rv : Nat → Nat → Option Nat}  {a1 : Int32} {vR : Int32} {iR : Nat → Nat → Int32} (hG : aGood sh rv) (hf : fX12_rule a1 i = some (vR, iR)) : aM l yX12_rule cX12_rule 2 (some .int) 1 [.ref (100 + 50), .int a1] (sh, i, lo, rv) (some (.int vR)) (sh, iR, lo, rv) :=
  aM_of (by decide) (Nat.le_of_ble_eq_true rfl) (Nat.le_refl _) (Nat.le_refl _) (fun p e s m args below meth c D cA A ad0 hX hr hlk hnm => kX12_rule hX hr hlk (Nat.le_refl _) (Nat.le_refl _) hG hf)
def fX12_sleeper_26 (x1 : Int32) (x2 : Int32) (s1 : Int32) (i : Nat → Nat → Int32) : Option ((Int32) × (Nat → Nat → Int32)) := lt (u2 i 50 0 s1) fun i5 =>
    if (i5 50 0) ≤ 0 then (if 6 ≤ x2 then (if x2 = 10 then (if aIn (((6 : Int32) * x1) + (5 : Int32)) 296 = true then
    (some ((i5 63 ((((6 : Int32) * x1) + (5 : Int32)) : Int32).toNatClampNeg), i5)) else none) else (if aIn ((((6 : Int32) * x1) + x2) - (6 : Int32)) 296 = true then
    (some ((i5 63 (((((6 : Int32) * x1) + x2) - (6 : Int32)) : Int32).toNatClampNeg), i5)) else none)) else (if aIn (((6 : Int32) * x1) + x2) 54 = true then
    (some ((i5 57 ((((6 : Int32) * x1) + x2) : Int32).toNatClampNeg), i5)) else none)) else (some (0, i5))
theorem kX12_sleeper_26  {vR : Int32} {iR : Nat → Nat → Int32} (hX : aX p s m args c RX12 cX12_sleeper 3 D cA A ad0) (hr : meth.sig.returnType = (some .int)) (hlk : meth.locks = false) (hRf : 1 ≤ R.frames) (hRl : 64 * 1 ≤ R.locals) {x1 : Int32} {x2 : Int32} {s1 : Int32} (hG : aGood sh rv) (hf : fX12_sleeper_26 x1 x2 s1 i = some (vR, iR)) : aJ p l e R s m args below meth c (MQ below (aPost D cA ad0 A (sh, i0, lo0, rv0) (some (.int vR)) (sh, iR, lo, rv)) args s (sh.length - sh.length) (aSn sh - aSn sh) A) D cA A ad0 3 sh.length (aSn sh) 26 [some (.ref (100 + 50)), some (.int x1), some (.int x2)] [.int s1, .ref (100 + 50)] (sh, i, lo, rv) := by
  unfold fX12_sleeper_26 at hf
  have hf := ltd hf
  refine j_putI (k := 0) hX kX12 (by decide) fk_X12_99 dX12_sleeper_26 (sh_50 hG) rfl rfl rfl rfl ?_
  refine j_aload_n hX dX12_sleeper_29 rfl ?_
  refine j_getI (k := 0) hX kX12 (by decide) fk_X12_99 dX12_sleeper_30 (sh_50 hG) rfl ?_
  refine j_if_le (tgt := 38) hX dX12_sleeper_33 (by decide) (fun hc => ?_) (fun hc => ?_)
  · have hf := ifp hc hf
    refine j_iload_n hX dX12_sleeper_38 rfl ?_
    refine j_bipush hX dX12_sleeper_39 bp_6 ?_
    refine j_icmp_ge (tgt := 56) hX dX12_sleeper_41 (by decide) (fun hc => ?_) (fun hc => ?_)
    · have hf := ifp hc hf
      refine j_iload_n hX dX12_sleeper_56 rfl ?_
      refine j_bipush hX dX12_sleeper_57 bp_10 ?_
      refine j_icmp_ne (tgt := 76) hX dX12_sleeper_59 (by decide) (fun hc => ?_) (fun hc => ?_)
      · have hf := ifn hc hf
        refine j_aload_n hX dX12_sleeper_76 rfl ?_
        refine j_getR (k := 33) hX kX12 (by decide) fk_X12_61 (rf_50_33 hG) dX12_sleeper_77 (sh_50 hG) rfl ?_
        refine j_bipush hX dX12_sleeper_80 bp_6 ?_
        refine j_iload_n hX dX12_sleeper_82 rfl ?_
        refine j_imul hX dX12_sleeper_83 ?_
        refine jpc (b := 84) rfl ?_
        refine j_iload_n hX dX12_sleeper_84 rfl ?_
        refine j_iadd hX dX12_sleeper_85 ?_
        refine j_bipush hX dX12_sleeper_86 bp_6 ?_
        refine j_isub hX dX12_sleeper_88 ?_
        obtain ⟨hg, hf⟩ := gd hf
        refine j_iald hX (sh_63 hG) hg dX12_sleeper_89 ?_
        cases hf
        exact j_ret hX hr hlk rfl dX12_sleeper_90
      · have hf := ifp hc hf
        refine j_aload_n hX dX12_sleeper_62 rfl ?_
        refine j_getR (k := 33) hX kX12 (by decide) fk_X12_61 (rf_50_33 hG) dX12_sleeper_63 (sh_50 hG) rfl ?_
        refine j_bipush hX dX12_sleeper_66 bp_6 ?_
        refine j_iload_n hX dX12_sleeper_68 rfl ?_
        refine j_imul hX dX12_sleeper_69 ?_
        refine jpc (b := 70) rfl ?_
        refine j_iconst hX dX12_sleeper_70 ic_5 ?_
        refine j_iadd hX dX12_sleeper_71 ?_
        obtain ⟨hg, hf⟩ := gd hf
        refine j_iald hX (sh_63 hG) hg dX12_sleeper_72 ?_
        refine j_goto (tgt := 90) hX dX12_sleeper_73 (by decide) ?_
        cases hf
        exact j_ret hX hr hlk rfl dX12_sleeper_90
    · have hf := ifn hc hf
      refine j_aload_n hX dX12_sleeper_44 rfl ?_
      refine j_getR (k := 20) hX kX12 (by decide) fk_X12_43 (rf_50_20 hG) dX12_sleeper_45 (sh_50 hG) rfl ?_
      refine j_bipush hX dX12_sleeper_48 bp_6 ?_
      refine j_iload_n hX dX12_sleeper_50 rfl ?_
      refine j_imul hX dX12_sleeper_51 ?_
      refine jpc (b := 52) rfl ?_
      refine j_iload_n hX dX12_sleeper_52 rfl ?_
      refine j_iadd hX dX12_sleeper_53 ?_
      obtain ⟨hg, hf⟩ := gd hf
      refine j_iald hX (sh_57 hG) hg dX12_sleeper_54 ?_
      cases hf
      exact j_ret hX hr hlk rfl dX12_sleeper_55
  · have hf := ifn hc hf
    refine j_iconst hX dX12_sleeper_36 ic_0 ?_
    cases hf
    exact j_ret hX hr hlk rfl dX12_sleeper_37
def fX12_sleeper_25 (x1 : Int32) (x2 : Int32) (i : Nat → Nat → Int32) : Option ((Int32) × (Nat → Nat → Int32)) := fX12_sleeper_26 x1 x2 1 i
theorem kX12_sleeper_25  {vR : Int32} {iR : Nat → Nat → Int32} (hX : aX p s m args c RX12 cX12_sleeper 3 D cA A ad0) (hr : meth.sig.returnType = (some .int)) (hlk : meth.locks = false) (hRf : 1 ≤ R.frames) (hRl : 64 * 1 ≤ R.locals) {x1 : Int32} {x2 : Int32} (hG : aGood sh rv) (hf : fX12_sleeper_25 x1 x2 i = some (vR, iR)) : aJ p l e R s m args below meth c (MQ below (aPost D cA ad0 A (sh, i0, lo0, rv0) (some (.int vR)) (sh, iR, lo, rv)) args s (sh.length - sh.length) (aSn sh - aSn sh) A) D cA A ad0 3 sh.length (aSn sh) 25 [some (.ref (100 + 50)), some (.int x1), some (.int x2)] [.ref (100 + 50)] (sh, i, lo, rv) := by
  unfold fX12_sleeper_25 at hf
  refine j_iconst hX dX12_sleeper_25 ic_1 ?_
  exact aJx (kX12_sleeper_26 hX hr hlk hRf hRl hG  hf) (And.intro rfl (And.intro rfl (And.intro rfl (rfl))))
def fX12_sleeper (a1 : Int32) (a2 : Int32) (i : Nat → Nat → Int32) : Option ((Int32) × (Nat → Nat → Int32)) := bn1 (fX12_isSleeper a1 i) fun v1 =>
    if v1 = 0 then (fX12_sleeper_25 a1 a2 i) else (bn1 (fX12_isIn (a2 : Int32).toInt64 0 10) fun v3 =>
    if v3 = 0 then (fX12_sleeper_25 a1 a2 i) else (fX12_sleeper_26 a1 a2 0 i))
theorem kX12_sleeper  {vR : Int32} {iR : Nat → Nat → Int32} (hX : aX p s m args c RX12 cX12_sleeper 3 D cA A ad0) (hr : meth.sig.returnType = (some .int)) (hlk : meth.locks = false) (hRf : 1 ≤ R.frames) (hRl : 64 * 1 ≤ R.locals) {a1 : Int32} {a2 : Int32} (hG : aGood sh rv) (hf : fX12_sleeper a1 a2 i = some (vR, iR)) : aJ p l e R s m args below meth c (MQ below (aPost D cA ad0 A (sh, i0, lo0, rv0) (some (.int vR)) (sh, iR, lo, rv)) args s (sh.length - sh.length) (aSn sh - aSn sh) A) D cA A ad0 3 sh.length (aSn sh) 0 [some (.ref (100 + 50)), some (.int a1), some (.int a2)] [] (sh, i, lo, rv) := by
  unfold fX12_sleeper at hf
  refine j_aload_n hX dX12_sleeper_0 rfl ?_
  refine j_aload_n hX dX12_sleeper_1 rfl ?_
  refine j_iload_n hX dX12_sleeper_2 rfl ?_
  obtain ⟨v1, hh2, hf⟩ := bd1 hf
  refine j_cV1i hX lk_X12_369 kX12 dX12_sleeper_3 (sh_50 hG) (okX12_isSleeper hG hh2) rfl rfl (rmm (by omega) hRf hRl (by decide)) (Nat.le_of_ble_eq_true rfl) (Nat.le_add_right _ _) (Nat.le_add_right _ _) ?_
  refine j_if_eq (tgt := 25) hX dX12_sleeper_6 (by decide) (fun hc => ?_) (fun hc => ?_)
  · have hf := ifp hc hf
    exact aJx (kX12_sleeper_25 hX hr hlk hRf hRl hG  hf) (And.intro rfl (And.intro rfl (And.intro rfl (rfl))))
  · have hf := ifn hc hf
    refine j_iload_n hX dX12_sleeper_9 rfl ?_
    refine j_i2l hX dX12_sleeper_10 ?_
    refine j_lconst (v := 0) hX dX12_sleeper_11 (by decide) ?_
    refine j_ldc2_w hX kc_X12_372 dX12_sleeper_12 ?_
    obtain ⟨v3, hh4, hf⟩ := bd1 hf
    refine j_cS3i hX lk_X12_220 dX12_sleeper_15 (okX12_isIn hG hh4) rfl rfl (rmm (by omega) hRf hRl (by decide)) (Nat.le_of_ble_eq_true rfl) (Nat.le_add_right _ _) (Nat.le_add_right _ _) ?_
    refine jpc (b := 18) rfl ?_
    refine j_if_eq (tgt := 25) hX dX12_sleeper_18 (by decide) (fun hc => ?_) (fun hc => ?_)
    · have hf := ifp hc hf
      exact aJx (kX12_sleeper_25 hX hr hlk hRf hRl hG  hf) (And.intro rfl (And.intro rfl (And.intro rfl (rfl))))
    · have hf := ifn hc hf
      refine j_iconst hX dX12_sleeper_21 ic_0 ?_
      refine j_goto (tgt := 26) hX dX12_sleeper_22 (by decide) ?_
      exact aJx (kX12_sleeper_26 hX hr hlk hRf hRl hG  hf) (And.intro rfl (And.intro rfl (And.intro rfl (rfl))))
theorem okX12_sleeper {l : Launch} {sh : List aSh} {i : Nat → Nat → Int32} {lo : Nat → Nat → Int64} {rv : Nat → Nat → Option Nat}  {a1 : Int32} {a2 : Int32} {vR : Int32} {iR : Nat → Nat → Int32} (hG : aGood sh rv) (hf : fX12_sleeper a1 a2 i = some (vR, iR)) : aM l yX12_sleeper cX12_sleeper 3 (some .int) 1 [.ref (100 + 50), .int a1, .int a2] (sh, i, lo, rv) (some (.int vR)) (sh, iR, lo, rv) :=
  aM_of (by decide) (Nat.le_of_ble_eq_true rfl) (Nat.le_refl _) (Nat.le_refl _) (fun p e s m args below meth c D cA A ad0 hX hr hlk hnm => kX12_sleeper hX hr hlk (Nat.le_refl _) (Nat.le_refl _) hG hf)
def fX12_officer (a1 : Int32) (a2 : Int32) (i : Nat → Nat → Int32) : Option ((Int32) × (Nat → Nat → Int32)) := lt (u2 i 50 0 0) fun i1 =>
    bn1 (fX12_isOfficer a1 i1) fun v2 =>
    if v2 = 0 then (some ((-1), i1)) else (bn1 (fX12_isIn (a2 : Int32).toInt64 0 3) fun v4 =>
    if v4 = 0 then (some ((-1), i1)) else (if aIn (((4 : Int32) * a1) + a2) 16 = true then
    (some ((i1 59 ((((4 : Int32) * a1) + a2) : Int32).toNatClampNeg), i1)) else none))
theorem kX12_officer  {vR : Int32} {iR : Nat → Nat → Int32} (hX : aX p s m args c RX12 cX12_officer 3 D cA A ad0) (hr : meth.sig.returnType = (some .int)) (hlk : meth.locks = false) (hRf : 1 ≤ R.frames) (hRl : 64 * 1 ≤ R.locals) {a1 : Int32} {a2 : Int32} (hG : aGood sh rv) (hf : fX12_officer a1 a2 i = some (vR, iR)) : aJ p l e R s m args below meth c (MQ below (aPost D cA ad0 A (sh, i0, lo0, rv0) (some (.int vR)) (sh, iR, lo, rv)) args s (sh.length - sh.length) (aSn sh - aSn sh) A) D cA A ad0 3 sh.length (aSn sh) 0 [some (.ref (100 + 50)), some (.int a1), some (.int a2)] [] (sh, i, lo, rv) := by
  unfold fX12_officer at hf
  refine j_aload_n hX dX12_officer_0 rfl ?_
  refine j_iconst hX dX12_officer_1 ic_0 ?_
  have hf := ltd hf
  refine j_putI (k := 0) hX kX12 (by decide) fk_X12_99 dX12_officer_2 (sh_50 hG) rfl rfl rfl rfl ?_
  refine j_aload_n hX dX12_officer_5 rfl ?_
  refine j_iload_n hX dX12_officer_6 rfl ?_
  refine jpc (b := 7) rfl ?_
  obtain ⟨v2, hh3, hf⟩ := bd1 hf
  refine j_cV1i hX lk_X12_374 kX12 dX12_officer_7 (sh_50 hG) (okX12_isOfficer hG hh3) rfl rfl (rmm (by omega) hRf hRl (by decide)) (Nat.le_of_ble_eq_true rfl) (Nat.le_add_right _ _) (Nat.le_add_right _ _) ?_
  refine j_if_eq (tgt := 38) hX dX12_officer_10 (by decide) (fun hc => ?_) (fun hc => ?_)
  · have hf := ifp hc hf
    refine j_iconst hX dX12_officer_38 ic_m1 ?_
    cases hf
    exact j_ret hX hr hlk rfl dX12_officer_39
  · have hf := ifn hc hf
    refine j_iload_n hX dX12_officer_13 rfl ?_
    refine j_i2l hX dX12_officer_14 ?_
    refine j_lconst (v := 0) hX dX12_officer_15 (by decide) ?_
    refine j_ldc2_w hX kc_X12_367 dX12_officer_16 ?_
    obtain ⟨v4, hh5, hf⟩ := bd1 hf
    refine j_cS3i hX lk_X12_220 dX12_officer_19 (okX12_isIn hG hh5) rfl rfl (rmm (by omega) hRf hRl (by decide)) (Nat.le_of_ble_eq_true rfl) (Nat.le_add_right _ _) (Nat.le_add_right _ _) ?_
    refine jpc (b := 22) rfl ?_
    refine j_if_eq (tgt := 38) hX dX12_officer_22 (by decide) (fun hc => ?_) (fun hc => ?_)
    · have hf := ifp hc hf
      refine j_iconst hX dX12_officer_38 ic_m1 ?_
      cases hf
      exact j_ret hX hr hlk rfl dX12_officer_39
    · have hf := ifn hc hf
      refine j_aload_n hX dX12_officer_25 rfl ?_
      refine j_getR (k := 22) hX kX12 (by decide) fk_X12_49 (rf_50_22 hG) dX12_officer_26 (sh_50 hG) rfl ?_
      refine j_iconst hX dX12_officer_29 ic_4 ?_
      refine j_iload_n hX dX12_officer_30 rfl ?_
      refine j_imul hX dX12_officer_31 ?_
      refine jpc (b := 32) rfl ?_
      refine j_iload_n hX dX12_officer_32 rfl ?_
      refine j_iadd hX dX12_officer_33 ?_
      obtain ⟨hg, hf⟩ := gd hf
      refine j_iald hX (sh_59 hG) hg dX12_officer_34 ?_
      refine j_goto (tgt := 39) hX dX12_officer_35 (by decide) ?_
      cases hf
      exact j_ret hX hr hlk rfl dX12_officer_39
theorem okX12_officer {l : Launch} {sh : List aSh} {i : Nat → Nat → Int32} {lo : Nat → Nat → Int64} {rv : Nat → Nat → Option Nat}  {a1 : Int32} {a2 : Int32} {vR : Int32} {iR : Nat → Nat → Int32} (hG : aGood sh rv) (hf : fX12_officer a1 a2 i = some (vR, iR)) : aM l yX12_officer cX12_officer 3 (some .int) 1 [.ref (100 + 50), .int a1, .int a2] (sh, i, lo, rv) (some (.int vR)) (sh, iR, lo, rv) :=
  aM_of (by decide) (Nat.le_of_ble_eq_true rfl) (Nat.le_refl _) (Nat.le_refl _) (fun p e s m args below meth c D cA A ad0 hX hr hlk hnm => kX12_officer hX hr hlk (Nat.le_refl _) (Nat.le_refl _) hG hf)
def fX12_law_28 (x1 : Int32) (i : Nat → Nat → Int32) : Option ((Int32) × (Nat → Nat → Int32)) := lt (u2 i 50 35 x1) fun i4 =>
    some (1, i4)
theorem kX12_law_28  {vR : Int32} {iR : Nat → Nat → Int32} (hX : aX p s m args c RX12 cX12_law 2 D cA A ad0) (hr : meth.sig.returnType = (some .boolean)) (hlk : meth.locks = false) (hRf : 1 ≤ R.frames) (hRl : 64 * 1 ≤ R.locals) {x1 : Int32} (hG : aGood sh rv) (hf : fX12_law_28 x1 i = some (vR, iR)) : aJ p l e R s m args below meth c (MQ below (aPost D cA ad0 A (sh, i0, lo0, rv0) (some (.int vR)) (sh, iR, lo, rv)) args s (sh.length - sh.length) (aSn sh - aSn sh) A) D cA A ad0 2 sh.length (aSn sh) 28 [some (.ref (100 + 50)), some (.int x1)] [] (sh, i, lo, rv) := by
  unfold fX12_law_28 at hf
  refine j_aload_n hX dX12_law_28 rfl ?_
  refine j_iload_n hX dX12_law_29 rfl ?_
  have hf := ltd hf
  refine j_putI (k := 35) hX kX12 (by decide) fk_X12_67 dX12_law_30 (sh_50 hG) rfl rfl rfl rfl ?_
  refine j_iconst hX dX12_law_33 ic_1 ?_
  cases hf
  exact j_ret hX hr hlk rfl dX12_law_34
def fX12_law (a1 : Int32) (i : Nat → Nat → Int32) : Option ((Int32) × (Nat → Nat → Int32)) := lt (u2 i 50 0 0) fun i1 =>
    if a1 = (-1) then (fX12_law_28 a1 i1) else (bn1 (fX12_isIn (a1 : Int32).toInt64 0 (((i1 50 7) - (1 : Int32)) : Int32).toInt64) fun v2 =>
    if v2 = 0 then (some (0, i1)) else (fX12_law_28 a1 i1))
theorem kX12_law  {vR : Int32} {iR : Nat → Nat → Int32} (hX : aX p s m args c RX12 cX12_law 2 D cA A ad0) (hr : meth.sig.returnType = (some .boolean)) (hlk : meth.locks = false) (hRf : 1 ≤ R.frames) (hRl : 64 * 1 ≤ R.locals) {a1 : Int32} (hG : aGood sh rv) (hf : fX12_law a1 i = some (vR, iR)) : aJ p l e R s m args below meth c (MQ below (aPost D cA ad0 A (sh, i0, lo0, rv0) (some (.int vR)) (sh, iR, lo, rv)) args s (sh.length - sh.length) (aSn sh - aSn sh) A) D cA A ad0 2 sh.length (aSn sh) 0 [some (.ref (100 + 50)), some (.int a1)] [] (sh, i, lo, rv) := by
  unfold fX12_law at hf
  refine j_aload_n hX dX12_law_0 rfl ?_
  refine j_iconst hX dX12_law_1 ic_0 ?_
  have hf := ltd hf
  refine j_putI (k := 0) hX kX12 (by decide) fk_X12_99 dX12_law_2 (sh_50 hG) rfl rfl rfl rfl ?_
  refine j_iload_n hX dX12_law_5 rfl ?_
  refine j_iconst hX dX12_law_6 ic_m1 ?_
  refine jpc (b := 7) rfl ?_
  refine j_icmp_eq (tgt := 28) hX dX12_law_7 (by decide) (fun hc => ?_) (fun hc => ?_)
  · have hf := ifp hc hf
    exact aJx (kX12_law_28 hX hr hlk hRf hRl hG  hf) (And.intro rfl (And.intro rfl (rfl)))
  · have hf := ifn hc hf
    refine j_iload_n hX dX12_law_10 rfl ?_
    refine j_i2l hX dX12_law_11 ?_
    refine j_lconst (v := 0) hX dX12_law_12 (by decide) ?_
    refine j_aload_n hX dX12_law_13 rfl ?_
    refine j_getI (k := 7) hX kX12 (by decide) fk_X12_289 dX12_law_14 (sh_50 hG) rfl ?_
    refine jpc (b := 17) rfl ?_
    refine j_iconst hX dX12_law_17 ic_1 ?_
    refine j_isub hX dX12_law_18 ?_
    refine j_i2l hX dX12_law_19 ?_
    obtain ⟨v2, hh3, hf⟩ := bd1 hf
    refine j_cS3i hX lk_X12_220 dX12_law_20 (okX12_isIn hG hh3) rfl rfl (rmm (by omega) hRf hRl (by decide)) (Nat.le_of_ble_eq_true rfl) (Nat.le_add_right _ _) (Nat.le_add_right _ _) ?_
    refine j_if_ne (tgt := 28) hX dX12_law_23 (by decide) (fun hc => ?_) (fun hc => ?_)
    · have hf := ifn hc hf
      exact aJx (kX12_law_28 hX hr hlk hRf hRl hG  hf) (And.intro rfl (And.intro rfl (rfl)))
    · have hf := ifp hc hf
      refine j_iconst hX dX12_law_26 ic_0 ?_
      cases hf
      exact j_ret hX hr hlk rfl dX12_law_27
theorem okX12_law {l : Launch} {sh : List aSh} {i : Nat → Nat → Int32} {lo : Nat → Nat → Int64} {rv : Nat → Nat → Option Nat}  {a1 : Int32} {vR : Int32} {iR : Nat → Nat → Int32} (hG : aGood sh rv) (hf : fX12_law a1 i = some (vR, iR)) : aM l yX12_law cX12_law 2 (some .boolean) 1 [.ref (100 + 50), .int a1] (sh, i, lo, rv) (some (.int vR)) (sh, iR, lo, rv) :=
  aM_of (by decide) (Nat.le_of_ble_eq_true rfl) (Nat.le_refl _) (Nat.le_refl _) (fun p e s m args below meth c D cA A ad0 hX hr hlk hnm => kX12_law hX hr hlk (Nat.le_refl _) (Nat.le_refl _) hG hf)
def fX12_drowsy (a1 : Int32) (i : Nat → Nat → Int32) : Option ((Int32) × (Nat → Nat → Int32)) := lt (u2 i 50 0 0) fun i1 =>
    bn1 (fX12_isIn (a1 : Int32).toInt64 0 99) fun v2 =>
    if v2 = 0 then (some (0, i1)) else (if a1 = (i1 50 36) then (some (0, i1)) else (lt (u2 i1 50 36 a1) fun i4 =>
    some (1, i4)))
theorem kX12_drowsy  {vR : Int32} {iR : Nat → Nat → Int32} (hX : aX p s m args c RX12 cX12_drowsy 2 D cA A ad0) (hr : meth.sig.returnType = (some .boolean)) (hlk : meth.locks = false) (hRf : 1 ≤ R.frames) (hRl : 64 * 1 ≤ R.locals) {a1 : Int32} (hG : aGood sh rv) (hf : fX12_drowsy a1 i = some (vR, iR)) : aJ p l e R s m args below meth c (MQ below (aPost D cA ad0 A (sh, i0, lo0, rv0) (some (.int vR)) (sh, iR, lo, rv)) args s (sh.length - sh.length) (aSn sh - aSn sh) A) D cA A ad0 2 sh.length (aSn sh) 0 [some (.ref (100 + 50)), some (.int a1)] [] (sh, i, lo, rv) := by
  unfold fX12_drowsy at hf
  refine j_aload_n hX dX12_drowsy_0 rfl ?_
  refine j_iconst hX dX12_drowsy_1 ic_0 ?_
  have hf := ltd hf
  refine j_putI (k := 0) hX kX12 (by decide) fk_X12_99 dX12_drowsy_2 (sh_50 hG) rfl rfl rfl rfl ?_
  refine j_iload_n hX dX12_drowsy_5 rfl ?_
  refine j_i2l hX dX12_drowsy_6 ?_
  refine jpc (b := 7) rfl ?_
  refine j_lconst (v := 0) hX dX12_drowsy_7 (by decide) ?_
  refine j_ldc2_w hX kc_X12_377 dX12_drowsy_8 ?_
  obtain ⟨v2, hh3, hf⟩ := bd1 hf
  refine j_cS3i hX lk_X12_220 dX12_drowsy_11 (okX12_isIn hG hh3) rfl rfl (rmm (by omega) hRf hRl (by decide)) (Nat.le_of_ble_eq_true rfl) (Nat.le_add_right _ _) (Nat.le_add_right _ _) ?_
  refine j_if_eq (tgt := 25) hX dX12_drowsy_14 (by decide) (fun hc => ?_) (fun hc => ?_)
  · have hf := ifp hc hf
    refine j_iconst hX dX12_drowsy_25 ic_0 ?_
    cases hf
    exact j_ret hX hr hlk rfl dX12_drowsy_26
  · have hf := ifn hc hf
    refine j_iload_n hX dX12_drowsy_17 rfl ?_
    refine j_aload_n hX dX12_drowsy_18 rfl ?_
    refine j_getI (k := 36) hX kX12 (by decide) fk_X12_71 dX12_drowsy_19 (sh_50 hG) rfl ?_
    refine j_icmp_ne (tgt := 27) hX dX12_drowsy_22 (by decide) (fun hc => ?_) (fun hc => ?_)
    · have hf := ifn hc hf
      refine j_aload_n hX dX12_drowsy_27 rfl ?_
      refine j_iload_n hX dX12_drowsy_28 rfl ?_
      have hf := ltd hf
      refine j_putI (k := 36) hX kX12 (by decide) fk_X12_71 dX12_drowsy_29 (sh_50 hG) rfl rfl rfl rfl ?_
      refine j_iconst hX dX12_drowsy_32 ic_1 ?_
      cases hf
      exact j_ret hX hr hlk rfl dX12_drowsy_33
    · have hf := ifp hc hf
      refine j_iconst hX dX12_drowsy_25 ic_0 ?_
      cases hf
      exact j_ret hX hr hlk rfl dX12_drowsy_26
theorem okX12_drowsy {l : Launch} {sh : List aSh} {i : Nat → Nat → Int32} {lo : Nat → Nat → Int64} {rv : Nat → Nat → Option Nat}  {a1 : Int32} {vR : Int32} {iR : Nat → Nat → Int32} (hG : aGood sh rv) (hf : fX12_drowsy a1 i = some (vR, iR)) : aM l yX12_drowsy cX12_drowsy 2 (some .boolean) 1 [.ref (100 + 50), .int a1] (sh, i, lo, rv) (some (.int vR)) (sh, iR, lo, rv) :=
  aM_of (by decide) (Nat.le_of_ble_eq_true rfl) (Nat.le_refl _) (Nat.le_refl _) (fun p e s m args below meth c D cA A ad0 hX hr hlk hnm => kX12_drowsy hX hr hlk (Nat.le_refl _) (Nat.le_refl _) hG hf)
def fX12_remember_52 : Nat → Int32 → (Nat → Nat → Int32) → Option ((Nat → Nat → Int32))
  | 0, _, _ => none
  | n + 1, x1, i => if 296 ≤ x1 then (lt (u2 i 50 42 ((i 50 42) + (1 : Int32))) fun i3 =>
    some (i3)) else (if aIn x1 296 = true then
    (if aIn (((296 : Int32) * (i 50 42)) + x1) 11840 = true then
    (lt (u2 i 65 ((((296 : Int32) * (i 50 42)) + x1) : Int32).toNatClampNeg (i 63 (x1 : Int32).toNatClampNeg)) fun i4 => fX12_remember_52 n (x1 + 1) i4) else none) else none)
theorem kX12_remember_52  {iR : Nat → Nat → Int32} (hX : aX p s m args c RX12 cX12_remember 2 D cA A ad0) (hr : meth.sig.returnType = none) (hlk : meth.locks = false) (hRf : 0 ≤ R.frames) (hRl : 64 * 0 ≤ R.locals) : ∀ (n : Nat) (x1 : Int32) (i : Nat → Nat → Int32), aGood sh rv → fX12_remember_52 n x1 i = some (iR) → aJ p l e R s m args below meth c (MQ below (aPost D cA ad0 A (sh, i0, lo0, rv0) none (sh, iR, lo, rv)) args s (sh.length - sh.length) (aSn sh - aSn sh) A) D cA A ad0 2 sh.length (aSn sh) 52 [some (.ref (100 + 50)), some (.int x1)] [] (sh, i, lo, rv) := by
  intro n
  induction n with
  | zero => intros; rename_i hf; cases hf
  | succ n ih =>
    intro x1 i hG hf
    rw [fX12_remember_52] at hf
    refine j_iload_n hX dX12_remember_52 rfl ?_
    refine j_sipush hX dX12_remember_53 sp_296 ?_
    refine j_icmp_ge (tgt := 86) hX dX12_remember_56 (by decide) (fun hc => ?_) (fun hc => ?_)
    · have hf := ifp hc hf
      refine j_aload_n hX dX12_remember_86 rfl ?_
      refine j_dup hX dX12_remember_87 rfl ?_
      refine j_getI (k := 42) hX kX12 (by decide) fk_X12_312 dX12_remember_88 (sh_50 hG) rfl ?_
      refine j_iconst hX dX12_remember_91 ic_1 ?_
      refine j_iadd hX dX12_remember_92 ?_
      refine jpc (b := 93) rfl ?_
      have hf := ltd hf
      refine j_putI (k := 42) hX kX12 (by decide) fk_X12_312 dX12_remember_93 (sh_50 hG) rfl rfl rfl rfl ?_
      cases hf
      exact j_vret hX hr hlk dX12_remember_96
    · have hf := ifn hc hf
      refine j_aload_n hX dX12_remember_59 rfl ?_
      refine j_getR (k := 41) hX kX12 (by decide) fk_X12_74 (rf_50_41 hG) dX12_remember_60 (sh_50 hG) rfl ?_
      refine j_sipush hX dX12_remember_63 sp_296 ?_
      refine j_aload_n hX dX12_remember_66 rfl ?_
      refine j_getI (k := 42) hX kX12 (by decide) fk_X12_312 dX12_remember_67 (sh_50 hG) rfl ?_
      refine jpc (b := 70) rfl ?_
      refine j_imul hX dX12_remember_70 ?_
      refine j_iload_n hX dX12_remember_71 rfl ?_
      refine j_iadd hX dX12_remember_72 ?_
      refine j_aload_n hX dX12_remember_73 rfl ?_
      refine j_getR (k := 33) hX kX12 (by decide) fk_X12_61 (rf_50_33 hG) dX12_remember_74 (sh_50 hG) rfl ?_
      refine j_iload_n hX dX12_remember_77 rfl ?_
      refine jpc (b := 78) rfl ?_
      obtain ⟨hg, hf⟩ := gd hf
      refine j_iald hX (sh_63 hG) hg dX12_remember_78 ?_
      obtain ⟨hg, hf⟩ := gd hf
      have hf := ltd hf
      refine j_iast hX (sh_65 hG) hg dX12_remember_79 ?_
      refine j_iinc hX dX12_remember_80 rfl (congrArg (_ + ·) ic_1) (by decide) rfl ?_
      refine j_goto (tgt := 52) hX dX12_remember_83 (by decide) ?_
      exact aJx (ih _ _ hG  hf) (And.intro rfl (And.intro rfl (rfl)))
def fX12_remember_50 (i : Nat → Nat → Int32) : Option ((Nat → Nat → Int32)) := fX12_remember_52 fuel 0 i
theorem kX12_remember_50  {iR : Nat → Nat → Int32} (hX : aX p s m args c RX12 cX12_remember 2 D cA A ad0) (hr : meth.sig.returnType = none) (hlk : meth.locks = false) (hRf : 0 ≤ R.frames) (hRl : 64 * 0 ≤ R.locals) (hG : aGood sh rv) (hf : fX12_remember_50 i = some (iR)) : aJ p l e R s m args below meth c (MQ below (aPost D cA ad0 A (sh, i0, lo0, rv0) none (sh, iR, lo, rv)) args s (sh.length - sh.length) (aSn sh - aSn sh) A) D cA A ad0 2 sh.length (aSn sh) 50 [some (.ref (100 + 50)), none] [] (sh, i, lo, rv) := by
  unfold fX12_remember_50 at hf
  refine j_iconst hX dX12_remember_50 ic_0 ?_
  refine j_istore_n hX dX12_remember_51 (by decide) rfl ?_
  exact aJx (kX12_remember_52 hX hr hlk hRf hRl fuel _ _ hG  hf) (And.intro rfl (And.intro rfl (rfl)))
def fX12_remember_11 : Nat → Int32 → (Nat → Nat → Int32) → Option ((Nat → Nat → Int32))
  | 0, _, _ => none
  | n + 1, x1, i => if 11544 ≤ x1 then (lt (u2 i 50 42 ((i 50 42) - (1 : Int32))) fun i1 =>
    fX12_remember_50 i1) else (if aIn (x1 + (296 : Int32)) 11840 = true then
    (if aIn x1 11840 = true then
    (lt (u2 i 65 (x1 : Int32).toNatClampNeg (i 65 ((x1 + (296 : Int32)) : Int32).toNatClampNeg)) fun i2 => fX12_remember_11 n (x1 + 1) i2) else none) else none)
theorem kX12_remember_11  {iR : Nat → Nat → Int32} (hX : aX p s m args c RX12 cX12_remember 2 D cA A ad0) (hr : meth.sig.returnType = none) (hlk : meth.locks = false) (hRf : 0 ≤ R.frames) (hRl : 64 * 0 ≤ R.locals) : ∀ (n : Nat) (x1 : Int32) (i : Nat → Nat → Int32), aGood sh rv → fX12_remember_11 n x1 i = some (iR) → aJ p l e R s m args below meth c (MQ below (aPost D cA ad0 A (sh, i0, lo0, rv0) none (sh, iR, lo, rv)) args s (sh.length - sh.length) (aSn sh - aSn sh) A) D cA A ad0 2 sh.length (aSn sh) 11 [some (.ref (100 + 50)), some (.int x1)] [] (sh, i, lo, rv) := by
  intro n
  induction n with
  | zero => intros; rename_i hf; cases hf
  | succ n ih =>
    intro x1 i hG hf
    rw [fX12_remember_11] at hf
    refine j_iload_n hX dX12_remember_11 rfl ?_
    refine j_sipush hX dX12_remember_12 sp_11544 ?_
    refine j_icmp_ge (tgt := 40) hX dX12_remember_15 (by decide) (fun hc => ?_) (fun hc => ?_)
    · have hf := ifp hc hf
      refine j_aload_n hX dX12_remember_40 rfl ?_
      refine j_dup hX dX12_remember_41 rfl ?_
      refine j_getI (k := 42) hX kX12 (by decide) fk_X12_312 dX12_remember_42 (sh_50 hG) rfl ?_
      refine j_iconst hX dX12_remember_45 ic_1 ?_
      refine j_isub hX dX12_remember_46 ?_
      refine jpc (b := 47) rfl ?_
      have hf := ltd hf
      refine j_putI (k := 42) hX kX12 (by decide) fk_X12_312 dX12_remember_47 (sh_50 hG) rfl rfl rfl rfl ?_
      exact aJx (kX12_remember_50 hX hr hlk hRf hRl hG  hf) (And.intro rfl (rfl))
    · have hf := ifn hc hf
      refine j_aload_n hX dX12_remember_18 rfl ?_
      refine j_getR (k := 41) hX kX12 (by decide) fk_X12_74 (rf_50_41 hG) dX12_remember_19 (sh_50 hG) rfl ?_
      refine j_iload_n hX dX12_remember_22 rfl ?_
      refine j_aload_n hX dX12_remember_23 rfl ?_
      refine j_getR (k := 41) hX kX12 (by decide) fk_X12_74 (rf_50_41 hG) dX12_remember_24 (sh_50 hG) rfl ?_
      refine jpc (b := 27) rfl ?_
      refine j_iload_n hX dX12_remember_27 rfl ?_
      refine j_sipush hX dX12_remember_28 sp_296 ?_
      refine j_iadd hX dX12_remember_31 ?_
      obtain ⟨hg, hf⟩ := gd hf
      refine j_iald hX (sh_65 hG) hg dX12_remember_32 ?_
      obtain ⟨hg, hf⟩ := gd hf
      have hf := ltd hf
      refine j_iast hX (sh_65 hG) hg dX12_remember_33 ?_
      refine j_iinc hX dX12_remember_34 rfl (congrArg (_ + ·) ic_1) (by decide) rfl ?_
      refine j_goto (tgt := 11) hX dX12_remember_37 (by decide) ?_
      exact aJx (ih _ _ hG  hf) (And.intro rfl (And.intro rfl (rfl)))
def fX12_remember (i : Nat → Nat → Int32) : Option ((Nat → Nat → Int32)) := if (i 50 42) = 40 then (fX12_remember_11 fuel 0 i) else (fX12_remember_50 i)
theorem kX12_remember  {iR : Nat → Nat → Int32} (hX : aX p s m args c RX12 cX12_remember 2 D cA A ad0) (hr : meth.sig.returnType = none) (hlk : meth.locks = false) (hRf : 0 ≤ R.frames) (hRl : 64 * 0 ≤ R.locals) (hG : aGood sh rv) (hf : fX12_remember i = some (iR)) : aJ p l e R s m args below meth c (MQ below (aPost D cA ad0 A (sh, i0, lo0, rv0) none (sh, iR, lo, rv)) args s (sh.length - sh.length) (aSn sh - aSn sh) A) D cA A ad0 2 sh.length (aSn sh) 0 [some (.ref (100 + 50)), none] [] (sh, i, lo, rv) := by
  unfold fX12_remember at hf
  refine j_aload_n hX dX12_remember_0 rfl ?_
  refine j_getI (k := 42) hX kX12 (by decide) fk_X12_312 dX12_remember_1 (sh_50 hG) rfl ?_
  refine j_bipush hX dX12_remember_4 bp_40 ?_
  refine j_icmp_ne (tgt := 50) hX dX12_remember_6 (by decide) (fun hc => ?_) (fun hc => ?_)
  · have hf := ifn hc hf
    exact aJx (kX12_remember_50 hX hr hlk hRf hRl hG  hf) (And.intro rfl (rfl))
  · have hf := ifp hc hf
    refine j_iconst hX dX12_remember_9 ic_0 ?_
    refine j_istore_n hX dX12_remember_10 (by decide) rfl ?_
    exact aJx (kX12_remember_11 hX hr hlk hRf hRl fuel _ _ hG  hf) (And.intro rfl (And.intro rfl (rfl)))
theorem okX12_remember {l : Launch} {sh : List aSh} {i : Nat → Nat → Int32} {lo : Nat → Nat → Int64} {rv : Nat → Nat → Option Nat}  {iR : Nat → Nat → Int32} (hG : aGood sh rv) (hf : fX12_remember i = some (iR)) : aM l yX12_remember cX12_remember 2 none 0 [.ref (100 + 50)] (sh, i, lo, rv) none (sh, iR, lo, rv) :=
  aM_of (by decide) (Nat.le_of_ble_eq_true rfl) (Nat.le_refl _) (Nat.le_refl _) (fun p e s m args below meth c D cA A ad0 hX hr hlk hnm => kX12_remember hX hr hlk (Nat.le_refl _) (Nat.le_refl _) hG hf)
def fX12_canMove (w1 : Nat) (n1 : Nat) (a2 : Int32) (a3 : Int32) (i : Nat → Nat → Int32) : Option ((Int32)) := bn1 (fX12_isSleeper a2 i) fun v1 =>
    if v1 = 0 then (some (0)) else (bn1 (fX12_isChild a2 i) fun v3 =>
    if v3 = 0 then (bn1 (fX12_isIn (a3 : Int32).toInt64 0 (((i 50 28) - (1 : Int32)) : Int32).toInt64) fun v5 =>
    if v5 = 0 then (some (0)) else (if aIn (((6 : Int32) * a2) + (1 : Int32)) n1 = true then
    (if (i w1 ((((6 : Int32) * a2) + (1 : Int32)) : Int32).toNatClampNeg) = a3 then (some (0)) else (some (1))) else none)) else (some (0)))
theorem kX12_canMove  {w1 : Nat} {n1 : Nat} {vR : Int32} (hX : aX p s m args c RX12 cX12_canMove 4 D cA A ad0) (hr : meth.sig.returnType = (some .boolean)) (hlk : meth.locks = false) (hRf : 1 ≤ R.frames) (hRl : 64 * 1 ≤ R.locals) (h1 : sh[w1]? = some (.inl (.int, n1))) {a2 : Int32} {a3 : Int32} (hG : aGood sh rv) (hf : fX12_canMove w1 n1 a2 a3 i = some (vR)) : aJ p l e R s m args below meth c (MQ below (aPost D cA ad0 A (sh, i0, lo0, rv0) (some (.int vR)) (sh, i, lo, rv)) args s (sh.length - sh.length) (aSn sh - aSn sh) A) D cA A ad0 4 sh.length (aSn sh) 0 [some (.ref (100 + 50)), some (.ref (100 + w1)), some (.int a2), some (.int a3)] [] (sh, i, lo, rv) := by
  unfold fX12_canMove at hf
  refine j_aload_n hX dX12_canMove_0 rfl ?_
  refine j_iload_n hX dX12_canMove_1 rfl ?_
  obtain ⟨v1, hh2, hf⟩ := bd1 hf
  refine j_cV1i hX lk_X12_369 kX12 dX12_canMove_2 (sh_50 hG) (okX12_isSleeper hG hh2) rfl rfl (rmm (by omega) hRf hRl (by decide)) (Nat.le_of_ble_eq_true rfl) (Nat.le_add_right _ _) (Nat.le_add_right _ _) ?_
  refine j_if_eq (tgt := 48) hX dX12_canMove_5 (by decide) (fun hc => ?_) (fun hc => ?_)
  · have hf := ifp hc hf
    refine j_iconst hX dX12_canMove_48 ic_0 ?_
    cases hf
    exact j_ret hX hr hlk rfl dX12_canMove_49
  · have hf := ifn hc hf
    refine j_aload_n hX dX12_canMove_8 rfl ?_
    refine j_iload_n hX dX12_canMove_9 rfl ?_
    obtain ⟨v3, hh4, hf⟩ := bd1 hf
    refine j_cV1i hX lk_X12_379 kX12 dX12_canMove_10 (sh_50 hG) (okX12_isChild hG hh4) rfl rfl (rmm (by omega) hRf hRl (by decide)) (Nat.le_of_ble_eq_true rfl) (Nat.le_add_right _ _) (Nat.le_add_right _ _) ?_
    refine j_if_ne (tgt := 48) hX dX12_canMove_13 (by decide) (fun hc => ?_) (fun hc => ?_)
    · have hf := ifn hc hf
      refine j_iconst hX dX12_canMove_48 ic_0 ?_
      cases hf
      exact j_ret hX hr hlk rfl dX12_canMove_49
    · have hf := ifp hc hf
      refine j_iload_n hX dX12_canMove_16 rfl ?_
      refine j_i2l hX dX12_canMove_17 ?_
      refine j_lconst (v := 0) hX dX12_canMove_18 (by decide) ?_
      refine j_aload_n hX dX12_canMove_19 rfl ?_
      refine j_getI (k := 28) hX kX12 (by decide) fk_X12_303 dX12_canMove_20 (sh_50 hG) rfl ?_
      refine jpc (b := 23) rfl ?_
      refine j_iconst hX dX12_canMove_23 ic_1 ?_
      refine j_isub hX dX12_canMove_24 ?_
      refine j_i2l hX dX12_canMove_25 ?_
      obtain ⟨v5, hh6, hf⟩ := bd1 hf
      refine j_cS3i hX lk_X12_220 dX12_canMove_26 (okX12_isIn hG hh6) rfl rfl (rmm (by omega) hRf hRl (by decide)) (Nat.le_of_ble_eq_true rfl) (Nat.le_add_right _ _) (Nat.le_add_right _ _) ?_
      refine j_if_eq (tgt := 48) hX dX12_canMove_29 (by decide) (fun hc => ?_) (fun hc => ?_)
      · have hf := ifp hc hf
        refine j_iconst hX dX12_canMove_48 ic_0 ?_
        cases hf
        exact j_ret hX hr hlk rfl dX12_canMove_49
      · have hf := ifn hc hf
        refine j_aload_n hX dX12_canMove_32 rfl ?_
        refine j_bipush hX dX12_canMove_33 bp_6 ?_
        refine j_iload_n hX dX12_canMove_35 rfl ?_
        refine j_imul hX dX12_canMove_36 ?_
        refine j_iconst hX dX12_canMove_37 ic_1 ?_
        refine jpc (b := 38) rfl ?_
        refine j_iadd hX dX12_canMove_38 ?_
        obtain ⟨hg, hf⟩ := gd hf
        refine j_iald hX h1 hg dX12_canMove_39 ?_
        refine j_iload_n hX dX12_canMove_40 rfl ?_
        refine j_icmp_eq (tgt := 48) hX dX12_canMove_41 (by decide) (fun hc => ?_) (fun hc => ?_)
        · have hf := ifp hc hf
          refine j_iconst hX dX12_canMove_48 ic_0 ?_
          cases hf
          exact j_ret hX hr hlk rfl dX12_canMove_49
        · have hf := ifn hc hf
          refine j_iconst hX dX12_canMove_44 ic_1 ?_
          refine j_goto (tgt := 49) hX dX12_canMove_45 (by decide) ?_
          cases hf
          exact j_ret hX hr hlk rfl dX12_canMove_49
theorem okX12_canMove {l : Launch} {sh : List aSh} {i : Nat → Nat → Int32} {lo : Nat → Nat → Int64} {rv : Nat → Nat → Option Nat}  {w1 : Nat} {n1 : Nat} {a2 : Int32} {a3 : Int32} {vR : Int32} (hG : aGood sh rv) (h1 : sh[w1]? = some (.inl (.int, n1))) (hf : fX12_canMove w1 n1 a2 a3 i = some (vR)) : aM l yX12_canMove cX12_canMove 4 (some .boolean) 1 [.ref (100 + 50), .ref (100 + w1), .int a2, .int a3] (sh, i, lo, rv) (some (.int vR)) (sh, i, lo, rv) :=
  aM_of (by decide) (Nat.le_of_ble_eq_true rfl) (Nat.le_refl _) (Nat.le_refl _) (fun p e s m args below meth c D cA A ad0 hX hr hlk hnm => kX12_canMove hX hr hlk (Nat.le_refl _) (Nat.le_refl _) h1 hG hf)
def fX12_moves_84 (w1 : Nat) (n1 : Nat) (kh13 : Int32 → Int32 → Int32 → Int32 → (Nat → Nat → Int32) → Option ((Nat → Nat → Int32))) (x2 : Int32) (x3 : Int32) (x4 : Int32) (x5 : Int32) (i : Nat → Nat → Int32) : Option ((Nat → Nat → Int32)) := kh13 x2 x3 x4 (x5 + 1) i
theorem kX12_moves_84  {w1 : Nat} {n1 : Nat} {iR : Nat → Nat → Int32} (hX : aX p s m args c RX12 cX12_moves 7 D cA A ad0) (hr : meth.sig.returnType = none) (hlk : meth.locks = false) (hRf : 0 ≤ R.frames) (hRl : 64 * 0 ≤ R.locals) (h1 : sh[w1]? = some (.inl (.int, n1))) {kh13 : Int32 → Int32 → Int32 → Int32 → (Nat → Nat → Int32) → Option ((Nat → Nat → Int32))} (Hkh13 : ∀ (x2 : Int32) (x3 : Int32) (x4 : Int32) (x5 : Int32) (i : Nat → Nat → Int32), aGood sh rv → kh13 x2 x3 x4 x5 i = some (iR) → aJ p l e R s m args below meth c (MQ below (aPost D cA ad0 A (sh, i0, lo0, rv0) none (sh, iR, lo, rv)) args s (sh.length - sh.length) (aSn sh - aSn sh) A) D cA A ad0 7 sh.length (aSn sh) 13 [some (.ref (100 + 50)), some (.ref (100 + w1)), some (.int x2), some (.int x3), some (.int x4), some (.int x5), none] [] (sh, i, lo, rv)) {x2 : Int32} {x3 : Int32} {x4 : Int32} {x5 : Int32} (hG : aGood sh rv) (hf : fX12_moves_84 w1 n1 kh13 x2 x3 x4 x5 i = some (iR)) : aJ p l e R s m args below meth c (MQ below (aPost D cA ad0 A (sh, i0, lo0, rv0) none (sh, iR, lo, rv)) args s (sh.length - sh.length) (aSn sh - aSn sh) A) D cA A ad0 7 sh.length (aSn sh) 84 [some (.ref (100 + 50)), some (.ref (100 + w1)), some (.int x2), some (.int x3), some (.int x4), some (.int x5), none] [] (sh, i, lo, rv) := by
  unfold fX12_moves_84 at hf
  refine j_iinc hX dX12_moves_84 rfl (congrArg (_ + ·) ic_1) (by decide) rfl ?_
  refine j_goto (tgt := 13) hX dX12_moves_87 (by decide) ?_
  exact aJx (Hkh13 _ _ _ _ _ hG  hf) (And.intro rfl (And.intro rfl (And.intro rfl (And.intro rfl (And.intro rfl (And.intro rfl (rfl)))))))
def fX12_moves_59 (w1 : Nat) (n1 : Nat) (kh13 : Int32 → Int32 → Int32 → Int32 → (Nat → Nat → Int32) → Option ((Nat → Nat → Int32))) (x2 : Int32) (x3 : Int32) (x4 : Int32) (x5 : Int32) (x6 : Int32) (i : Nat → Nat → Int32) : Option ((Nat → Nat → Int32)) := if aIn x6 n1 = true then
    (if x4 ≤ (i w1 (x6 : Int32).toNatClampNeg) then (fX12_moves_84 w1 n1 kh13 x2 x3 x4 x5 i) else (if aIn x6 n1 = true then
    (if (i w1 (x6 : Int32).toNatClampNeg) < x3 then (fX12_moves_84 w1 n1 kh13 x2 x3 x4 x5 i) else (if aIn x6 n1 = true then
    (if aIn x6 n1 = true then
    (lt (u2 i w1 (x6 : Int32).toNatClampNeg ((i w1 (x6 : Int32).toNatClampNeg) + (1 : Int32))) fun i5 => fX12_moves_84 w1 n1 kh13 x2 x3 x4 x5 i5) else none) else none)) else none)) else none
theorem kX12_moves_59  {w1 : Nat} {n1 : Nat} {iR : Nat → Nat → Int32} (hX : aX p s m args c RX12 cX12_moves 7 D cA A ad0) (hr : meth.sig.returnType = none) (hlk : meth.locks = false) (hRf : 0 ≤ R.frames) (hRl : 64 * 0 ≤ R.locals) (h1 : sh[w1]? = some (.inl (.int, n1))) {kh13 : Int32 → Int32 → Int32 → Int32 → (Nat → Nat → Int32) → Option ((Nat → Nat → Int32))} (Hkh13 : ∀ (x2 : Int32) (x3 : Int32) (x4 : Int32) (x5 : Int32) (i : Nat → Nat → Int32), aGood sh rv → kh13 x2 x3 x4 x5 i = some (iR) → aJ p l e R s m args below meth c (MQ below (aPost D cA ad0 A (sh, i0, lo0, rv0) none (sh, iR, lo, rv)) args s (sh.length - sh.length) (aSn sh - aSn sh) A) D cA A ad0 7 sh.length (aSn sh) 13 [some (.ref (100 + 50)), some (.ref (100 + w1)), some (.int x2), some (.int x3), some (.int x4), some (.int x5), none] [] (sh, i, lo, rv)) {x2 : Int32} {x3 : Int32} {x4 : Int32} {x5 : Int32} {x6 : Int32} (hG : aGood sh rv) (hf : fX12_moves_59 w1 n1 kh13 x2 x3 x4 x5 x6 i = some (iR)) : aJ p l e R s m args below meth c (MQ below (aPost D cA ad0 A (sh, i0, lo0, rv0) none (sh, iR, lo, rv)) args s (sh.length - sh.length) (aSn sh - aSn sh) A) D cA A ad0 7 sh.length (aSn sh) 59 [some (.ref (100 + 50)), some (.ref (100 + w1)), some (.int x2), some (.int x3), some (.int x4), some (.int x5), some (.int x6)] [] (sh, i, lo, rv) := by
  unfold fX12_moves_59 at hf
  refine j_aload_n hX dX12_moves_59 rfl ?_
  refine j_iload hX dX12_moves_60 rfl ?_
  obtain ⟨hg, hf⟩ := gd hf
  refine j_iald hX h1 hg dX12_moves_62 ?_
  refine j_iload hX dX12_moves_63 rfl ?_
  refine j_icmp_ge (tgt := 84) hX dX12_moves_65 (by decide) (fun hc => ?_) (fun hc => ?_)
  · have hf := ifp hc hf
    exact aJx (kX12_moves_84 hX hr hlk hRf hRl h1 Hkh13 hG  hf) (And.intro rfl (And.intro rfl (And.intro rfl (And.intro rfl (And.intro rfl (And.intro rfl (rfl)))))))
  · have hf := ifn hc hf
    refine j_aload_n hX dX12_moves_68 rfl ?_
    refine j_iload hX dX12_moves_69 rfl ?_
    obtain ⟨hg, hf⟩ := gd hf
    refine j_iald hX h1 hg dX12_moves_71 ?_
    refine j_iload_n hX dX12_moves_72 rfl ?_
    refine j_icmp_lt (tgt := 84) hX dX12_moves_73 (by decide) (fun hc => ?_) (fun hc => ?_)
    · have hf := ifp hc hf
      exact aJx (kX12_moves_84 hX hr hlk hRf hRl h1 Hkh13 hG  hf) (And.intro rfl (And.intro rfl (And.intro rfl (And.intro rfl (And.intro rfl (And.intro rfl (rfl)))))))
    · have hf := ifn hc hf
      refine j_aload_n hX dX12_moves_76 rfl ?_
      refine j_iload hX dX12_moves_77 rfl ?_
      refine j_dup2 hX dX12_moves_79 rfl rfl ?_
      obtain ⟨hg, hf⟩ := gd hf
      refine j_iald hX h1 hg dX12_moves_80 ?_
      refine j_iconst hX dX12_moves_81 ic_1 ?_
      refine j_iadd hX dX12_moves_82 ?_
      obtain ⟨hg, hf⟩ := gd hf
      have hf := ltd hf
      refine j_iast hX h1 hg dX12_moves_83 ?_
      exact aJx (kX12_moves_84 hX hr hlk hRf hRl h1 Hkh13 hG  hf) (And.intro rfl (And.intro rfl (And.intro rfl (And.intro rfl (And.intro rfl (And.intro rfl (rfl)))))))
def fX12_moves_13 (w1 : Nat) (n1 : Nat) : Nat → Int32 → Int32 → Int32 → Int32 → (Nat → Nat → Int32) → Option ((Nat → Nat → Int32))
  | 0, _, _, _, _, _ => none
  | n + 1, x2, x3, x4, x5, i => if (i 50 26) ≤ x5 then (if aIn (((6 : Int32) * x2) + (1 : Int32)) n1 = true then
    (lt (u2 i w1 ((((6 : Int32) * x2) + (1 : Int32)) : Int32).toNatClampNeg x3) fun i2 => some (i2)) else none) else (lt (((6 : Int32) * x5) + (1 : Int32)) fun t3 =>
    if aIn t3 n1 = true then
    (if (i w1 (t3 : Int32).toNatClampNeg) ≤ x4 then (fX12_moves_59 w1 n1 (fX12_moves_13 w1 n1 n) x2 x3 x4 x5 t3 i) else (if aIn t3 n1 = true then
    (if x3 < (i w1 (t3 : Int32).toNatClampNeg) then (fX12_moves_59 w1 n1 (fX12_moves_13 w1 n1 n) x2 x3 x4 x5 t3 i) else (if aIn t3 n1 = true then
    (if aIn t3 n1 = true then
    (lt (u2 i w1 (t3 : Int32).toNatClampNeg ((i w1 (t3 : Int32).toNatClampNeg) - (1 : Int32))) fun i4 => fX12_moves_84 w1 n1 (fX12_moves_13 w1 n1 n) x2 x3 x4 x5 i4) else none) else none)) else none)) else none)
theorem kX12_moves_13  {w1 : Nat} {n1 : Nat} {iR : Nat → Nat → Int32} (hX : aX p s m args c RX12 cX12_moves 7 D cA A ad0) (hr : meth.sig.returnType = none) (hlk : meth.locks = false) (hRf : 0 ≤ R.frames) (hRl : 64 * 0 ≤ R.locals) (h1 : sh[w1]? = some (.inl (.int, n1))) : ∀ (n : Nat) (x2 : Int32) (x3 : Int32) (x4 : Int32) (x5 : Int32) (i : Nat → Nat → Int32), aGood sh rv → fX12_moves_13 w1 n1 n x2 x3 x4 x5 i = some (iR) → aJ p l e R s m args below meth c (MQ below (aPost D cA ad0 A (sh, i0, lo0, rv0) none (sh, iR, lo, rv)) args s (sh.length - sh.length) (aSn sh - aSn sh) A) D cA A ad0 7 sh.length (aSn sh) 13 [some (.ref (100 + 50)), some (.ref (100 + w1)), some (.int x2), some (.int x3), some (.int x4), some (.int x5), none] [] (sh, i, lo, rv) := by
  intro n
  induction n with
  | zero => intros; rename_i hf; cases hf
  | succ n ih =>
    intro x2 x3 x4 x5 i hG hf
    rw [fX12_moves_13] at hf
    refine j_iload hX dX12_moves_13 rfl ?_
    refine j_aload_n hX dX12_moves_15 rfl ?_
    refine j_getI (k := 26) hX kX12 (by decide) fk_X12_297 dX12_moves_16 (sh_50 hG) rfl ?_
    refine j_icmp_ge (tgt := 90) hX dX12_moves_19 (by decide) (fun hc => ?_) (fun hc => ?_)
    · have hf := ifp hc hf
      refine j_aload_n hX dX12_moves_90 rfl ?_
      refine j_bipush hX dX12_moves_91 bp_6 ?_
      refine j_iload_n hX dX12_moves_93 rfl ?_
      refine j_imul hX dX12_moves_94 ?_
      refine j_iconst hX dX12_moves_95 ic_1 ?_
      refine jpc (b := 96) rfl ?_
      refine j_iadd hX dX12_moves_96 ?_
      refine j_iload_n hX dX12_moves_97 rfl ?_
      obtain ⟨hg, hf⟩ := gd hf
      have hf := ltd hf
      refine j_iast hX h1 hg dX12_moves_98 ?_
      cases hf
      exact j_vret hX hr hlk dX12_moves_99
    · have hf := ifn hc hf
      refine j_bipush hX dX12_moves_22 bp_6 ?_
      refine j_iload hX dX12_moves_24 rfl ?_
      refine j_imul hX dX12_moves_26 ?_
      refine j_iconst hX dX12_moves_27 ic_1 ?_
      refine j_iadd hX dX12_moves_28 ?_
      refine jpc (b := 29) rfl ?_
      have hf := ltd hf
      refine j_istore hX dX12_moves_29 (by decide) rfl ?_
      refine j_aload_n hX dX12_moves_31 rfl ?_
      refine j_iload hX dX12_moves_32 rfl ?_
      obtain ⟨hg, hf⟩ := gd hf
      refine j_iald hX h1 hg dX12_moves_34 ?_
      refine j_iload hX dX12_moves_35 rfl ?_
      refine j_icmp_le (tgt := 59) hX dX12_moves_37 (by decide) (fun hc => ?_) (fun hc => ?_)
      · have hf := ifp hc hf
        exact aJx (kX12_moves_59 hX hr hlk hRf hRl h1 ih hG  hf) (And.intro rfl (And.intro rfl (And.intro rfl (And.intro rfl (And.intro rfl (And.intro rfl (And.intro rfl (rfl))))))))
      · have hf := ifn hc hf
        refine j_aload_n hX dX12_moves_40 rfl ?_
        refine j_iload hX dX12_moves_41 rfl ?_
        obtain ⟨hg, hf⟩ := gd hf
        refine j_iald hX h1 hg dX12_moves_43 ?_
        refine j_iload_n hX dX12_moves_44 rfl ?_
        refine j_icmp_gt (tgt := 59) hX dX12_moves_45 (by decide) (fun hc => ?_) (fun hc => ?_)
        · have hf := ifp hc hf
          exact aJx (kX12_moves_59 hX hr hlk hRf hRl h1 ih hG  hf) (And.intro rfl (And.intro rfl (And.intro rfl (And.intro rfl (And.intro rfl (And.intro rfl (And.intro rfl (rfl))))))))
        · have hf := ifn hc hf
          refine j_aload_n hX dX12_moves_48 rfl ?_
          refine j_iload hX dX12_moves_49 rfl ?_
          refine j_dup2 hX dX12_moves_51 rfl rfl ?_
          obtain ⟨hg, hf⟩ := gd hf
          refine j_iald hX h1 hg dX12_moves_52 ?_
          refine j_iconst hX dX12_moves_53 ic_1 ?_
          refine j_isub hX dX12_moves_54 ?_
          obtain ⟨hg, hf⟩ := gd hf
          have hf := ltd hf
          refine j_iast hX h1 hg dX12_moves_55 ?_
          refine j_goto (tgt := 84) hX dX12_moves_56 (by decide) ?_
          exact aJx (kX12_moves_84 hX hr hlk hRf hRl h1 ih hG  hf) (And.intro rfl (And.intro rfl (And.intro rfl (And.intro rfl (And.intro rfl (And.intro rfl (rfl)))))))
def fX12_moves (w1 : Nat) (n1 : Nat) (a2 : Int32) (a3 : Int32) (i : Nat → Nat → Int32) : Option ((Nat → Nat → Int32)) := if aIn (((6 : Int32) * a2) + (1 : Int32)) n1 = true then
    (lt (i w1 ((((6 : Int32) * a2) + (1 : Int32)) : Int32).toNatClampNeg) fun t1 =>
    fX12_moves_13 w1 n1 fuel a2 a3 t1 0 i) else none
theorem kX12_moves  {w1 : Nat} {n1 : Nat} {iR : Nat → Nat → Int32} (hX : aX p s m args c RX12 cX12_moves 7 D cA A ad0) (hr : meth.sig.returnType = none) (hlk : meth.locks = false) (hRf : 0 ≤ R.frames) (hRl : 64 * 0 ≤ R.locals) (h1 : sh[w1]? = some (.inl (.int, n1))) {a2 : Int32} {a3 : Int32} (hG : aGood sh rv) (hf : fX12_moves w1 n1 a2 a3 i = some (iR)) : aJ p l e R s m args below meth c (MQ below (aPost D cA ad0 A (sh, i0, lo0, rv0) none (sh, iR, lo, rv)) args s (sh.length - sh.length) (aSn sh - aSn sh) A) D cA A ad0 7 sh.length (aSn sh) 0 [some (.ref (100 + 50)), some (.ref (100 + w1)), some (.int a2), some (.int a3), none, none, none] [] (sh, i, lo, rv) := by
  unfold fX12_moves at hf
  refine j_aload_n hX dX12_moves_0 rfl ?_
  refine j_bipush hX dX12_moves_1 bp_6 ?_
  refine j_iload_n hX dX12_moves_3 rfl ?_
  refine j_imul hX dX12_moves_4 ?_
  refine j_iconst hX dX12_moves_5 ic_1 ?_
  refine jpc (b := 6) rfl ?_
  refine j_iadd hX dX12_moves_6 ?_
  obtain ⟨hg, hf⟩ := gd hf
  refine j_iald hX h1 hg dX12_moves_7 ?_
  have hf := ltd hf
  refine j_istore hX dX12_moves_8 (by decide) rfl ?_
  refine j_iconst hX dX12_moves_10 ic_0 ?_
  refine j_istore hX dX12_moves_11 (by decide) rfl ?_
  exact aJx (kX12_moves_13 hX hr hlk hRf hRl h1 fuel _ _ _ _ _ hG  hf) (And.intro rfl (And.intro rfl (And.intro rfl (And.intro rfl (And.intro rfl (And.intro rfl (rfl)))))))
theorem okX12_moves {l : Launch} {sh : List aSh} {i : Nat → Nat → Int32} {lo : Nat → Nat → Int64} {rv : Nat → Nat → Option Nat}  {w1 : Nat} {n1 : Nat} {a2 : Int32} {a3 : Int32} {iR : Nat → Nat → Int32} (hG : aGood sh rv) (h1 : sh[w1]? = some (.inl (.int, n1))) (hf : fX12_moves w1 n1 a2 a3 i = some (iR)) : aM l yX12_moves cX12_moves 7 none 0 [.ref (100 + 50), .ref (100 + w1), .int a2, .int a3] (sh, i, lo, rv) none (sh, iR, lo, rv) :=
  aM_of (by decide) (Nat.le_of_ble_eq_true rfl) (Nat.le_refl _) (Nat.le_refl _) (fun p e s m args below meth c D cA A ad0 hX hr hlk hnm => kX12_moves hX hr hlk (Nat.le_refl _) (Nat.le_refl _) h1 hG hf)
def fX12_move (a1 : Int32) (a2 : Int32) (i : Nat → Nat → Int32) : Option ((Int32) × (Nat → Nat → Int32)) := lt (u2 i 50 0 0) fun i1 =>
    bn1 (fX12_canMove 63 296 a1 a2 i1) fun v2 =>
    if v2 = 0 then (some ((-1), i1)) else (bn1 (fX12_remember i1) fun i4 =>
    if aIn (((6 : Int32) * a1) + (1 : Int32)) 296 = true then
    (lt (i4 63 ((((6 : Int32) * a1) + (1 : Int32)) : Int32).toNatClampNeg) fun t6 =>
    bn1 (fX12_moves 63 296 a1 a2 i4) fun i7 =>
    some (t6, i7)) else none)
theorem kX12_move  {vR : Int32} {iR : Nat → Nat → Int32} (hX : aX p s m args c RX12 cX12_move 4 D cA A ad0) (hr : meth.sig.returnType = (some .int)) (hlk : meth.locks = false) (hRf : 2 ≤ R.frames) (hRl : 64 * 2 ≤ R.locals) {a1 : Int32} {a2 : Int32} (hG : aGood sh rv) (hf : fX12_move a1 a2 i = some (vR, iR)) : aJ p l e R s m args below meth c (MQ below (aPost D cA ad0 A (sh, i0, lo0, rv0) (some (.int vR)) (sh, iR, lo, rv)) args s (sh.length - sh.length) (aSn sh - aSn sh) A) D cA A ad0 4 sh.length (aSn sh) 0 [some (.ref (100 + 50)), some (.int a1), some (.int a2), none] [] (sh, i, lo, rv) := by
  unfold fX12_move at hf
  refine j_aload_n hX dX12_move_0 rfl ?_
  refine j_iconst hX dX12_move_1 ic_0 ?_
  have hf := ltd hf
  refine j_putI (k := 0) hX kX12 (by decide) fk_X12_99 dX12_move_2 (sh_50 hG) rfl rfl rfl rfl ?_
  refine j_aload_n hX dX12_move_5 rfl ?_
  refine j_aload_n hX dX12_move_6 rfl ?_
  refine jpc (b := 7) rfl ?_
  refine j_getR (k := 33) hX kX12 (by decide) fk_X12_61 (rf_50_33 hG) dX12_move_7 (sh_50 hG) rfl ?_
  refine j_iload_n hX dX12_move_10 rfl ?_
  refine j_iload_n hX dX12_move_11 rfl ?_
  obtain ⟨v2, hh3, hf⟩ := bd1 hf
  refine j_cV3i hX lk_X12_382 kX12 dX12_move_12 (sh_50 hG) (okX12_canMove hG (sh_63 hG) hh3) rfl rfl (rmm (by omega) hRf hRl (by decide)) (Nat.le_of_ble_eq_true rfl) (Nat.le_add_right _ _) (Nat.le_add_right _ _) ?_
  refine j_if_ne (tgt := 20) hX dX12_move_15 (by decide) (fun hc => ?_) (fun hc => ?_)
  · have hf := ifn hc hf
    refine j_aload_n hX dX12_move_20 rfl ?_
    obtain ⟨i4, hh5, hf⟩ := bd1 hf
    refine j_cV0v hX lk_X12_386 kX12 dX12_move_21 (sh_50 hG) (okX12_remember hG hh5) rfl rfl (rmm (by omega) hRf hRl (by decide)) (Nat.le_of_ble_eq_true rfl) (Nat.le_add_right _ _) (Nat.le_add_right _ _) ?_
    refine j_aload_n hX dX12_move_24 rfl ?_
    refine j_getR (k := 33) hX kX12 (by decide) fk_X12_61 (rf_50_33 hG) dX12_move_25 (sh_50 hG) rfl ?_
    refine j_bipush hX dX12_move_28 bp_6 ?_
    refine jpc (b := 30) rfl ?_
    refine j_iload_n hX dX12_move_30 rfl ?_
    refine j_imul hX dX12_move_31 ?_
    refine j_iconst hX dX12_move_32 ic_1 ?_
    refine j_iadd hX dX12_move_33 ?_
    obtain ⟨hg, hf⟩ := gd hf
    refine j_iald hX (sh_63 hG) hg dX12_move_34 ?_
    have hf := ltd hf
    refine j_istore_n hX dX12_move_35 (by decide) rfl ?_
    refine j_aload_n hX dX12_move_36 rfl ?_
    refine j_aload_n hX dX12_move_37 rfl ?_
    refine j_getR (k := 33) hX kX12 (by decide) fk_X12_61 (rf_50_33 hG) dX12_move_38 (sh_50 hG) rfl ?_
    refine j_iload_n hX dX12_move_41 rfl ?_
    refine jpc (b := 42) rfl ?_
    refine j_iload_n hX dX12_move_42 rfl ?_
    obtain ⟨i7, hh8, hf⟩ := bd1 hf
    refine j_cV3v hX lk_X12_389 kX12 dX12_move_43 (sh_50 hG) (okX12_moves hG (sh_63 hG) hh8) rfl rfl (rmm (by omega) hRf hRl (by decide)) (Nat.le_of_ble_eq_true rfl) (Nat.le_add_right _ _) (Nat.le_add_right _ _) ?_
    refine j_iload_n hX dX12_move_46 rfl ?_
    cases hf
    exact j_ret hX hr hlk rfl dX12_move_47
  · have hf := ifp hc hf
    refine j_iconst hX dX12_move_18 ic_m1 ?_
    cases hf
    exact j_ret hX hr hlk rfl dX12_move_19
theorem okX12_move {l : Launch} {sh : List aSh} {i : Nat → Nat → Int32} {lo : Nat → Nat → Int64} {rv : Nat → Nat → Option Nat}  {a1 : Int32} {a2 : Int32} {vR : Int32} {iR : Nat → Nat → Int32} (hG : aGood sh rv) (hf : fX12_move a1 a2 i = some (vR, iR)) : aM l yX12_move cX12_move 4 (some .int) 2 [.ref (100 + 50), .int a1, .int a2] (sh, i, lo, rv) (some (.int vR)) (sh, iR, lo, rv) :=
  aM_of (by decide) (Nat.le_of_ble_eq_true rfl) (Nat.le_refl _) (Nat.le_refl _) (fun p e s m args below meth c D cA A ad0 hX hr hlk hnm => kX12_move hX hr hlk (Nat.le_refl _) (Nat.le_refl _) hG hf)
def fX12_canSay (w1 : Nat) (n1 : Nat) (a2 : Int32) (a3 : Int32) (i : Nat → Nat → Int32) : Option ((Int32)) := bn1 (fX12_isSleeper a2 i) fun v1 =>
    if v1 = 0 then (some (0)) else (bn1 (fX12_isChild a2 i) fun v3 =>
    if v3 = 0 then (if aIn (((6 : Int32) * a2) + (1 : Int32)) 54 = true then
    (if (i 57 ((((6 : Int32) * a2) + (1 : Int32)) : Int32).toNatClampNeg) ≤ 0 then (some (0)) else (bn1 (fX12_isIn (a3 : Int32).toInt64 0 2) fun v5 =>
    if v5 = 0 then (some (0)) else (if aIn (((6 : Int32) * a2) + (2 : Int32)) n1 = true then
    (if (i w1 ((((6 : Int32) * a2) + (2 : Int32)) : Int32).toNatClampNeg) = a3 then (some (0)) else (some (1))) else none))) else none) else (some (0)))
theorem kX12_canSay  {w1 : Nat} {n1 : Nat} {vR : Int32} (hX : aX p s m args c RX12 cX12_canSay 4 D cA A ad0) (hr : meth.sig.returnType = (some .boolean)) (hlk : meth.locks = false) (hRf : 1 ≤ R.frames) (hRl : 64 * 1 ≤ R.locals) (h1 : sh[w1]? = some (.inl (.int, n1))) {a2 : Int32} {a3 : Int32} (hG : aGood sh rv) (hf : fX12_canSay w1 n1 a2 a3 i = some (vR)) : aJ p l e R s m args below meth c (MQ below (aPost D cA ad0 A (sh, i0, lo0, rv0) (some (.int vR)) (sh, i, lo, rv)) args s (sh.length - sh.length) (aSn sh - aSn sh) A) D cA A ad0 4 sh.length (aSn sh) 0 [some (.ref (100 + 50)), some (.ref (100 + w1)), some (.int a2), some (.int a3)] [] (sh, i, lo, rv) := by
  unfold fX12_canSay at hf
  refine j_aload_n hX dX12_canSay_0 rfl ?_
  refine j_iload_n hX dX12_canSay_1 rfl ?_
  obtain ⟨v1, hh2, hf⟩ := bd1 hf
  refine j_cV1i hX lk_X12_369 kX12 dX12_canSay_2 (sh_50 hG) (okX12_isSleeper hG hh2) rfl rfl (rmm (by omega) hRf hRl (by decide)) (Nat.le_of_ble_eq_true rfl) (Nat.le_add_right _ _) (Nat.le_add_right _ _) ?_
  refine j_if_eq (tgt := 58) hX dX12_canSay_5 (by decide) (fun hc => ?_) (fun hc => ?_)
  · have hf := ifp hc hf
    refine j_iconst hX dX12_canSay_58 ic_0 ?_
    cases hf
    exact j_ret hX hr hlk rfl dX12_canSay_59
  · have hf := ifn hc hf
    refine j_aload_n hX dX12_canSay_8 rfl ?_
    refine j_iload_n hX dX12_canSay_9 rfl ?_
    obtain ⟨v3, hh4, hf⟩ := bd1 hf
    refine j_cV1i hX lk_X12_379 kX12 dX12_canSay_10 (sh_50 hG) (okX12_isChild hG hh4) rfl rfl (rmm (by omega) hRf hRl (by decide)) (Nat.le_of_ble_eq_true rfl) (Nat.le_add_right _ _) (Nat.le_add_right _ _) ?_
    refine j_if_ne (tgt := 58) hX dX12_canSay_13 (by decide) (fun hc => ?_) (fun hc => ?_)
    · have hf := ifn hc hf
      refine j_iconst hX dX12_canSay_58 ic_0 ?_
      cases hf
      exact j_ret hX hr hlk rfl dX12_canSay_59
    · have hf := ifp hc hf
      refine j_aload_n hX dX12_canSay_16 rfl ?_
      refine j_getR (k := 20) hX kX12 (by decide) fk_X12_43 (rf_50_20 hG) dX12_canSay_17 (sh_50 hG) rfl ?_
      refine j_bipush hX dX12_canSay_20 bp_6 ?_
      refine j_iload_n hX dX12_canSay_22 rfl ?_
      refine j_imul hX dX12_canSay_23 ?_
      refine jpc (b := 24) rfl ?_
      refine j_iconst hX dX12_canSay_24 ic_1 ?_
      refine j_iadd hX dX12_canSay_25 ?_
      obtain ⟨hg, hf⟩ := gd hf
      refine j_iald hX (sh_57 hG) hg dX12_canSay_26 ?_
      refine j_if_le (tgt := 58) hX dX12_canSay_27 (by decide) (fun hc => ?_) (fun hc => ?_)
      · have hf := ifp hc hf
        refine j_iconst hX dX12_canSay_58 ic_0 ?_
        cases hf
        exact j_ret hX hr hlk rfl dX12_canSay_59
      · have hf := ifn hc hf
        refine j_iload_n hX dX12_canSay_30 rfl ?_
        refine j_i2l hX dX12_canSay_31 ?_
        refine j_lconst (v := 0) hX dX12_canSay_32 (by decide) ?_
        refine j_ldc2_w hX kc_X12_278 dX12_canSay_33 ?_
        obtain ⟨v5, hh6, hf⟩ := bd1 hf
        refine j_cS3i hX lk_X12_220 dX12_canSay_36 (okX12_isIn hG hh6) rfl rfl (rmm (by omega) hRf hRl (by decide)) (Nat.le_of_ble_eq_true rfl) (Nat.le_add_right _ _) (Nat.le_add_right _ _) ?_
        refine jpc (b := 39) rfl ?_
        refine j_if_eq (tgt := 58) hX dX12_canSay_39 (by decide) (fun hc => ?_) (fun hc => ?_)
        · have hf := ifp hc hf
          refine j_iconst hX dX12_canSay_58 ic_0 ?_
          cases hf
          exact j_ret hX hr hlk rfl dX12_canSay_59
        · have hf := ifn hc hf
          refine j_aload_n hX dX12_canSay_42 rfl ?_
          refine j_bipush hX dX12_canSay_43 bp_6 ?_
          refine j_iload_n hX dX12_canSay_45 rfl ?_
          refine j_imul hX dX12_canSay_46 ?_
          refine j_iconst hX dX12_canSay_47 ic_2 ?_
          refine jpc (b := 48) rfl ?_
          refine j_iadd hX dX12_canSay_48 ?_
          obtain ⟨hg, hf⟩ := gd hf
          refine j_iald hX h1 hg dX12_canSay_49 ?_
          refine j_iload_n hX dX12_canSay_50 rfl ?_
          refine j_icmp_eq (tgt := 58) hX dX12_canSay_51 (by decide) (fun hc => ?_) (fun hc => ?_)
          · have hf := ifp hc hf
            refine j_iconst hX dX12_canSay_58 ic_0 ?_
            cases hf
            exact j_ret hX hr hlk rfl dX12_canSay_59
          · have hf := ifn hc hf
            refine j_iconst hX dX12_canSay_54 ic_1 ?_
            refine j_goto (tgt := 59) hX dX12_canSay_55 (by decide) ?_
            cases hf
            exact j_ret hX hr hlk rfl dX12_canSay_59
theorem okX12_canSay {l : Launch} {sh : List aSh} {i : Nat → Nat → Int32} {lo : Nat → Nat → Int64} {rv : Nat → Nat → Option Nat}  {w1 : Nat} {n1 : Nat} {a2 : Int32} {a3 : Int32} {vR : Int32} (hG : aGood sh rv) (h1 : sh[w1]? = some (.inl (.int, n1))) (hf : fX12_canSay w1 n1 a2 a3 i = some (vR)) : aM l yX12_canSay cX12_canSay 4 (some .boolean) 1 [.ref (100 + 50), .ref (100 + w1), .int a2, .int a3] (sh, i, lo, rv) (some (.int vR)) (sh, i, lo, rv) :=
  aM_of (by decide) (Nat.le_of_ble_eq_true rfl) (Nat.le_refl _) (Nat.le_refl _) (fun p e s m args below meth c D cA A ad0 hX hr hlk hnm => kX12_canSay hX hr hlk (Nat.le_refl _) (Nat.le_refl _) h1 hG hf)
def fX12_say (a1 : Int32) (a2 : Int32) (i : Nat → Nat → Int32) : Option ((Int32) × (Nat → Nat → Int32)) := lt (u2 i 50 0 0) fun i1 =>
    bn1 (fX12_canSay 63 296 a1 a2 i1) fun v2 =>
    if v2 = 0 then (some ((-1), i1)) else (bn1 (fX12_remember i1) fun i4 =>
    if aIn (((6 : Int32) * a1) + (2 : Int32)) 296 = true then
    (lt (i4 63 ((((6 : Int32) * a1) + (2 : Int32)) : Int32).toNatClampNeg) fun t6 =>
    if aIn (((6 : Int32) * a1) + (2 : Int32)) 296 = true then
    (lt (u2 i4 63 ((((6 : Int32) * a1) + (2 : Int32)) : Int32).toNatClampNeg a2) fun i7 => some (t6, i7)) else none) else none)
theorem kX12_say  {vR : Int32} {iR : Nat → Nat → Int32} (hX : aX p s m args c RX12 cX12_say 4 D cA A ad0) (hr : meth.sig.returnType = (some .int)) (hlk : meth.locks = false) (hRf : 2 ≤ R.frames) (hRl : 64 * 2 ≤ R.locals) {a1 : Int32} {a2 : Int32} (hG : aGood sh rv) (hf : fX12_say a1 a2 i = some (vR, iR)) : aJ p l e R s m args below meth c (MQ below (aPost D cA ad0 A (sh, i0, lo0, rv0) (some (.int vR)) (sh, iR, lo, rv)) args s (sh.length - sh.length) (aSn sh - aSn sh) A) D cA A ad0 4 sh.length (aSn sh) 0 [some (.ref (100 + 50)), some (.int a1), some (.int a2), none] [] (sh, i, lo, rv) := by
  unfold fX12_say at hf
  refine j_aload_n hX dX12_say_0 rfl ?_
  refine j_iconst hX dX12_say_1 ic_0 ?_
  have hf := ltd hf
  refine j_putI (k := 0) hX kX12 (by decide) fk_X12_99 dX12_say_2 (sh_50 hG) rfl rfl rfl rfl ?_
  refine j_aload_n hX dX12_say_5 rfl ?_
  refine j_aload_n hX dX12_say_6 rfl ?_
  refine jpc (b := 7) rfl ?_
  refine j_getR (k := 33) hX kX12 (by decide) fk_X12_61 (rf_50_33 hG) dX12_say_7 (sh_50 hG) rfl ?_
  refine j_iload_n hX dX12_say_10 rfl ?_
  refine j_iload_n hX dX12_say_11 rfl ?_
  obtain ⟨v2, hh3, hf⟩ := bd1 hf
  refine j_cV3i hX lk_X12_393 kX12 dX12_say_12 (sh_50 hG) (okX12_canSay hG (sh_63 hG) hh3) rfl rfl (rmm (by omega) hRf hRl (by decide)) (Nat.le_of_ble_eq_true rfl) (Nat.le_add_right _ _) (Nat.le_add_right _ _) ?_
  refine j_if_ne (tgt := 20) hX dX12_say_15 (by decide) (fun hc => ?_) (fun hc => ?_)
  · have hf := ifn hc hf
    refine j_aload_n hX dX12_say_20 rfl ?_
    obtain ⟨i4, hh5, hf⟩ := bd1 hf
    refine j_cV0v hX lk_X12_386 kX12 dX12_say_21 (sh_50 hG) (okX12_remember hG hh5) rfl rfl (rmm (by omega) hRf hRl (by decide)) (Nat.le_of_ble_eq_true rfl) (Nat.le_add_right _ _) (Nat.le_add_right _ _) ?_
    refine j_aload_n hX dX12_say_24 rfl ?_
    refine j_getR (k := 33) hX kX12 (by decide) fk_X12_61 (rf_50_33 hG) dX12_say_25 (sh_50 hG) rfl ?_
    refine j_bipush hX dX12_say_28 bp_6 ?_
    refine jpc (b := 30) rfl ?_
    refine j_iload_n hX dX12_say_30 rfl ?_
    refine j_imul hX dX12_say_31 ?_
    refine j_iconst hX dX12_say_32 ic_2 ?_
    refine j_iadd hX dX12_say_33 ?_
    obtain ⟨hg, hf⟩ := gd hf
    refine j_iald hX (sh_63 hG) hg dX12_say_34 ?_
    have hf := ltd hf
    refine j_istore_n hX dX12_say_35 (by decide) rfl ?_
    refine j_aload_n hX dX12_say_36 rfl ?_
    refine j_getR (k := 33) hX kX12 (by decide) fk_X12_61 (rf_50_33 hG) dX12_say_37 (sh_50 hG) rfl ?_
    refine j_bipush hX dX12_say_40 bp_6 ?_
    refine j_iload_n hX dX12_say_42 rfl ?_
    refine jpc (b := 43) rfl ?_
    refine j_imul hX dX12_say_43 ?_
    refine j_iconst hX dX12_say_44 ic_2 ?_
    refine j_iadd hX dX12_say_45 ?_
    refine j_iload_n hX dX12_say_46 rfl ?_
    obtain ⟨hg, hf⟩ := gd hf
    have hf := ltd hf
    refine j_iast hX (sh_63 hG) hg dX12_say_47 ?_
    refine j_iload_n hX dX12_say_48 rfl ?_
    cases hf
    exact j_ret hX hr hlk rfl dX12_say_49
  · have hf := ifp hc hf
    refine j_iconst hX dX12_say_18 ic_m1 ?_
    cases hf
    exact j_ret hX hr hlk rfl dX12_say_19
theorem okX12_say {l : Launch} {sh : List aSh} {i : Nat → Nat → Int32} {lo : Nat → Nat → Int64} {rv : Nat → Nat → Option Nat}  {a1 : Int32} {a2 : Int32} {vR : Int32} {iR : Nat → Nat → Int32} (hG : aGood sh rv) (hf : fX12_say a1 a2 i = some (vR, iR)) : aM l yX12_say cX12_say 4 (some .int) 2 [.ref (100 + 50), .int a1, .int a2] (sh, i, lo, rv) (some (.int vR)) (sh, iR, lo, rv) :=
  aM_of (by decide) (Nat.le_of_ble_eq_true rfl) (Nat.le_refl _) (Nat.le_refl _) (fun p e s m args below meth c D cA A ad0 hX hr hlk hnm => kX12_say hX hr hlk (Nat.le_refl _) (Nat.le_refl _) hG hf)
def fX12_canWake (w1 : Nat) (n1 : Nat) (a2 : Int32) (i : Nat → Nat → Int32) : Option ((Int32)) := bn1 (fX12_isSleeper a2 i) fun v1 =>
    if v1 = 0 then (some (0)) else (if aIn (((6 : Int32) * a2) + (3 : Int32)) n1 = true then
    (if (i w1 ((((6 : Int32) * a2) + (3 : Int32)) : Int32).toNatClampNeg) = 1 then (some (1)) else (some (0))) else none)
theorem kX12_canWake  {w1 : Nat} {n1 : Nat} {vR : Int32} (hX : aX p s m args c RX12 cX12_canWake 3 D cA A ad0) (hr : meth.sig.returnType = (some .boolean)) (hlk : meth.locks = false) (hRf : 1 ≤ R.frames) (hRl : 64 * 1 ≤ R.locals) (h1 : sh[w1]? = some (.inl (.int, n1))) {a2 : Int32} (hG : aGood sh rv) (hf : fX12_canWake w1 n1 a2 i = some (vR)) : aJ p l e R s m args below meth c (MQ below (aPost D cA ad0 A (sh, i0, lo0, rv0) (some (.int vR)) (sh, i, lo, rv)) args s (sh.length - sh.length) (aSn sh - aSn sh) A) D cA A ad0 3 sh.length (aSn sh) 0 [some (.ref (100 + 50)), some (.ref (100 + w1)), some (.int a2)] [] (sh, i, lo, rv) := by
  unfold fX12_canWake at hf
  refine j_aload_n hX dX12_canWake_0 rfl ?_
  refine j_iload_n hX dX12_canWake_1 rfl ?_
  obtain ⟨v1, hh2, hf⟩ := bd1 hf
  refine j_cV1i hX lk_X12_369 kX12 dX12_canWake_2 (sh_50 hG) (okX12_isSleeper hG hh2) rfl rfl (rmm (by omega) hRf hRl (by decide)) (Nat.le_of_ble_eq_true rfl) (Nat.le_add_right _ _) (Nat.le_add_right _ _) ?_
  refine j_if_eq (tgt := 24) hX dX12_canWake_5 (by decide) (fun hc => ?_) (fun hc => ?_)
  · have hf := ifp hc hf
    refine j_iconst hX dX12_canWake_24 ic_0 ?_
    cases hf
    exact j_ret hX hr hlk rfl dX12_canWake_25
  · have hf := ifn hc hf
    refine j_aload_n hX dX12_canWake_8 rfl ?_
    refine j_bipush hX dX12_canWake_9 bp_6 ?_
    refine j_iload_n hX dX12_canWake_11 rfl ?_
    refine j_imul hX dX12_canWake_12 ?_
    refine j_iconst hX dX12_canWake_13 ic_3 ?_
    refine jpc (b := 14) rfl ?_
    refine j_iadd hX dX12_canWake_14 ?_
    obtain ⟨hg, hf⟩ := gd hf
    refine j_iald hX h1 hg dX12_canWake_15 ?_
    refine j_iconst hX dX12_canWake_16 ic_1 ?_
    refine j_icmp_ne (tgt := 24) hX dX12_canWake_17 (by decide) (fun hc => ?_) (fun hc => ?_)
    · have hf := ifn hc hf
      refine j_iconst hX dX12_canWake_24 ic_0 ?_
      cases hf
      exact j_ret hX hr hlk rfl dX12_canWake_25
    · have hf := ifp hc hf
      refine j_iconst hX dX12_canWake_20 ic_1 ?_
      refine j_goto (tgt := 25) hX dX12_canWake_21 (by decide) ?_
      cases hf
      exact j_ret hX hr hlk rfl dX12_canWake_25
theorem okX12_canWake {l : Launch} {sh : List aSh} {i : Nat → Nat → Int32} {lo : Nat → Nat → Int64} {rv : Nat → Nat → Option Nat}  {w1 : Nat} {n1 : Nat} {a2 : Int32} {vR : Int32} (hG : aGood sh rv) (h1 : sh[w1]? = some (.inl (.int, n1))) (hf : fX12_canWake w1 n1 a2 i = some (vR)) : aM l yX12_canWake cX12_canWake 3 (some .boolean) 1 [.ref (100 + 50), .ref (100 + w1), .int a2] (sh, i, lo, rv) (some (.int vR)) (sh, i, lo, rv) :=
  aM_of (by decide) (Nat.le_of_ble_eq_true rfl) (Nat.le_refl _) (Nat.le_refl _) (fun p e s m args below meth c D cA A ad0 hX hr hlk hnm => kX12_canWake hX hr hlk (Nat.le_refl _) (Nat.le_refl _) h1 hG hf)
def fX12_wake (a1 : Int32) (i : Nat → Nat → Int32) (rv : Nat → Nat → Option Nat) : Option ((Int32) × (Nat → Nat → Int32) × (Nat → Nat → Option Nat)) := lt (u2 i 50 0 0) fun i1 =>
    bn1 (fX12_canWake 63 296 a1 i1) fun v2 =>
    if v2 = 0 then (some ((-1), i1, rv)) else (bn1 (fX12_remember i1) fun i4 =>
    bn3 (fX12_wakes 63 296 a1 0 9 i4 rv) fun v6 i7 rv8 =>
    some (v6, i7, rv8))
theorem kX12_wake  {vR : Int32} {iR : Nat → Nat → Int32} {rvR : Nat → Nat → Option Nat} (hX : aX p s m args c RX12 cX12_wake 2 D cA A ad0) (hr : meth.sig.returnType = (some .int)) (hlk : meth.locks = false) (hRf : 1148 ≤ R.frames) (hRl : 64 * 1148 ≤ R.locals) {a1 : Int32} (hG : aGood sh rv) (hf : fX12_wake a1 i rv = some (vR, iR, rvR)) : aJ p l e R s m args below meth c (MQ below (aPost D cA ad0 A (sh, i0, lo0, rv0) (some (.int vR)) (sh, iR, lo, rvR)) args s (sh.length - sh.length) (aSn sh - aSn sh) A) D cA A ad0 2 sh.length (aSn sh) 0 [some (.ref (100 + 50)), some (.int a1)] [] (sh, i, lo, rv) := by
  unfold fX12_wake at hf
  refine j_aload_n hX dX12_wake_0 rfl ?_
  refine j_iconst hX dX12_wake_1 ic_0 ?_
  have hf := ltd hf
  refine j_putI (k := 0) hX kX12 (by decide) fk_X12_99 dX12_wake_2 (sh_50 hG) rfl rfl rfl rfl ?_
  refine j_aload_n hX dX12_wake_5 rfl ?_
  refine j_aload_n hX dX12_wake_6 rfl ?_
  refine jpc (b := 7) rfl ?_
  refine j_getR (k := 33) hX kX12 (by decide) fk_X12_61 (rf_50_33 hG) dX12_wake_7 (sh_50 hG) rfl ?_
  refine j_iload_n hX dX12_wake_10 rfl ?_
  obtain ⟨v2, hh3, hf⟩ := bd1 hf
  refine j_cV2i hX lk_X12_396 kX12 dX12_wake_11 (sh_50 hG) (okX12_canWake hG (sh_63 hG) hh3) rfl rfl (rmm (by omega) hRf hRl (by decide)) (Nat.le_of_ble_eq_true rfl) (Nat.le_add_right _ _) (Nat.le_add_right _ _) ?_
  refine j_if_ne (tgt := 19) hX dX12_wake_14 (by decide) (fun hc => ?_) (fun hc => ?_)
  · have hf := ifn hc hf
    refine j_aload_n hX dX12_wake_19 rfl ?_
    obtain ⟨i4, hh5, hf⟩ := bd1 hf
    refine j_cV0v hX lk_X12_386 kX12 dX12_wake_20 (sh_50 hG) (okX12_remember hG hh5) rfl rfl (rmm (by omega) hRf hRl (by decide)) (Nat.le_of_ble_eq_true rfl) (Nat.le_add_right _ _) (Nat.le_add_right _ _) ?_
    refine j_aload_n hX dX12_wake_23 rfl ?_
    refine j_aload_n hX dX12_wake_24 rfl ?_
    refine j_getR (k := 33) hX kX12 (by decide) fk_X12_61 (rf_50_33 hG) dX12_wake_25 (sh_50 hG) rfl ?_
    refine jpc (b := 28) rfl ?_
    refine j_iload_n hX dX12_wake_28 rfl ?_
    refine j_iconst hX dX12_wake_29 ic_0 ?_
    refine j_bipush hX dX12_wake_30 bp_9 ?_
    obtain ⟨v6, i7, rv8, hh9, hf⟩ := bd3 hf
    refine j_cV4i hX lk_X12_352 kX12 dX12_wake_32 (sh_50 hG) (okX12_wakes hG (sh_63 hG) hh9) rfl rfl (rmm (by omega) hRf hRl (by decide)) (Nat.le_of_ble_eq_true rfl) (Nat.le_add_right _ _) (Nat.le_add_right _ _) ?_
    have hG := gdX12_wakes hG (sh_63 hG) hh9
    cases hf
    exact j_ret hX hr hlk rfl dX12_wake_35
  · have hf := ifp hc hf
    refine j_iconst hX dX12_wake_17 ic_m1 ?_
    cases hf
    exact j_ret hX hr hlk rfl dX12_wake_18
theorem gdX12_wake {vR : Int32} {iR : Nat → Nat → Int32} {rvR : Nat → Nat → Option Nat} {a1 : Int32} (hG : aGood sh rv) (hf : fX12_wake a1 i rv = some (vR, iR, rvR)) : aGood sh rvR := by
  unfold fX12_wake at hf
  have hf := ltd hf
  obtain ⟨v2, hh3, hf⟩ := bd1 hf
  refine ifs2 hf (fun hc hf => ?_) (fun hc hf => ?_)
  · have hf := hf
    obtain ⟨i4, hh5, hf⟩ := bd1 hf
    obtain ⟨v6, i7, rv8, hh9, hf⟩ := bd3 hf
    have hG := gdX12_wakes hG (sh_63 hG) hh9
    cases hf
    exact hG
  · have hf := hf
    cases hf
    exact hG
theorem okX12_wake {l : Launch} {sh : List aSh} {i : Nat → Nat → Int32} {lo : Nat → Nat → Int64} {rv : Nat → Nat → Option Nat}  {a1 : Int32} {vR : Int32} {iR : Nat → Nat → Int32} {rvR : Nat → Nat → Option Nat} (hG : aGood sh rv) (hf : fX12_wake a1 i rv = some (vR, iR, rvR)) : aM l yX12_wake cX12_wake 2 (some .int) 1148 [.ref (100 + 50), .int a1] (sh, i, lo, rv) (some (.int vR)) (sh, iR, lo, rvR) :=
  aM_of (by decide) (Nat.le_of_ble_eq_true rfl) (Nat.le_refl _) (Nat.le_refl _) (fun p e s m args below meth c D cA A ad0 hX hr hlk hnm => kX12_wake hX hr hlk (Nat.le_refl _) (Nat.le_refl _) hG hf)
def fX12_canLie (w1 : Nat) (n1 : Nat) (a2 : Int32) (i : Nat → Nat → Int32) : Option ((Int32)) := bn1 (fX12_isSleeper a2 i) fun v1 =>
    if v1 = 0 then (some (0)) else (if aIn (((6 : Int32) * a2) + (3 : Int32)) n1 = true then
    (if (i w1 ((((6 : Int32) * a2) + (3 : Int32)) : Int32).toNatClampNeg) = 0 then (some (1)) else (some (0))) else none)
theorem kX12_canLie  {w1 : Nat} {n1 : Nat} {vR : Int32} (hX : aX p s m args c RX12 cX12_canLie 3 D cA A ad0) (hr : meth.sig.returnType = (some .boolean)) (hlk : meth.locks = false) (hRf : 1 ≤ R.frames) (hRl : 64 * 1 ≤ R.locals) (h1 : sh[w1]? = some (.inl (.int, n1))) {a2 : Int32} (hG : aGood sh rv) (hf : fX12_canLie w1 n1 a2 i = some (vR)) : aJ p l e R s m args below meth c (MQ below (aPost D cA ad0 A (sh, i0, lo0, rv0) (some (.int vR)) (sh, i, lo, rv)) args s (sh.length - sh.length) (aSn sh - aSn sh) A) D cA A ad0 3 sh.length (aSn sh) 0 [some (.ref (100 + 50)), some (.ref (100 + w1)), some (.int a2)] [] (sh, i, lo, rv) := by
  unfold fX12_canLie at hf
  refine j_aload_n hX dX12_canLie_0 rfl ?_
  refine j_iload_n hX dX12_canLie_1 rfl ?_
  obtain ⟨v1, hh2, hf⟩ := bd1 hf
  refine j_cV1i hX lk_X12_369 kX12 dX12_canLie_2 (sh_50 hG) (okX12_isSleeper hG hh2) rfl rfl (rmm (by omega) hRf hRl (by decide)) (Nat.le_of_ble_eq_true rfl) (Nat.le_add_right _ _) (Nat.le_add_right _ _) ?_
  refine j_if_eq (tgt := 23) hX dX12_canLie_5 (by decide) (fun hc => ?_) (fun hc => ?_)
  · have hf := ifp hc hf
    refine j_iconst hX dX12_canLie_23 ic_0 ?_
    cases hf
    exact j_ret hX hr hlk rfl dX12_canLie_24
  · have hf := ifn hc hf
    refine j_aload_n hX dX12_canLie_8 rfl ?_
    refine j_bipush hX dX12_canLie_9 bp_6 ?_
    refine j_iload_n hX dX12_canLie_11 rfl ?_
    refine j_imul hX dX12_canLie_12 ?_
    refine j_iconst hX dX12_canLie_13 ic_3 ?_
    refine jpc (b := 14) rfl ?_
    refine j_iadd hX dX12_canLie_14 ?_
    obtain ⟨hg, hf⟩ := gd hf
    refine j_iald hX h1 hg dX12_canLie_15 ?_
    refine j_if_ne (tgt := 23) hX dX12_canLie_16 (by decide) (fun hc => ?_) (fun hc => ?_)
    · have hf := ifn hc hf
      refine j_iconst hX dX12_canLie_23 ic_0 ?_
      cases hf
      exact j_ret hX hr hlk rfl dX12_canLie_24
    · have hf := ifp hc hf
      refine j_iconst hX dX12_canLie_19 ic_1 ?_
      refine j_goto (tgt := 24) hX dX12_canLie_20 (by decide) ?_
      cases hf
      exact j_ret hX hr hlk rfl dX12_canLie_24
theorem okX12_canLie {l : Launch} {sh : List aSh} {i : Nat → Nat → Int32} {lo : Nat → Nat → Int64} {rv : Nat → Nat → Option Nat}  {w1 : Nat} {n1 : Nat} {a2 : Int32} {vR : Int32} (hG : aGood sh rv) (h1 : sh[w1]? = some (.inl (.int, n1))) (hf : fX12_canLie w1 n1 a2 i = some (vR)) : aM l yX12_canLie cX12_canLie 3 (some .boolean) 1 [.ref (100 + 50), .ref (100 + w1), .int a2] (sh, i, lo, rv) (some (.int vR)) (sh, i, lo, rv) :=
  aM_of (by decide) (Nat.le_of_ble_eq_true rfl) (Nat.le_refl _) (Nat.le_refl _) (fun p e s m args below meth c D cA A ad0 hX hr hlk hnm => kX12_canLie hX hr hlk (Nat.le_refl _) (Nat.le_refl _) h1 hG hf)
def fX12_asleepIn_4 (w1 : Nat) (n1 : Nat) : Nat → Int32 → Int32 → (Nat → Nat → Int32) → Option ((Int32))
  | 0, _, _, _ => none
  | n + 1, x2, x3, i => if (i 50 26) ≤ x3 then (some (x2)) else (if aIn (((6 : Int32) * x3) + (3 : Int32)) n1 = true then
    (lt (x2 + (i w1 ((((6 : Int32) * x3) + (3 : Int32)) : Int32).toNatClampNeg)) fun t1 =>
    fX12_asleepIn_4 w1 n1 n t1 (x3 + 1) i) else none)
theorem kX12_asleepIn_4  {w1 : Nat} {n1 : Nat} {vR : Int32} (hX : aX p s m args c RX12 cX12_asleepIn 4 D cA A ad0) (hr : meth.sig.returnType = (some .int)) (hlk : meth.locks = false) (hRf : 0 ≤ R.frames) (hRl : 64 * 0 ≤ R.locals) (h1 : sh[w1]? = some (.inl (.int, n1))) : ∀ (n : Nat) (x2 : Int32) (x3 : Int32), aGood sh rv → fX12_asleepIn_4 w1 n1 n x2 x3 i = some (vR) → aJ p l e R s m args below meth c (MQ below (aPost D cA ad0 A (sh, i0, lo0, rv0) (some (.int vR)) (sh, i, lo, rv)) args s (sh.length - sh.length) (aSn sh - aSn sh) A) D cA A ad0 4 sh.length (aSn sh) 4 [some (.ref (100 + 50)), some (.ref (100 + w1)), some (.int x2), some (.int x3)] [] (sh, i, lo, rv) := by
  intro n
  induction n with
  | zero => intros; rename_i hf; cases hf
  | succ n ih =>
    intro x2 x3 hG hf
    rw [fX12_asleepIn_4] at hf
    refine j_iload_n hX dX12_asleepIn_4 rfl ?_
    refine j_aload_n hX dX12_asleepIn_5 rfl ?_
    refine j_getI (k := 26) hX kX12 (by decide) fk_X12_297 dX12_asleepIn_6 (sh_50 hG) rfl ?_
    refine j_icmp_ge (tgt := 29) hX dX12_asleepIn_9 (by decide) (fun hc => ?_) (fun hc => ?_)
    · have hf := ifp hc hf
      refine j_iload_n hX dX12_asleepIn_29 rfl ?_
      cases hf
      exact j_ret hX hr hlk rfl dX12_asleepIn_30
    · have hf := ifn hc hf
      refine j_iload_n hX dX12_asleepIn_12 rfl ?_
      refine j_aload_n hX dX12_asleepIn_13 rfl ?_
      refine j_bipush hX dX12_asleepIn_14 bp_6 ?_
      refine j_iload_n hX dX12_asleepIn_16 rfl ?_
      refine j_imul hX dX12_asleepIn_17 ?_
      refine jpc (b := 18) rfl ?_
      refine j_iconst hX dX12_asleepIn_18 ic_3 ?_
      refine j_iadd hX dX12_asleepIn_19 ?_
      obtain ⟨hg, hf⟩ := gd hf
      refine j_iald hX h1 hg dX12_asleepIn_20 ?_
      refine j_iadd hX dX12_asleepIn_21 ?_
      have hf := ltd hf
      refine j_istore_n hX dX12_asleepIn_22 (by decide) rfl ?_
      refine j_iinc hX dX12_asleepIn_23 rfl (congrArg (_ + ·) ic_1) (by decide) rfl ?_
      refine j_goto (tgt := 4) hX dX12_asleepIn_26 (by decide) ?_
      exact aJx (ih _ _ hG  hf) (And.intro rfl (And.intro rfl (And.intro rfl (And.intro rfl (rfl)))))
def fX12_asleepIn (w1 : Nat) (n1 : Nat) (i : Nat → Nat → Int32) : Option ((Int32)) := fX12_asleepIn_4 w1 n1 fuel 0 0 i
theorem kX12_asleepIn  {w1 : Nat} {n1 : Nat} {vR : Int32} (hX : aX p s m args c RX12 cX12_asleepIn 4 D cA A ad0) (hr : meth.sig.returnType = (some .int)) (hlk : meth.locks = false) (hRf : 0 ≤ R.frames) (hRl : 64 * 0 ≤ R.locals) (h1 : sh[w1]? = some (.inl (.int, n1))) (hG : aGood sh rv) (hf : fX12_asleepIn w1 n1 i = some (vR)) : aJ p l e R s m args below meth c (MQ below (aPost D cA ad0 A (sh, i0, lo0, rv0) (some (.int vR)) (sh, i, lo, rv)) args s (sh.length - sh.length) (aSn sh - aSn sh) A) D cA A ad0 4 sh.length (aSn sh) 0 [some (.ref (100 + 50)), some (.ref (100 + w1)), none, none] [] (sh, i, lo, rv) := by
  unfold fX12_asleepIn at hf
  refine j_iconst hX dX12_asleepIn_0 ic_0 ?_
  refine j_istore_n hX dX12_asleepIn_1 (by decide) rfl ?_
  refine j_iconst hX dX12_asleepIn_2 ic_0 ?_
  refine j_istore_n hX dX12_asleepIn_3 (by decide) rfl ?_
  exact aJx (kX12_asleepIn_4 hX hr hlk hRf hRl h1 fuel _ _ hG  hf) (And.intro rfl (And.intro rfl (And.intro rfl (And.intro rfl (rfl)))))
theorem okX12_asleepIn {l : Launch} {sh : List aSh} {i : Nat → Nat → Int32} {lo : Nat → Nat → Int64} {rv : Nat → Nat → Option Nat}  {w1 : Nat} {n1 : Nat} {vR : Int32} (hG : aGood sh rv) (h1 : sh[w1]? = some (.inl (.int, n1))) (hf : fX12_asleepIn w1 n1 i = some (vR)) : aM l yX12_asleepIn cX12_asleepIn 4 (some .int) 0 [.ref (100 + 50), .ref (100 + w1)] (sh, i, lo, rv) (some (.int vR)) (sh, i, lo, rv) :=
  aM_of (by decide) (Nat.le_of_ble_eq_true rfl) (Nat.le_refl _) (Nat.le_refl _) (fun p e s m args below meth c D cA A ad0 hX hr hlk hnm => kX12_asleepIn hX hr hlk (Nat.le_refl _) (Nat.le_refl _) h1 hG hf)
def fX12_lie (a1 : Int32) (i : Nat → Nat → Int32) : Option ((Int32) × (Nat → Nat → Int32)) := lt (u2 i 50 0 0) fun i1 =>
    bn1 (fX12_canLie 63 296 a1 i1) fun v2 =>
    if v2 = 0 then (some ((-1), i1)) else (bn1 (fX12_remember i1) fun i4 =>
    if aIn (((6 : Int32) * a1) + (3 : Int32)) 296 = true then
    (lt (u2 i4 63 ((((6 : Int32) * a1) + (3 : Int32)) : Int32).toNatClampNeg 1) fun i6 => bn1 (fX12_asleepIn 63 296 i6) fun v7 =>
    some (v7, i6)) else none)
theorem kX12_lie  {vR : Int32} {iR : Nat → Nat → Int32} (hX : aX p s m args c RX12 cX12_lie 2 D cA A ad0) (hr : meth.sig.returnType = (some .int)) (hlk : meth.locks = false) (hRf : 2 ≤ R.frames) (hRl : 64 * 2 ≤ R.locals) {a1 : Int32} (hG : aGood sh rv) (hf : fX12_lie a1 i = some (vR, iR)) : aJ p l e R s m args below meth c (MQ below (aPost D cA ad0 A (sh, i0, lo0, rv0) (some (.int vR)) (sh, iR, lo, rv)) args s (sh.length - sh.length) (aSn sh - aSn sh) A) D cA A ad0 2 sh.length (aSn sh) 0 [some (.ref (100 + 50)), some (.int a1)] [] (sh, i, lo, rv) := by
  unfold fX12_lie at hf
  refine j_aload_n hX dX12_lie_0 rfl ?_
  refine j_iconst hX dX12_lie_1 ic_0 ?_
  have hf := ltd hf
  refine j_putI (k := 0) hX kX12 (by decide) fk_X12_99 dX12_lie_2 (sh_50 hG) rfl rfl rfl rfl ?_
  refine j_aload_n hX dX12_lie_5 rfl ?_
  refine j_aload_n hX dX12_lie_6 rfl ?_
  refine jpc (b := 7) rfl ?_
  refine j_getR (k := 33) hX kX12 (by decide) fk_X12_61 (rf_50_33 hG) dX12_lie_7 (sh_50 hG) rfl ?_
  refine j_iload_n hX dX12_lie_10 rfl ?_
  obtain ⟨v2, hh3, hf⟩ := bd1 hf
  refine j_cV2i hX lk_X12_400 kX12 dX12_lie_11 (sh_50 hG) (okX12_canLie hG (sh_63 hG) hh3) rfl rfl (rmm (by omega) hRf hRl (by decide)) (Nat.le_of_ble_eq_true rfl) (Nat.le_add_right _ _) (Nat.le_add_right _ _) ?_
  refine j_if_ne (tgt := 19) hX dX12_lie_14 (by decide) (fun hc => ?_) (fun hc => ?_)
  · have hf := ifn hc hf
    refine j_aload_n hX dX12_lie_19 rfl ?_
    obtain ⟨i4, hh5, hf⟩ := bd1 hf
    refine j_cV0v hX lk_X12_386 kX12 dX12_lie_20 (sh_50 hG) (okX12_remember hG hh5) rfl rfl (rmm (by omega) hRf hRl (by decide)) (Nat.le_of_ble_eq_true rfl) (Nat.le_add_right _ _) (Nat.le_add_right _ _) ?_
    refine j_aload_n hX dX12_lie_23 rfl ?_
    refine j_getR (k := 33) hX kX12 (by decide) fk_X12_61 (rf_50_33 hG) dX12_lie_24 (sh_50 hG) rfl ?_
    refine j_bipush hX dX12_lie_27 bp_6 ?_
    refine jpc (b := 29) rfl ?_
    refine j_iload_n hX dX12_lie_29 rfl ?_
    refine j_imul hX dX12_lie_30 ?_
    refine j_iconst hX dX12_lie_31 ic_3 ?_
    refine j_iadd hX dX12_lie_32 ?_
    refine j_iconst hX dX12_lie_33 ic_1 ?_
    obtain ⟨hg, hf⟩ := gd hf
    have hf := ltd hf
    refine j_iast hX (sh_63 hG) hg dX12_lie_34 ?_
    refine j_aload_n hX dX12_lie_35 rfl ?_
    refine j_aload_n hX dX12_lie_36 rfl ?_
    refine j_getR (k := 33) hX kX12 (by decide) fk_X12_61 (rf_50_33 hG) dX12_lie_37 (sh_50 hG) rfl ?_
    obtain ⟨v7, hh8, hf⟩ := bd1 hf
    refine j_cV1i hX lk_X12_403 kX12 dX12_lie_40 (sh_50 hG) (okX12_asleepIn hG (sh_63 hG) hh8) rfl rfl (rmm (by omega) hRf hRl (by decide)) (Nat.le_of_ble_eq_true rfl) (Nat.le_add_right _ _) (Nat.le_add_right _ _) ?_
    cases hf
    exact j_ret hX hr hlk rfl dX12_lie_43
  · have hf := ifp hc hf
    refine j_iconst hX dX12_lie_17 ic_m1 ?_
    cases hf
    exact j_ret hX hr hlk rfl dX12_lie_18
theorem okX12_lie {l : Launch} {sh : List aSh} {i : Nat → Nat → Int32} {lo : Nat → Nat → Int64} {rv : Nat → Nat → Option Nat}  {a1 : Int32} {vR : Int32} {iR : Nat → Nat → Int32} (hG : aGood sh rv) (hf : fX12_lie a1 i = some (vR, iR)) : aM l yX12_lie cX12_lie 2 (some .int) 2 [.ref (100 + 50), .int a1] (sh, i, lo, rv) (some (.int vR)) (sh, iR, lo, rv) :=
  aM_of (by decide) (Nat.le_of_ble_eq_true rfl) (Nat.le_refl _) (Nat.le_refl _) (fun p e s m args below meth c D cA A ad0 hX hr hlk hnm => kX12_lie hX hr hlk (Nat.le_refl _) (Nat.le_refl _) hG hf)
def fX12_canSwap (a1 : Int32) (a2 : Int32) (i : Nat → Nat → Int32) : Option ((Int32)) := bn1 (fX12_isSleeper a1 i) fun v1 =>
    if v1 = 0 then (some (0)) else (bn1 (fX12_isSleeper a2 i) fun v3 =>
    if v3 = 0 then (some (0)) else (if a1 = a2 then (some (0)) else (some (1))))
theorem kX12_canSwap  {vR : Int32} (hX : aX p s m args c RX12 cX12_canSwap 3 D cA A ad0) (hr : meth.sig.returnType = (some .boolean)) (hlk : meth.locks = false) (hRf : 1 ≤ R.frames) (hRl : 64 * 1 ≤ R.locals) {a1 : Int32} {a2 : Int32} (hG : aGood sh rv) (hf : fX12_canSwap a1 a2 i = some (vR)) : aJ p l e R s m args below meth c (MQ below (aPost D cA ad0 A (sh, i0, lo0, rv0) (some (.int vR)) (sh, i, lo, rv)) args s (sh.length - sh.length) (aSn sh - aSn sh) A) D cA A ad0 3 sh.length (aSn sh) 0 [some (.ref (100 + 50)), some (.int a1), some (.int a2)] [] (sh, i, lo, rv) := by
  unfold fX12_canSwap at hf
  refine j_aload_n hX dX12_canSwap_0 rfl ?_
  refine j_iload_n hX dX12_canSwap_1 rfl ?_
  obtain ⟨v1, hh2, hf⟩ := bd1 hf
  refine j_cV1i hX lk_X12_369 kX12 dX12_canSwap_2 (sh_50 hG) (okX12_isSleeper hG hh2) rfl rfl (rmm (by omega) hRf hRl (by decide)) (Nat.le_of_ble_eq_true rfl) (Nat.le_add_right _ _) (Nat.le_add_right _ _) ?_
  refine j_if_eq (tgt := 25) hX dX12_canSwap_5 (by decide) (fun hc => ?_) (fun hc => ?_)
  · have hf := ifp hc hf
    refine j_iconst hX dX12_canSwap_25 ic_0 ?_
    cases hf
    exact j_ret hX hr hlk rfl dX12_canSwap_26
  · have hf := ifn hc hf
    refine j_aload_n hX dX12_canSwap_8 rfl ?_
    refine j_iload_n hX dX12_canSwap_9 rfl ?_
    obtain ⟨v3, hh4, hf⟩ := bd1 hf
    refine j_cV1i hX lk_X12_369 kX12 dX12_canSwap_10 (sh_50 hG) (okX12_isSleeper hG hh4) rfl rfl (rmm (by omega) hRf hRl (by decide)) (Nat.le_of_ble_eq_true rfl) (Nat.le_add_right _ _) (Nat.le_add_right _ _) ?_
    refine j_if_eq (tgt := 25) hX dX12_canSwap_13 (by decide) (fun hc => ?_) (fun hc => ?_)
    · have hf := ifp hc hf
      refine j_iconst hX dX12_canSwap_25 ic_0 ?_
      cases hf
      exact j_ret hX hr hlk rfl dX12_canSwap_26
    · have hf := ifn hc hf
      refine j_iload_n hX dX12_canSwap_16 rfl ?_
      refine j_iload_n hX dX12_canSwap_17 rfl ?_
      refine j_icmp_eq (tgt := 25) hX dX12_canSwap_18 (by decide) (fun hc => ?_) (fun hc => ?_)
      · have hf := ifp hc hf
        refine j_iconst hX dX12_canSwap_25 ic_0 ?_
        cases hf
        exact j_ret hX hr hlk rfl dX12_canSwap_26
      · have hf := ifn hc hf
        refine j_iconst hX dX12_canSwap_21 ic_1 ?_
        refine j_goto (tgt := 26) hX dX12_canSwap_22 (by decide) ?_
        cases hf
        exact j_ret hX hr hlk rfl dX12_canSwap_26
theorem okX12_canSwap {l : Launch} {sh : List aSh} {i : Nat → Nat → Int32} {lo : Nat → Nat → Int64} {rv : Nat → Nat → Option Nat}  {a1 : Int32} {a2 : Int32} {vR : Int32} (hG : aGood sh rv) (hf : fX12_canSwap a1 a2 i = some (vR)) : aM l yX12_canSwap cX12_canSwap 3 (some .boolean) 1 [.ref (100 + 50), .int a1, .int a2] (sh, i, lo, rv) (some (.int vR)) (sh, i, lo, rv) :=
  aM_of (by decide) (Nat.le_of_ble_eq_true rfl) (Nat.le_refl _) (Nat.le_refl _) (fun p e s m args below meth c D cA A ad0 hX hr hlk hnm => kX12_canSwap hX hr hlk (Nat.le_refl _) (Nat.le_refl _) hG hf)
def fX12_swaps (w0 : Nat) (n0 : Nat) (a1 : Int32) (a2 : Int32) (i : Nat → Nat → Int32) : Option ((Nat → Nat → Int32)) := if aIn (((6 : Int32) * a1) + (0 : Int32)) n0 = true then
    (lt (i w0 ((((6 : Int32) * a1) + (0 : Int32)) : Int32).toNatClampNeg) fun t1 =>
    if aIn (((6 : Int32) * a2) + (0 : Int32)) n0 = true then
    (if aIn (((6 : Int32) * a1) + (0 : Int32)) n0 = true then
    (lt (u2 i w0 ((((6 : Int32) * a1) + (0 : Int32)) : Int32).toNatClampNeg (i w0 ((((6 : Int32) * a2) + (0 : Int32)) : Int32).toNatClampNeg)) fun i2 => if aIn (((6 : Int32) * a2) + (0 : Int32)) n0 = true then
    (lt (u2 i2 w0 ((((6 : Int32) * a2) + (0 : Int32)) : Int32).toNatClampNeg t1) fun i3 => some (i3)) else none) else none) else none) else none
theorem kX12_swaps  {w0 : Nat} {n0 : Nat} {iR : Nat → Nat → Int32} (hX : aX p s m args c RX12 cX12_swaps 4 D cA A ad0) (hr : meth.sig.returnType = none) (hlk : meth.locks = false) (hRf : 0 ≤ R.frames) (hRl : 64 * 0 ≤ R.locals) (h0 : sh[w0]? = some (.inl (.int, n0))) {a1 : Int32} {a2 : Int32} (hG : aGood sh rv) (hf : fX12_swaps w0 n0 a1 a2 i = some (iR)) : aJ p l e R s m args below meth c (MQ below (aPost D cA ad0 A (sh, i0, lo0, rv0) none (sh, iR, lo, rv)) args s (sh.length - sh.length) (aSn sh - aSn sh) A) D cA A ad0 4 sh.length (aSn sh) 0 [some (.ref (100 + w0)), some (.int a1), some (.int a2), none] [] (sh, i, lo, rv) := by
  unfold fX12_swaps at hf
  refine j_aload_n hX dX12_swaps_0 rfl ?_
  refine j_bipush hX dX12_swaps_1 bp_6 ?_
  refine j_iload_n hX dX12_swaps_3 rfl ?_
  refine j_imul hX dX12_swaps_4 ?_
  refine j_iconst hX dX12_swaps_5 ic_0 ?_
  refine jpc (b := 6) rfl ?_
  refine j_iadd hX dX12_swaps_6 ?_
  obtain ⟨hg, hf⟩ := gd hf
  refine j_iald hX h0 hg dX12_swaps_7 ?_
  have hf := ltd hf
  refine j_istore_n hX dX12_swaps_8 (by decide) rfl ?_
  refine j_aload_n hX dX12_swaps_9 rfl ?_
  refine j_bipush hX dX12_swaps_10 bp_6 ?_
  refine j_iload_n hX dX12_swaps_12 rfl ?_
  refine j_imul hX dX12_swaps_13 ?_
  refine jpc (b := 14) rfl ?_
  refine j_iconst hX dX12_swaps_14 ic_0 ?_
  refine j_iadd hX dX12_swaps_15 ?_
  refine j_aload_n hX dX12_swaps_16 rfl ?_
  refine j_bipush hX dX12_swaps_17 bp_6 ?_
  refine j_iload_n hX dX12_swaps_19 rfl ?_
  refine j_imul hX dX12_swaps_20 ?_
  refine jpc (b := 21) rfl ?_
  refine j_iconst hX dX12_swaps_21 ic_0 ?_
  refine j_iadd hX dX12_swaps_22 ?_
  obtain ⟨hg, hf⟩ := gd hf
  refine j_iald hX h0 hg dX12_swaps_23 ?_
  obtain ⟨hg, hf⟩ := gd hf
  have hf := ltd hf
  refine j_iast hX h0 hg dX12_swaps_24 ?_
  refine j_aload_n hX dX12_swaps_25 rfl ?_
  refine j_bipush hX dX12_swaps_26 bp_6 ?_
  refine j_iload_n hX dX12_swaps_28 rfl ?_
  refine j_imul hX dX12_swaps_29 ?_
  refine j_iconst hX dX12_swaps_30 ic_0 ?_
  refine jpc (b := 31) rfl ?_
  refine j_iadd hX dX12_swaps_31 ?_
  refine j_iload_n hX dX12_swaps_32 rfl ?_
  obtain ⟨hg, hf⟩ := gd hf
  have hf := ltd hf
  refine j_iast hX h0 hg dX12_swaps_33 ?_
  cases hf
  exact j_vret hX hr hlk dX12_swaps_34
theorem okX12_swaps {l : Launch} {sh : List aSh} {i : Nat → Nat → Int32} {lo : Nat → Nat → Int64} {rv : Nat → Nat → Option Nat}  {w0 : Nat} {n0 : Nat} {a1 : Int32} {a2 : Int32} {iR : Nat → Nat → Int32} (hG : aGood sh rv) (h0 : sh[w0]? = some (.inl (.int, n0))) (hf : fX12_swaps w0 n0 a1 a2 i = some (iR)) : aM l yX12_swaps cX12_swaps 4 none 0 [.ref (100 + w0), .int a1, .int a2] (sh, i, lo, rv) none (sh, iR, lo, rv) :=
  aM_of (by decide) (Nat.le_of_ble_eq_true rfl) (Nat.le_refl _) (Nat.le_refl _) (fun p e s m args below meth c D cA A ad0 hX hr hlk hnm => kX12_swaps hX hr hlk (Nat.le_refl _) (Nat.le_refl _) h0 hG hf)
def fX12_swap (a1 : Int32) (a2 : Int32) (i : Nat → Nat → Int32) : Option ((Int32) × (Nat → Nat → Int32)) := lt (u2 i 50 0 0) fun i1 =>
    bn1 (fX12_canSwap a1 a2 i1) fun v2 =>
    if v2 = 0 then (some ((-1), i1)) else (bn1 (fX12_remember i1) fun i4 =>
    bn1 (fX12_swaps 63 296 a1 a2 i4) fun i6 =>
    some ((i6 50 42), i6))
theorem kX12_swap  {vR : Int32} {iR : Nat → Nat → Int32} (hX : aX p s m args c RX12 cX12_swap 3 D cA A ad0) (hr : meth.sig.returnType = (some .int)) (hlk : meth.locks = false) (hRf : 2 ≤ R.frames) (hRl : 64 * 2 ≤ R.locals) {a1 : Int32} {a2 : Int32} (hG : aGood sh rv) (hf : fX12_swap a1 a2 i = some (vR, iR)) : aJ p l e R s m args below meth c (MQ below (aPost D cA ad0 A (sh, i0, lo0, rv0) (some (.int vR)) (sh, iR, lo, rv)) args s (sh.length - sh.length) (aSn sh - aSn sh) A) D cA A ad0 3 sh.length (aSn sh) 0 [some (.ref (100 + 50)), some (.int a1), some (.int a2)] [] (sh, i, lo, rv) := by
  unfold fX12_swap at hf
  refine j_aload_n hX dX12_swap_0 rfl ?_
  refine j_iconst hX dX12_swap_1 ic_0 ?_
  have hf := ltd hf
  refine j_putI (k := 0) hX kX12 (by decide) fk_X12_99 dX12_swap_2 (sh_50 hG) rfl rfl rfl rfl ?_
  refine j_aload_n hX dX12_swap_5 rfl ?_
  refine j_iload_n hX dX12_swap_6 rfl ?_
  refine jpc (b := 7) rfl ?_
  refine j_iload_n hX dX12_swap_7 rfl ?_
  obtain ⟨v2, hh3, hf⟩ := bd1 hf
  refine j_cV2i hX lk_X12_407 kX12 dX12_swap_8 (sh_50 hG) (okX12_canSwap hG hh3) rfl rfl (rmm (by omega) hRf hRl (by decide)) (Nat.le_of_ble_eq_true rfl) (Nat.le_add_right _ _) (Nat.le_add_right _ _) ?_
  refine j_if_ne (tgt := 16) hX dX12_swap_11 (by decide) (fun hc => ?_) (fun hc => ?_)
  · have hf := ifn hc hf
    refine j_aload_n hX dX12_swap_16 rfl ?_
    obtain ⟨i4, hh5, hf⟩ := bd1 hf
    refine j_cV0v hX lk_X12_386 kX12 dX12_swap_17 (sh_50 hG) (okX12_remember hG hh5) rfl rfl (rmm (by omega) hRf hRl (by decide)) (Nat.le_of_ble_eq_true rfl) (Nat.le_add_right _ _) (Nat.le_add_right _ _) ?_
    refine j_aload_n hX dX12_swap_20 rfl ?_
    refine j_getR (k := 33) hX kX12 (by decide) fk_X12_61 (rf_50_33 hG) dX12_swap_21 (sh_50 hG) rfl ?_
    refine j_iload_n hX dX12_swap_24 rfl ?_
    refine jpc (b := 25) rfl ?_
    refine j_iload_n hX dX12_swap_25 rfl ?_
    obtain ⟨i6, hh7, hf⟩ := bd1 hf
    refine j_cS3v hX lk_X12_410 dX12_swap_26 (okX12_swaps hG (sh_63 hG) hh7) rfl rfl (rmm (by omega) hRf hRl (by decide)) (Nat.le_of_ble_eq_true rfl) (Nat.le_add_right _ _) (Nat.le_add_right _ _) ?_
    refine j_aload_n hX dX12_swap_29 rfl ?_
    refine j_getI (k := 42) hX kX12 (by decide) fk_X12_312 dX12_swap_30 (sh_50 hG) rfl ?_
    cases hf
    exact j_ret hX hr hlk rfl dX12_swap_33
  · have hf := ifp hc hf
    refine j_iconst hX dX12_swap_14 ic_m1 ?_
    cases hf
    exact j_ret hX hr hlk rfl dX12_swap_15
theorem okX12_swap {l : Launch} {sh : List aSh} {i : Nat → Nat → Int32} {lo : Nat → Nat → Int64} {rv : Nat → Nat → Option Nat}  {a1 : Int32} {a2 : Int32} {vR : Int32} {iR : Nat → Nat → Int32} (hG : aGood sh rv) (hf : fX12_swap a1 a2 i = some (vR, iR)) : aM l yX12_swap cX12_swap 3 (some .int) 2 [.ref (100 + 50), .int a1, .int a2] (sh, i, lo, rv) (some (.int vR)) (sh, iR, lo, rv) :=
  aM_of (by decide) (Nat.le_of_ble_eq_true rfl) (Nat.le_refl _) (Nat.le_refl _) (fun p e s m args below meth c D cA A ad0 hX hr hlk hnm => kX12_swap hX hr hlk (Nat.le_refl _) (Nat.le_refl _) hG hf)
end DC
