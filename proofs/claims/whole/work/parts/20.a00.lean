/-! decompiled: X10_signsIn X10_size X10_add X11_feed X10_cut X11_end X10_rewind X10_ahead X10_pass J0_isLatin1_aae02 X1_itemOf X10_atDigit X10_number X10_stayAtLastDigit X1_readItems X1_readClause X1_hasSleeper X1_ofSleeper X1_hasPaper X1_countPapers X10_takes X1_read X9_lawDraft X4_letterOf X4_emit X4_readAtom X4_readTerm X4_readSum X4_isComparison X4_readTruth -/
section DC
variable {p : Program} {l : Launch} {e : Env} {R : Room} {s : State} {m : MethodId} {args : Array Value} {below : List Frame} {meth : Method} {c : Code} {D : va_G} {cA : FieldType → ClassId} {A : Nat → Prop} {ad0 : Nat → Nat} {sh : List aSh} {i i0 : Nat → Nat → Int32} {lo lo0 : Nat → Nat → Int64} {rv rv0 : Nat → Nat → Option Nat}
def fX10_signsIn_22 (kh5 : Int32 → Int32 → Int32 → Option ((Int32))) (x0 : Int32) (x1 : Int32) (x2 : Int32) : Option ((Int32)) := kh5 x0 x1 (x2 + (-8))
theorem kX10_signsIn_22  {vR : Int32} (hX : aX p s m args c RX10 cX10_signsIn 3 D cA A ad0) (hr : meth.sig.returnType = (some .int)) (hlk : meth.locks = false) (hRf : 0 ≤ R.frames) (hRl : 64 * 0 ≤ R.locals) {kh5 : Int32 → Int32 → Int32 → Option ((Int32))} (Hkh5 : ∀ (x0 : Int32) (x1 : Int32) (x2 : Int32), aGood sh rv → kh5 x0 x1 x2 = some (vR) → aJ p l e R s m args below meth c (MQ below (aPost D cA ad0 A (sh, i0, lo0, rv0) (some (.int vR)) (sh, i, lo, rv)) args s (sh.length - sh.length) (aSn sh - aSn sh) A) D cA A ad0 3 sh.length (aSn sh) 5 [some (.int x0), some (.int x1), some (.int x2)] [] (sh, i, lo, rv)) {x0 : Int32} {x1 : Int32} {x2 : Int32} (hG : aGood sh rv) (hf : fX10_signsIn_22 kh5 x0 x1 x2 = some (vR)) : aJ p l e R s m args below meth c (MQ below (aPost D cA ad0 A (sh, i0, lo0, rv0) (some (.int vR)) (sh, i, lo, rv)) args s (sh.length - sh.length) (aSn sh - aSn sh) A) D cA A ad0 3 sh.length (aSn sh) 22 [some (.int x0), some (.int x1), some (.int x2)] [] (sh, i, lo, rv) := by
  unfold fX10_signsIn_22 at hf
  refine j_iinc hX dX10_signsIn_22 rfl (congrArg (_ + ·) ic_m8) (by decide) rfl ?_
  refine j_goto (tgt := 5) hX dX10_signsIn_25 (by decide) ?_
  exact aJx (Hkh5 _ _ _ hG  hf) (And.intro rfl (And.intro rfl (And.intro rfl (rfl))))
def fX10_signsIn_5 : Nat → Int32 → Int32 → Int32 → Option ((Int32))
  | 0, _, _, _ => none
  | n + 1, x0, x1, x2 => if x2 < 0 then (some (x1)) else (if (((x0).toUInt32 >>> ((x2 : Int32).toUInt32 &&& Int32.toUInt32 31)).toInt32 &&& (255 : Int32)) = 0 then (fX10_signsIn_22 (fX10_signsIn_5 n) x0 x1 x2) else (fX10_signsIn_22 (fX10_signsIn_5 n) x0 (x1 + 1) x2))
theorem kX10_signsIn_5  {vR : Int32} (hX : aX p s m args c RX10 cX10_signsIn 3 D cA A ad0) (hr : meth.sig.returnType = (some .int)) (hlk : meth.locks = false) (hRf : 0 ≤ R.frames) (hRl : 64 * 0 ≤ R.locals) : ∀ (n : Nat) (x0 : Int32) (x1 : Int32) (x2 : Int32), aGood sh rv → fX10_signsIn_5 n x0 x1 x2 = some (vR) → aJ p l e R s m args below meth c (MQ below (aPost D cA ad0 A (sh, i0, lo0, rv0) (some (.int vR)) (sh, i, lo, rv)) args s (sh.length - sh.length) (aSn sh - aSn sh) A) D cA A ad0 3 sh.length (aSn sh) 5 [some (.int x0), some (.int x1), some (.int x2)] [] (sh, i, lo, rv) := by
  intro n
  induction n with
  | zero => intros; rename_i hf; cases hf
  | succ n ih =>
    intro x0 x1 x2 hG hf
    rw [fX10_signsIn_5] at hf
    refine j_iload_n hX dX10_signsIn_5 rfl ?_
    refine j_if_lt (tgt := 28) hX dX10_signsIn_6 (by decide) (fun hc => ?_) (fun hc => ?_)
    · have hf := ifp hc hf
      refine j_iload_n hX dX10_signsIn_28 rfl ?_
      cases hf
      exact j_ret hX hr hlk rfl dX10_signsIn_29
    · have hf := ifn hc hf
      refine j_iload_n hX dX10_signsIn_9 rfl ?_
      refine j_iload_n hX dX10_signsIn_10 rfl ?_
      refine j_iushr hX dX10_signsIn_11 ?_
      refine j_sipush hX dX10_signsIn_12 sp_255 ?_
      refine j_iand hX dX10_signsIn_15 ?_
      refine jpc (b := 16) rfl ?_
      refine j_if_eq (tgt := 22) hX dX10_signsIn_16 (by decide) (fun hc => ?_) (fun hc => ?_)
      · have hf := ifp hc hf
        exact aJx (kX10_signsIn_22 hX hr hlk hRf hRl ih hG  hf) (And.intro rfl (And.intro rfl (And.intro rfl (rfl))))
      · have hf := ifn hc hf
        refine j_iinc hX dX10_signsIn_19 rfl (congrArg (_ + ·) ic_1) (by decide) rfl ?_
        exact aJx (kX10_signsIn_22 hX hr hlk hRf hRl ih hG  hf) (And.intro rfl (And.intro rfl (And.intro rfl (rfl))))
def fX10_signsIn (a0 : Int32) : Option ((Int32)) := fX10_signsIn_5 fuel a0 0 24
theorem kX10_signsIn  {vR : Int32} (hX : aX p s m args c RX10 cX10_signsIn 3 D cA A ad0) (hr : meth.sig.returnType = (some .int)) (hlk : meth.locks = false) (hRf : 0 ≤ R.frames) (hRl : 64 * 0 ≤ R.locals) {a0 : Int32} (hG : aGood sh rv) (hf : fX10_signsIn a0 = some (vR)) : aJ p l e R s m args below meth c (MQ below (aPost D cA ad0 A (sh, i0, lo0, rv0) (some (.int vR)) (sh, i, lo, rv)) args s (sh.length - sh.length) (aSn sh - aSn sh) A) D cA A ad0 3 sh.length (aSn sh) 0 [some (.int a0), none, none] [] (sh, i, lo, rv) := by
  unfold fX10_signsIn at hf
  refine j_iconst hX dX10_signsIn_0 ic_0 ?_
  refine j_istore_n hX dX10_signsIn_1 (by decide) rfl ?_
  refine j_bipush hX dX10_signsIn_2 bp_24 ?_
  refine j_istore_n hX dX10_signsIn_4 (by decide) rfl ?_
  exact aJx (kX10_signsIn_5 hX hr hlk hRf hRl fuel _ _ _ hG  hf) (And.intro rfl (And.intro rfl (And.intro rfl (rfl))))
theorem okX10_signsIn {l : Launch} {sh : List aSh} {i : Nat → Nat → Int32} {lo : Nat → Nat → Int64} {rv : Nat → Nat → Option Nat}  {a0 : Int32} {vR : Int32} (hG : aGood sh rv) (hf : fX10_signsIn a0 = some (vR)) : aM l yX10_signsIn cX10_signsIn 3 (some .int) 0 [.int a0] (sh, i, lo, rv) (some (.int vR)) (sh, i, lo, rv) :=
  aM_of (by decide) (Nat.le_of_ble_eq_true rfl) (Nat.le_refl _) (Nat.le_refl _) (fun p e s m args below meth c D cA A ad0 hX hr hlk hnm => kX10_signsIn hX hr hlk (Nat.le_refl _) (Nat.le_refl _) hG hf)
def fX10_size (i : Nat → Nat → Int32) : Option ((Int32)) := some ((i 1 1))
theorem kX10_size  {vR : Int32} (hX : aX p s m args c RX10 cX10_size 1 D cA A ad0) (hr : meth.sig.returnType = (some .int)) (hlk : meth.locks = false) (hRf : 0 ≤ R.frames) (hRl : 64 * 0 ≤ R.locals) (hG : aGood sh rv) (hf : fX10_size i = some (vR)) : aJ p l e R s m args below meth c (MQ below (aPost D cA ad0 A (sh, i0, lo0, rv0) (some (.int vR)) (sh, i, lo, rv)) args s (sh.length - sh.length) (aSn sh - aSn sh) A) D cA A ad0 1 sh.length (aSn sh) 0 [some (.ref (100 + 1))] [] (sh, i, lo, rv) := by
  unfold fX10_size at hf
  refine j_aload_n hX dX10_size_0 rfl ?_
  refine j_getI (k := 1) hX kX10 (by decide) fk_X10_15 dX10_size_1 (sh_1 hG) rfl ?_
  cases hf
  exact j_ret hX hr hlk rfl dX10_size_4
theorem okX10_size {l : Launch} {sh : List aSh} {i : Nat → Nat → Int32} {lo : Nat → Nat → Int64} {rv : Nat → Nat → Option Nat}  {vR : Int32} (hG : aGood sh rv) (hf : fX10_size i = some (vR)) : aM l yX10_size cX10_size 1 (some .int) 0 [.ref (100 + 1)] (sh, i, lo, rv) (some (.int vR)) (sh, i, lo, rv) :=
  aM_of (by decide) (Nat.le_of_ble_eq_true rfl) (Nat.le_refl _) (Nat.le_refl _) (fun p e s m args below meth c D cA A ad0 hX hr hlk hnm => kX10_size hX hr hlk (Nat.le_refl _) (Nat.le_refl _) hG hf)
def fX10_add_49 (kh3 : Int32 → Int32 → (Nat → Nat → Int32) → Option ((Nat → Nat → Int32))) (x1 : Int32) (x2 : Int32) (i : Nat → Nat → Int32) : Option ((Nat → Nat → Int32)) := kh3 x1 (x2 + (-8)) i
theorem kX10_add_49  {iR : Nat → Nat → Int32} (hX : aX p s m args c RX10 cX10_add 4 D cA A ad0) (hr : meth.sig.returnType = none) (hlk : meth.locks = false) (hRf : 0 ≤ R.frames) (hRl : 64 * 0 ≤ R.locals) {kh3 : Int32 → Int32 → (Nat → Nat → Int32) → Option ((Nat → Nat → Int32))} (Hkh3 : ∀ (x1 : Int32) (x2 : Int32) (i : Nat → Nat → Int32), aGood sh rv → kh3 x1 x2 i = some (iR) → aJ p l e R s m args below meth c (MQ below (aPost D cA ad0 A (sh, i0, lo0, rv0) none (sh, iR, lo, rv)) args s (sh.length - sh.length) (aSn sh - aSn sh) A) D cA A ad0 4 sh.length (aSn sh) 3 [some (.ref (100 + 1)), some (.int x1), some (.int x2), none] [] (sh, i, lo, rv)) {x1 : Int32} {x2 : Int32} (hG : aGood sh rv) (hf : fX10_add_49 kh3 x1 x2 i = some (iR)) : aJ p l e R s m args below meth c (MQ below (aPost D cA ad0 A (sh, i0, lo0, rv0) none (sh, iR, lo, rv)) args s (sh.length - sh.length) (aSn sh - aSn sh) A) D cA A ad0 4 sh.length (aSn sh) 49 [some (.ref (100 + 1)), some (.int x1), some (.int x2), none] [] (sh, i, lo, rv) := by
  unfold fX10_add_49 at hf
  refine j_iinc hX dX10_add_49 rfl (congrArg (_ + ·) ic_m8) (by decide) rfl ?_
  refine j_goto (tgt := 3) hX dX10_add_52 (by decide) ?_
  exact aJx (Hkh3 _ _ _ hG  hf) (And.intro rfl (And.intro rfl (And.intro rfl (rfl))))
def fX10_add_3 : Nat → Int32 → Int32 → (Nat → Nat → Int32) → Option ((Nat → Nat → Int32))
  | 0, _, _, _ => none
  | n + 1, x1, x2, i => if x2 < 0 then (some (i)) else (lt (((x1).toUInt32 >>> ((x2 : Int32).toUInt32 &&& Int32.toUInt32 31)).toInt32 &&& (255 : Int32)) fun t1 =>
    if t1 = 0 then (fX10_add_49 (fX10_add_3 n) x1 x2 i) else (if 240 ≤ (i 1 1) then (fX10_add_49 (fX10_add_3 n) x1 x2 i) else (if aIn (i 1 1) 240 = true then
    (lt (u2 i 2 ((i 1 1) : Int32).toNatClampNeg t1) fun i2 => lt (u2 i2 1 1 ((i2 1 1) + (1 : Int32))) fun i3 =>
    fX10_add_49 (fX10_add_3 n) x1 x2 i3) else none)))
theorem kX10_add_3  {iR : Nat → Nat → Int32} (hX : aX p s m args c RX10 cX10_add 4 D cA A ad0) (hr : meth.sig.returnType = none) (hlk : meth.locks = false) (hRf : 0 ≤ R.frames) (hRl : 64 * 0 ≤ R.locals) : ∀ (n : Nat) (x1 : Int32) (x2 : Int32) (i : Nat → Nat → Int32), aGood sh rv → fX10_add_3 n x1 x2 i = some (iR) → aJ p l e R s m args below meth c (MQ below (aPost D cA ad0 A (sh, i0, lo0, rv0) none (sh, iR, lo, rv)) args s (sh.length - sh.length) (aSn sh - aSn sh) A) D cA A ad0 4 sh.length (aSn sh) 3 [some (.ref (100 + 1)), some (.int x1), some (.int x2), none] [] (sh, i, lo, rv) := by
  intro n
  induction n with
  | zero => intros; rename_i hf; cases hf
  | succ n ih =>
    intro x1 x2 i hG hf
    rw [fX10_add_3] at hf
    refine j_iload_n hX dX10_add_3 rfl ?_
    refine j_if_lt (tgt := 55) hX dX10_add_4 (by decide) (fun hc => ?_) (fun hc => ?_)
    · have hf := ifp hc hf
      cases hf
      exact j_vret hX hr hlk dX10_add_55
    · have hf := ifn hc hf
      refine j_iload_n hX dX10_add_7 rfl ?_
      refine j_iload_n hX dX10_add_8 rfl ?_
      refine j_iushr hX dX10_add_9 ?_
      refine j_sipush hX dX10_add_10 sp_255 ?_
      refine j_iand hX dX10_add_13 ?_
      refine jpc (b := 14) rfl ?_
      have hf := ltd hf
      refine j_istore_n hX dX10_add_14 (by decide) rfl ?_
      refine j_iload_n hX dX10_add_15 rfl ?_
      refine j_if_eq (tgt := 49) hX dX10_add_16 (by decide) (fun hc => ?_) (fun hc => ?_)
      · have hf := ifp hc hf
        exact aJx (kX10_add_49 hX hr hlk hRf hRl ih hG  hf) (And.intro rfl (And.intro rfl (And.intro rfl (rfl))))
      · have hf := ifn hc hf
        refine j_aload_n hX dX10_add_19 rfl ?_
        refine j_getI (k := 1) hX kX10 (by decide) fk_X10_15 dX10_add_20 (sh_1 hG) rfl ?_
        refine j_sipush hX dX10_add_23 sp_240 ?_
        refine j_icmp_ge (tgt := 49) hX dX10_add_26 (by decide) (fun hc => ?_) (fun hc => ?_)
        · have hf := ifp hc hf
          exact aJx (kX10_add_49 hX hr hlk hRf hRl ih hG  hf) (And.intro rfl (And.intro rfl (And.intro rfl (rfl))))
        · have hf := ifn hc hf
          refine j_aload_n hX dX10_add_29 rfl ?_
          refine j_getR (k := 0) hX kX10 (by decide) fk_X10_11 (rf_1_0 hG) dX10_add_30 (sh_1 hG) rfl ?_
          refine j_aload_n hX dX10_add_33 rfl ?_
          refine j_getI (k := 1) hX kX10 (by decide) fk_X10_15 dX10_add_34 (sh_1 hG) rfl ?_
          refine j_iload_n hX dX10_add_37 rfl ?_
          refine jpc (b := 38) rfl ?_
          obtain ⟨hg, hf⟩ := gd hf
          have hf := ltd hf
          refine j_iast hX (sh_2 hG) hg dX10_add_38 ?_
          refine j_aload_n hX dX10_add_39 rfl ?_
          refine j_dup hX dX10_add_40 rfl ?_
          refine j_getI (k := 1) hX kX10 (by decide) fk_X10_15 dX10_add_41 (sh_1 hG) rfl ?_
          refine j_iconst hX dX10_add_44 ic_1 ?_
          refine j_iadd hX dX10_add_45 ?_
          refine jpc (b := 46) rfl ?_
          have hf := ltd hf
          refine j_putI (k := 1) hX kX10 (by decide) fk_X10_15 dX10_add_46 (sh_1 hG) rfl rfl rfl rfl ?_
          exact aJx (kX10_add_49 hX hr hlk hRf hRl ih hG  hf) (And.intro rfl (And.intro rfl (And.intro rfl (rfl))))
def fX10_add (a1 : Int32) (i : Nat → Nat → Int32) : Option ((Nat → Nat → Int32)) := fX10_add_3 fuel a1 24 i
theorem kX10_add  {iR : Nat → Nat → Int32} (hX : aX p s m args c RX10 cX10_add 4 D cA A ad0) (hr : meth.sig.returnType = none) (hlk : meth.locks = false) (hRf : 0 ≤ R.frames) (hRl : 64 * 0 ≤ R.locals) {a1 : Int32} (hG : aGood sh rv) (hf : fX10_add a1 i = some (iR)) : aJ p l e R s m args below meth c (MQ below (aPost D cA ad0 A (sh, i0, lo0, rv0) none (sh, iR, lo, rv)) args s (sh.length - sh.length) (aSn sh - aSn sh) A) D cA A ad0 4 sh.length (aSn sh) 0 [some (.ref (100 + 1)), some (.int a1), none, none] [] (sh, i, lo, rv) := by
  unfold fX10_add at hf
  refine j_bipush hX dX10_add_0 bp_24 ?_
  refine j_istore_n hX dX10_add_2 (by decide) rfl ?_
  exact aJx (kX10_add_3 hX hr hlk hRf hRl fuel _ _ _ hG  hf) (And.intro rfl (And.intro rfl (And.intro rfl (rfl))))
theorem okX10_add {l : Launch} {sh : List aSh} {i : Nat → Nat → Int32} {lo : Nat → Nat → Int64} {rv : Nat → Nat → Option Nat}  {a1 : Int32} {iR : Nat → Nat → Int32} (hG : aGood sh rv) (hf : fX10_add a1 i = some (iR)) : aM l yX10_add cX10_add 4 none 0 [.ref (100 + 1), .int a1] (sh, i, lo, rv) none (sh, iR, lo, rv) :=
  aM_of (by decide) (Nat.le_of_ble_eq_true rfl) (Nat.le_refl _) (Nat.le_refl _) (fun p e s m args below meth c D cA A ad0 hX hr hlk hnm => kX10_add hX hr hlk (Nat.le_refl _) (Nat.le_refl _) hG hf)
def fX11_feed (a1 : Int32) (a2 : Int32) (a3 : Int32) (a4 : Int32) (a5 : Int32) (i : Nat → Nat → Int32) : Option ((Int32) × (Nat → Nat → Int32)) := bn1 (fX10_signsIn a1) fun v1 =>
    bn1 (fX10_signsIn a2) fun v3 =>
    bn1 (fX10_signsIn a3) fun v5 =>
    bn1 (fX10_signsIn a4) fun v7 =>
    bn1 (fX10_signsIn a5) fun v9 =>
    lt ((((v1 + v3) + v5) + v7) + v9) fun t11 =>
    bn1 (fX10_size i) fun v12 =>
    if (v12 + t11) ≤ 240 then (bn1 (fX10_add a1 i) fun i14 =>
    bn1 (fX10_add a2 i14) fun i16 =>
    bn1 (fX10_add a3 i16) fun i18 =>
    bn1 (fX10_add a4 i18) fun i20 =>
    bn1 (fX10_add a5 i20) fun i22 =>
    bn1 (fX10_size i22) fun v24 =>
    some (v24, i22)) else (some ((-1), i))
theorem kX11_feed  {vR : Int32} {iR : Nat → Nat → Int32} (hX : aX p s m args c RX11 cX11_feed 7 D cA A ad0) (hr : meth.sig.returnType = (some .int)) (hlk : meth.locks = false) (hRf : 1 ≤ R.frames) (hRl : 64 * 1 ≤ R.locals) {a1 : Int32} {a2 : Int32} {a3 : Int32} {a4 : Int32} {a5 : Int32} (hG : aGood sh rv) (hf : fX11_feed a1 a2 a3 a4 a5 i = some (vR, iR)) : aJ p l e R s m args below meth c (MQ below (aPost D cA ad0 A (sh, i0, lo0, rv0) (some (.int vR)) (sh, iR, lo, rv)) args s (sh.length - sh.length) (aSn sh - aSn sh) A) D cA A ad0 7 sh.length (aSn sh) 0 [some (.ref (100 + 0)), some (.int a1), some (.int a2), some (.int a3), some (.int a4), some (.int a5), none] [] (sh, i, lo, rv) := by
  unfold fX11_feed at hf
  refine j_iload_n hX dX11_feed_0 rfl ?_
  obtain ⟨v1, hh2, hf⟩ := bd1 hf
  refine j_cS1i hX lk_X11_89 dX11_feed_1 (okX10_signsIn hG hh2) rfl rfl (rmm (by omega) hRf hRl (by decide)) (Nat.le_of_ble_eq_true rfl) (Nat.le_add_right _ _) (Nat.le_add_right _ _) ?_
  refine j_iload_n hX dX11_feed_4 rfl ?_
  obtain ⟨v3, hh4, hf⟩ := bd1 hf
  refine j_cS1i hX lk_X11_89 dX11_feed_5 (okX10_signsIn hG hh4) rfl rfl (rmm (by omega) hRf hRl (by decide)) (Nat.le_of_ble_eq_true rfl) (Nat.le_add_right _ _) (Nat.le_add_right _ _) ?_
  refine j_iadd hX dX11_feed_8 ?_
  refine jpc (b := 9) rfl ?_
  refine j_iload_n hX dX11_feed_9 rfl ?_
  obtain ⟨v5, hh6, hf⟩ := bd1 hf
  refine j_cS1i hX lk_X11_89 dX11_feed_10 (okX10_signsIn hG hh6) rfl rfl (rmm (by omega) hRf hRl (by decide)) (Nat.le_of_ble_eq_true rfl) (Nat.le_add_right _ _) (Nat.le_add_right _ _) ?_
  refine j_iadd hX dX11_feed_13 ?_
  refine j_iload hX dX11_feed_14 rfl ?_
  obtain ⟨v7, hh8, hf⟩ := bd1 hf
  refine j_cS1i hX lk_X11_89 dX11_feed_16 (okX10_signsIn hG hh8) rfl rfl (rmm (by omega) hRf hRl (by decide)) (Nat.le_of_ble_eq_true rfl) (Nat.le_add_right _ _) (Nat.le_add_right _ _) ?_
  refine j_iadd hX dX11_feed_19 ?_
  refine jpc (b := 20) rfl ?_
  refine j_iload hX dX11_feed_20 rfl ?_
  obtain ⟨v9, hh10, hf⟩ := bd1 hf
  refine j_cS1i hX lk_X11_89 dX11_feed_22 (okX10_signsIn hG hh10) rfl rfl (rmm (by omega) hRf hRl (by decide)) (Nat.le_of_ble_eq_true rfl) (Nat.le_add_right _ _) (Nat.le_add_right _ _) ?_
  refine j_iadd hX dX11_feed_25 ?_
  have hf := ltd hf
  refine j_istore hX dX11_feed_26 (by decide) rfl ?_
  refine j_aload_n hX dX11_feed_28 rfl ?_
  refine j_getR (k := 0) hX kX11 (by decide) fk_X11_10 (rf_0_0 hG) dX11_feed_29 (sh_0 hG) rfl ?_
  refine jpc (b := 32) rfl ?_
  obtain ⟨v12, hh13, hf⟩ := bd1 hf
  refine j_cV0i hX lk_X11_93 kX10 dX11_feed_32 (sh_1 hG) (okX10_size hG hh13) rfl rfl (rmm (by omega) hRf hRl (by decide)) (Nat.le_of_ble_eq_true rfl) (Nat.le_add_right _ _) (Nat.le_add_right _ _) ?_
  refine j_iload hX dX11_feed_35 rfl ?_
  refine j_iadd hX dX11_feed_37 ?_
  refine j_sipush hX dX11_feed_38 sp_240 ?_
  refine j_icmp_le (tgt := 46) hX dX11_feed_41 (by decide) (fun hc => ?_) (fun hc => ?_)
  · have hf := ifp hc hf
    refine j_aload_n hX dX11_feed_46 rfl ?_
    refine j_getR (k := 0) hX kX11 (by decide) fk_X11_10 (rf_0_0 hG) dX11_feed_47 (sh_0 hG) rfl ?_
    refine j_iload_n hX dX11_feed_50 rfl ?_
    obtain ⟨i14, hh15, hf⟩ := bd1 hf
    refine j_cV1v hX lk_X11_97 kX10 dX11_feed_51 (sh_1 hG) (okX10_add hG hh15) rfl rfl (rmm (by omega) hRf hRl (by decide)) (Nat.le_of_ble_eq_true rfl) (Nat.le_add_right _ _) (Nat.le_add_right _ _) ?_
    refine j_aload_n hX dX11_feed_54 rfl ?_
    refine jpc (b := 55) rfl ?_
    refine j_getR (k := 0) hX kX11 (by decide) fk_X11_10 (rf_0_0 hG) dX11_feed_55 (sh_0 hG) rfl ?_
    refine j_iload_n hX dX11_feed_58 rfl ?_
    obtain ⟨i16, hh17, hf⟩ := bd1 hf
    refine j_cV1v hX lk_X11_97 kX10 dX11_feed_59 (sh_1 hG) (okX10_add hG hh17) rfl rfl (rmm (by omega) hRf hRl (by decide)) (Nat.le_of_ble_eq_true rfl) (Nat.le_add_right _ _) (Nat.le_add_right _ _) ?_
    refine j_aload_n hX dX11_feed_62 rfl ?_
    refine j_getR (k := 0) hX kX11 (by decide) fk_X11_10 (rf_0_0 hG) dX11_feed_63 (sh_0 hG) rfl ?_
    refine j_iload_n hX dX11_feed_66 rfl ?_
    refine jpc (b := 67) rfl ?_
    obtain ⟨i18, hh19, hf⟩ := bd1 hf
    refine j_cV1v hX lk_X11_97 kX10 dX11_feed_67 (sh_1 hG) (okX10_add hG hh19) rfl rfl (rmm (by omega) hRf hRl (by decide)) (Nat.le_of_ble_eq_true rfl) (Nat.le_add_right _ _) (Nat.le_add_right _ _) ?_
    refine j_aload_n hX dX11_feed_70 rfl ?_
    refine j_getR (k := 0) hX kX11 (by decide) fk_X11_10 (rf_0_0 hG) dX11_feed_71 (sh_0 hG) rfl ?_
    refine j_iload hX dX11_feed_74 rfl ?_
    obtain ⟨i20, hh21, hf⟩ := bd1 hf
    refine j_cV1v hX lk_X11_97 kX10 dX11_feed_76 (sh_1 hG) (okX10_add hG hh21) rfl rfl (rmm (by omega) hRf hRl (by decide)) (Nat.le_of_ble_eq_true rfl) (Nat.le_add_right _ _) (Nat.le_add_right _ _) ?_
    refine j_aload_n hX dX11_feed_79 rfl ?_
    refine jpc (b := 80) rfl ?_
    refine j_getR (k := 0) hX kX11 (by decide) fk_X11_10 (rf_0_0 hG) dX11_feed_80 (sh_0 hG) rfl ?_
    refine j_iload hX dX11_feed_83 rfl ?_
    obtain ⟨i22, hh23, hf⟩ := bd1 hf
    refine j_cV1v hX lk_X11_97 kX10 dX11_feed_85 (sh_1 hG) (okX10_add hG hh23) rfl rfl (rmm (by omega) hRf hRl (by decide)) (Nat.le_of_ble_eq_true rfl) (Nat.le_add_right _ _) (Nat.le_add_right _ _) ?_
    refine j_aload_n hX dX11_feed_88 rfl ?_
    refine j_getR (k := 0) hX kX11 (by decide) fk_X11_10 (rf_0_0 hG) dX11_feed_89 (sh_0 hG) rfl ?_
    obtain ⟨v24, hh25, hf⟩ := bd1 hf
    refine j_cV0i hX lk_X11_93 kX10 dX11_feed_92 (sh_1 hG) (okX10_size hG hh25) rfl rfl (rmm (by omega) hRf hRl (by decide)) (Nat.le_of_ble_eq_true rfl) (Nat.le_add_right _ _) (Nat.le_add_right _ _) ?_
    refine jpc (b := 95) rfl ?_
    cases hf
    exact j_ret hX hr hlk rfl dX11_feed_95
  · have hf := ifn hc hf
    refine j_iconst hX dX11_feed_44 ic_m1 ?_
    cases hf
    exact j_ret hX hr hlk rfl dX11_feed_45
theorem okX11_feed {l : Launch} {sh : List aSh} {i : Nat → Nat → Int32} {lo : Nat → Nat → Int64} {rv : Nat → Nat → Option Nat}  {a1 : Int32} {a2 : Int32} {a3 : Int32} {a4 : Int32} {a5 : Int32} {vR : Int32} {iR : Nat → Nat → Int32} (hG : aGood sh rv) (hf : fX11_feed a1 a2 a3 a4 a5 i = some (vR, iR)) : aM l yX11_feed cX11_feed 7 (some .int) 1 [.ref (100 + 0), .int a1, .int a2, .int a3, .int a4, .int a5] (sh, i, lo, rv) (some (.int vR)) (sh, iR, lo, rv) :=
  aM_of (by decide) (Nat.le_of_ble_eq_true rfl) (Nat.le_refl _) (Nat.le_refl _) (fun p e s m args below meth c D cA A ad0 hX hr hlk hnm => kX11_feed hX hr hlk (Nat.le_refl _) (Nat.le_refl _) hG hf)
def fX10_cut (a1 : Int32) (i : Nat → Nat → Int32) : Option ((Nat → Nat → Int32)) := lt (u2 i 1 1 a1) fun i1 =>
    some (i1)
theorem kX10_cut  {iR : Nat → Nat → Int32} (hX : aX p s m args c RX10 cX10_cut 2 D cA A ad0) (hr : meth.sig.returnType = none) (hlk : meth.locks = false) (hRf : 0 ≤ R.frames) (hRl : 64 * 0 ≤ R.locals) {a1 : Int32} (hG : aGood sh rv) (hf : fX10_cut a1 i = some (iR)) : aJ p l e R s m args below meth c (MQ below (aPost D cA ad0 A (sh, i0, lo0, rv0) none (sh, iR, lo, rv)) args s (sh.length - sh.length) (aSn sh - aSn sh) A) D cA A ad0 2 sh.length (aSn sh) 0 [some (.ref (100 + 1)), some (.int a1)] [] (sh, i, lo, rv) := by
  unfold fX10_cut at hf
  refine j_aload_n hX dX10_cut_0 rfl ?_
  refine j_iload_n hX dX10_cut_1 rfl ?_
  have hf := ltd hf
  refine j_putI (k := 1) hX kX10 (by decide) fk_X10_15 dX10_cut_2 (sh_1 hG) rfl rfl rfl rfl ?_
  cases hf
  exact j_vret hX hr hlk dX10_cut_5
theorem okX10_cut {l : Launch} {sh : List aSh} {i : Nat → Nat → Int32} {lo : Nat → Nat → Int64} {rv : Nat → Nat → Option Nat}  {a1 : Int32} {iR : Nat → Nat → Int32} (hG : aGood sh rv) (hf : fX10_cut a1 i = some (iR)) : aM l yX10_cut cX10_cut 2 none 0 [.ref (100 + 1), .int a1] (sh, i, lo, rv) none (sh, iR, lo, rv) :=
  aM_of (by decide) (Nat.le_of_ble_eq_true rfl) (Nat.le_refl _) (Nat.le_refl _) (fun p e s m args below meth c D cA A ad0 hX hr hlk hnm => kX10_cut hX hr hlk (Nat.le_refl _) (Nat.le_refl _) hG hf)
def fX11_end (a1 : Int32) (i : Nat → Nat → Int32) : Option ((Int32) × (Nat → Nat → Int32)) := if a1 < 0 then (some (0, i)) else (bn1 (fX10_size i) fun v1 =>
    if a1 ≤ v1 then (bn1 (fX10_cut a1 i) fun i3 =>
    some (1, i3)) else (some (0, i)))
theorem kX11_end  {vR : Int32} {iR : Nat → Nat → Int32} (hX : aX p s m args c RX11 cX11_end 2 D cA A ad0) (hr : meth.sig.returnType = (some .boolean)) (hlk : meth.locks = false) (hRf : 1 ≤ R.frames) (hRl : 64 * 1 ≤ R.locals) {a1 : Int32} (hG : aGood sh rv) (hf : fX11_end a1 i = some (vR, iR)) : aJ p l e R s m args below meth c (MQ below (aPost D cA ad0 A (sh, i0, lo0, rv0) (some (.int vR)) (sh, iR, lo, rv)) args s (sh.length - sh.length) (aSn sh - aSn sh) A) D cA A ad0 2 sh.length (aSn sh) 0 [some (.ref (100 + 0)), some (.int a1)] [] (sh, i, lo, rv) := by
  unfold fX11_end at hf
  refine j_iload_n hX dX11_end_0 rfl ?_
  refine j_if_lt (tgt := 15) hX dX11_end_1 (by decide) (fun hc => ?_) (fun hc => ?_)
  · have hf := ifp hc hf
    refine j_iconst hX dX11_end_15 ic_0 ?_
    cases hf
    exact j_ret hX hr hlk rfl dX11_end_16
  · have hf := ifn hc hf
    refine j_iload_n hX dX11_end_4 rfl ?_
    refine j_aload_n hX dX11_end_5 rfl ?_
    refine j_getR (k := 0) hX kX11 (by decide) fk_X11_10 (rf_0_0 hG) dX11_end_6 (sh_0 hG) rfl ?_
    obtain ⟨v1, hh2, hf⟩ := bd1 hf
    refine j_cV0i hX lk_X11_93 kX10 dX11_end_9 (sh_1 hG) (okX10_size hG hh2) rfl rfl (rmm (by omega) hRf hRl (by decide)) (Nat.le_of_ble_eq_true rfl) (Nat.le_add_right _ _) (Nat.le_add_right _ _) ?_
    refine j_icmp_le (tgt := 17) hX dX11_end_12 (by decide) (fun hc => ?_) (fun hc => ?_)
    · have hf := ifp hc hf
      refine j_aload_n hX dX11_end_17 rfl ?_
      refine j_getR (k := 0) hX kX11 (by decide) fk_X11_10 (rf_0_0 hG) dX11_end_18 (sh_0 hG) rfl ?_
      refine j_iload_n hX dX11_end_21 rfl ?_
      obtain ⟨i3, hh4, hf⟩ := bd1 hf
      refine j_cV1v hX lk_X11_101 kX10 dX11_end_22 (sh_1 hG) (okX10_cut hG hh4) rfl rfl (rmm (by omega) hRf hRl (by decide)) (Nat.le_of_ble_eq_true rfl) (Nat.le_add_right _ _) (Nat.le_add_right _ _) ?_
      refine j_iconst hX dX11_end_25 ic_1 ?_
      refine jpc (b := 26) rfl ?_
      cases hf
      exact j_ret hX hr hlk rfl dX11_end_26
    · have hf := ifn hc hf
      refine j_iconst hX dX11_end_15 ic_0 ?_
      cases hf
      exact j_ret hX hr hlk rfl dX11_end_16
theorem okX11_end {l : Launch} {sh : List aSh} {i : Nat → Nat → Int32} {lo : Nat → Nat → Int64} {rv : Nat → Nat → Option Nat}  {a1 : Int32} {vR : Int32} {iR : Nat → Nat → Int32} (hG : aGood sh rv) (hf : fX11_end a1 i = some (vR, iR)) : aM l yX11_end cX11_end 2 (some .boolean) 1 [.ref (100 + 0), .int a1] (sh, i, lo, rv) (some (.int vR)) (sh, iR, lo, rv) :=
  aM_of (by decide) (Nat.le_of_ble_eq_true rfl) (Nat.le_refl _) (Nat.le_refl _) (fun p e s m args below meth c D cA A ad0 hX hr hlk hnm => kX11_end hX hr hlk (Nat.le_refl _) (Nat.le_refl _) hG hf)
def fX10_rewind (i : Nat → Nat → Int32) : Option ((Nat → Nat → Int32)) := lt (u2 i 1 2 0) fun i1 =>
    some (i1)
theorem kX10_rewind  {iR : Nat → Nat → Int32} (hX : aX p s m args c RX10 cX10_rewind 1 D cA A ad0) (hr : meth.sig.returnType = none) (hlk : meth.locks = false) (hRf : 0 ≤ R.frames) (hRl : 64 * 0 ≤ R.locals) (hG : aGood sh rv) (hf : fX10_rewind i = some (iR)) : aJ p l e R s m args below meth c (MQ below (aPost D cA ad0 A (sh, i0, lo0, rv0) none (sh, iR, lo, rv)) args s (sh.length - sh.length) (aSn sh - aSn sh) A) D cA A ad0 1 sh.length (aSn sh) 0 [some (.ref (100 + 1))] [] (sh, i, lo, rv) := by
  unfold fX10_rewind at hf
  refine j_aload_n hX dX10_rewind_0 rfl ?_
  refine j_iconst hX dX10_rewind_1 ic_0 ?_
  have hf := ltd hf
  refine j_putI (k := 2) hX kX10 (by decide) fk_X10_19 dX10_rewind_2 (sh_1 hG) rfl rfl rfl rfl ?_
  cases hf
  exact j_vret hX hr hlk dX10_rewind_5
theorem okX10_rewind {l : Launch} {sh : List aSh} {i : Nat → Nat → Int32} {lo : Nat → Nat → Int64} {rv : Nat → Nat → Option Nat}  {iR : Nat → Nat → Int32} (hG : aGood sh rv) (hf : fX10_rewind i = some (iR)) : aM l yX10_rewind cX10_rewind 1 none 0 [.ref (100 + 1)] (sh, i, lo, rv) none (sh, iR, lo, rv) :=
  aM_of (by decide) (Nat.le_of_ble_eq_true rfl) (Nat.le_refl _) (Nat.le_refl _) (fun p e s m args below meth c D cA A ad0 hX hr hlk hnm => kX10_rewind hX hr hlk (Nat.le_refl _) (Nat.le_refl _) hG hf)
def fX10_ahead_38 (i : Nat → Nat → Int32) : Option ((Int32) × (Nat → Nat → Int32)) := if (i 1 1) ≤ (i 1 2) then (some ((-1), i)) else (if aIn (i 1 2) 240 = true then
    (some ((i 2 ((i 1 2) : Int32).toNatClampNeg), i)) else none)
theorem kX10_ahead_38  {vR : Int32} {iR : Nat → Nat → Int32} (hX : aX p s m args c RX10 cX10_ahead 1 D cA A ad0) (hr : meth.sig.returnType = (some .int)) (hlk : meth.locks = false) (hRf : 0 ≤ R.frames) (hRl : 64 * 0 ≤ R.locals) (hG : aGood sh rv) (hf : fX10_ahead_38 i = some (vR, iR)) : aJ p l e R s m args below meth c (MQ below (aPost D cA ad0 A (sh, i0, lo0, rv0) (some (.int vR)) (sh, iR, lo, rv)) args s (sh.length - sh.length) (aSn sh - aSn sh) A) D cA A ad0 1 sh.length (aSn sh) 38 [some (.ref (100 + 1))] [] (sh, i, lo, rv) := by
  unfold fX10_ahead_38 at hf
  refine j_aload_n hX dX10_ahead_38 rfl ?_
  refine j_getI (k := 2) hX kX10 (by decide) fk_X10_19 dX10_ahead_39 (sh_1 hG) rfl ?_
  refine j_aload_n hX dX10_ahead_42 rfl ?_
  refine j_getI (k := 1) hX kX10 (by decide) fk_X10_15 dX10_ahead_43 (sh_1 hG) rfl ?_
  refine j_icmp_ge (tgt := 61) hX dX10_ahead_46 (by decide) (fun hc => ?_) (fun hc => ?_)
  · have hf := ifp hc hf
    refine j_iconst hX dX10_ahead_61 ic_m1 ?_
    cases hf
    exact j_ret hX hr hlk rfl dX10_ahead_62
  · have hf := ifn hc hf
    refine j_aload_n hX dX10_ahead_49 rfl ?_
    refine j_getR (k := 0) hX kX10 (by decide) fk_X10_11 (rf_1_0 hG) dX10_ahead_50 (sh_1 hG) rfl ?_
    refine j_aload_n hX dX10_ahead_53 rfl ?_
    refine j_getI (k := 2) hX kX10 (by decide) fk_X10_19 dX10_ahead_54 (sh_1 hG) rfl ?_
    obtain ⟨hg, hf⟩ := gd hf
    refine j_iald hX (sh_2 hG) hg dX10_ahead_57 ?_
    refine j_goto (tgt := 62) hX dX10_ahead_58 (by decide) ?_
    cases hf
    exact j_ret hX hr hlk rfl dX10_ahead_62
def fX10_ahead_0 : Nat → (Nat → Nat → Int32) → Option ((Int32) × (Nat → Nat → Int32))
  | 0, _ => none
  | n + 1, i => if (i 1 1) ≤ (i 1 2) then (fX10_ahead_38 i) else (if aIn (i 1 2) 240 = true then
    (if (i 2 ((i 1 2) : Int32).toNatClampNeg) = 32 then (lt (u2 i 1 2 ((i 1 2) + (1 : Int32))) fun i1 =>
    fX10_ahead_0 n i1) else (fX10_ahead_38 i)) else none)
theorem kX10_ahead_0  {vR : Int32} {iR : Nat → Nat → Int32} (hX : aX p s m args c RX10 cX10_ahead 1 D cA A ad0) (hr : meth.sig.returnType = (some .int)) (hlk : meth.locks = false) (hRf : 0 ≤ R.frames) (hRl : 64 * 0 ≤ R.locals) : ∀ (n : Nat) (i : Nat → Nat → Int32), aGood sh rv → fX10_ahead_0 n i = some (vR, iR) → aJ p l e R s m args below meth c (MQ below (aPost D cA ad0 A (sh, i0, lo0, rv0) (some (.int vR)) (sh, iR, lo, rv)) args s (sh.length - sh.length) (aSn sh - aSn sh) A) D cA A ad0 1 sh.length (aSn sh) 0 [some (.ref (100 + 1))] [] (sh, i, lo, rv) := by
  intro n
  induction n with
  | zero => intros; rename_i hf; cases hf
  | succ n ih =>
    intro i hG hf
    rw [fX10_ahead_0] at hf
    refine j_aload_n hX dX10_ahead_0 rfl ?_
    refine j_getI (k := 2) hX kX10 (by decide) fk_X10_19 dX10_ahead_1 (sh_1 hG) rfl ?_
    refine j_aload_n hX dX10_ahead_4 rfl ?_
    refine j_getI (k := 1) hX kX10 (by decide) fk_X10_15 dX10_ahead_5 (sh_1 hG) rfl ?_
    refine j_icmp_ge (tgt := 38) hX dX10_ahead_8 (by decide) (fun hc => ?_) (fun hc => ?_)
    · have hf := ifp hc hf
      exact aJx (kX10_ahead_38 hX hr hlk hRf hRl hG  hf) (And.intro rfl (rfl))
    · have hf := ifn hc hf
      refine j_aload_n hX dX10_ahead_11 rfl ?_
      refine j_getR (k := 0) hX kX10 (by decide) fk_X10_11 (rf_1_0 hG) dX10_ahead_12 (sh_1 hG) rfl ?_
      refine j_aload_n hX dX10_ahead_15 rfl ?_
      refine j_getI (k := 2) hX kX10 (by decide) fk_X10_19 dX10_ahead_16 (sh_1 hG) rfl ?_
      obtain ⟨hg, hf⟩ := gd hf
      refine j_iald hX (sh_2 hG) hg dX10_ahead_19 ?_
      refine j_bipush hX dX10_ahead_20 bp_32 ?_
      refine j_icmp_ne (tgt := 38) hX dX10_ahead_22 (by decide) (fun hc => ?_) (fun hc => ?_)
      · have hf := ifn hc hf
        exact aJx (kX10_ahead_38 hX hr hlk hRf hRl hG  hf) (And.intro rfl (rfl))
      · have hf := ifp hc hf
        refine j_aload_n hX dX10_ahead_25 rfl ?_
        refine j_dup hX dX10_ahead_26 rfl ?_
        refine j_getI (k := 2) hX kX10 (by decide) fk_X10_19 dX10_ahead_27 (sh_1 hG) rfl ?_
        refine j_iconst hX dX10_ahead_30 ic_1 ?_
        refine j_iadd hX dX10_ahead_31 ?_
        refine jpc (b := 32) rfl ?_
        have hf := ltd hf
        refine j_putI (k := 2) hX kX10 (by decide) fk_X10_19 dX10_ahead_32 (sh_1 hG) rfl rfl rfl rfl ?_
        refine j_goto (tgt := 0) hX dX10_ahead_35 (by decide) ?_
        exact aJx (ih _ hG  hf) (And.intro rfl (rfl))
def fX10_ahead (i : Nat → Nat → Int32) : Option ((Int32) × (Nat → Nat → Int32)) := fX10_ahead_0 fuel i
theorem kX10_ahead  {vR : Int32} {iR : Nat → Nat → Int32} (hX : aX p s m args c RX10 cX10_ahead 1 D cA A ad0) (hr : meth.sig.returnType = (some .int)) (hlk : meth.locks = false) (hRf : 0 ≤ R.frames) (hRl : 64 * 0 ≤ R.locals) (hG : aGood sh rv) (hf : fX10_ahead i = some (vR, iR)) : aJ p l e R s m args below meth c (MQ below (aPost D cA ad0 A (sh, i0, lo0, rv0) (some (.int vR)) (sh, iR, lo, rv)) args s (sh.length - sh.length) (aSn sh - aSn sh) A) D cA A ad0 1 sh.length (aSn sh) 0 [some (.ref (100 + 1))] [] (sh, i, lo, rv) := by
  unfold fX10_ahead at hf
  exact aJx (kX10_ahead_0 hX hr hlk hRf hRl fuel _ hG  hf) (And.intro rfl (rfl))
theorem okX10_ahead {l : Launch} {sh : List aSh} {i : Nat → Nat → Int32} {lo : Nat → Nat → Int64} {rv : Nat → Nat → Option Nat}  {vR : Int32} {iR : Nat → Nat → Int32} (hG : aGood sh rv) (hf : fX10_ahead i = some (vR, iR)) : aM l yX10_ahead cX10_ahead 1 (some .int) 0 [.ref (100 + 1)] (sh, i, lo, rv) (some (.int vR)) (sh, iR, lo, rv) :=
  aM_of (by decide) (Nat.le_of_ble_eq_true rfl) (Nat.le_refl _) (Nat.le_refl _) (fun p e s m args below meth c D cA A ad0 hX hr hlk hnm => kX10_ahead hX hr hlk (Nat.le_refl _) (Nat.le_refl _) hG hf)
def fX10_pass (i : Nat → Nat → Int32) : Option ((Nat → Nat → Int32)) := if (i 1 1) ≤ (i 1 2) then (some (i)) else (lt (u2 i 1 2 ((i 1 2) + (1 : Int32))) fun i1 =>
    some (i1))
theorem kX10_pass  {iR : Nat → Nat → Int32} (hX : aX p s m args c RX10 cX10_pass 1 D cA A ad0) (hr : meth.sig.returnType = none) (hlk : meth.locks = false) (hRf : 0 ≤ R.frames) (hRl : 64 * 0 ≤ R.locals) (hG : aGood sh rv) (hf : fX10_pass i = some (iR)) : aJ p l e R s m args below meth c (MQ below (aPost D cA ad0 A (sh, i0, lo0, rv0) none (sh, iR, lo, rv)) args s (sh.length - sh.length) (aSn sh - aSn sh) A) D cA A ad0 1 sh.length (aSn sh) 0 [some (.ref (100 + 1))] [] (sh, i, lo, rv) := by
  unfold fX10_pass at hf
  refine j_aload_n hX dX10_pass_0 rfl ?_
  refine j_getI (k := 2) hX kX10 (by decide) fk_X10_19 dX10_pass_1 (sh_1 hG) rfl ?_
  refine j_aload_n hX dX10_pass_4 rfl ?_
  refine j_getI (k := 1) hX kX10 (by decide) fk_X10_15 dX10_pass_5 (sh_1 hG) rfl ?_
  refine j_icmp_ge (tgt := 21) hX dX10_pass_8 (by decide) (fun hc => ?_) (fun hc => ?_)
  · have hf := ifp hc hf
    cases hf
    exact j_vret hX hr hlk dX10_pass_21
  · have hf := ifn hc hf
    refine j_aload_n hX dX10_pass_11 rfl ?_
    refine j_dup hX dX10_pass_12 rfl ?_
    refine j_getI (k := 2) hX kX10 (by decide) fk_X10_19 dX10_pass_13 (sh_1 hG) rfl ?_
    refine j_iconst hX dX10_pass_16 ic_1 ?_
    refine j_iadd hX dX10_pass_17 ?_
    refine jpc (b := 18) rfl ?_
    have hf := ltd hf
    refine j_putI (k := 2) hX kX10 (by decide) fk_X10_19 dX10_pass_18 (sh_1 hG) rfl rfl rfl rfl ?_
    cases hf
    exact j_vret hX hr hlk dX10_pass_21
theorem okX10_pass {l : Launch} {sh : List aSh} {i : Nat → Nat → Int32} {lo : Nat → Nat → Int64} {rv : Nat → Nat → Option Nat}  {iR : Nat → Nat → Int32} (hG : aGood sh rv) (hf : fX10_pass i = some (iR)) : aM l yX10_pass cX10_pass 1 none 0 [.ref (100 + 1)] (sh, i, lo, rv) none (sh, iR, lo, rv) :=
  aM_of (by decide) (Nat.le_of_ble_eq_true rfl) (Nat.le_refl _) (Nat.le_refl _) (fun p e s m args below meth c D cA A ad0 hX hr hlk hnm => kX10_pass hX hr hlk (Nat.le_refl _) (Nat.le_refl _) hG hf)
def fJ0_isLatin1_aae02 (j0 : Nat) : Option ((Int32)) := if (1 : Int32) = 0 then (some (0)) else (if (0 : Int32) = 0 then (some (1)) else (some (0)))
theorem kJ0_isLatin1_aae02  {j0 : Nat} {vR : Int32} (hX : aX p s m args c RJ0 cJ0_isLatin1_aae02 1 D cA A ad0) (hr : meth.sig.returnType = (some .boolean)) (hlk : meth.locks = false) (hRf : 0 ≤ R.frames) (hRl : 64 * 0 ≤ R.locals) (h0 : j0 < 8) (hG : aGood sh rv) (hf : fJ0_isLatin1_aae02 j0 = some (vR)) : aJ p l e R s m args below meth c (MQ below (aPost D cA ad0 A (sh, i0, lo0, rv0) (some (.int vR)) (sh, i, lo, rv)) args s (sh.length - sh.length) (aSn sh - aSn sh) A) D cA A ad0 1 sh.length (aSn sh) 0 [some (.ref (10 + j0))] [] (sh, i, lo, rv) := by
  unfold fJ0_isLatin1_aae02 at hf
  refine j_getsC hX fk_J0_38 dJ0_isLatin1_aae02_0 ?_
  refine j_if_eq (tgt := 17) hX dJ0_isLatin1_aae02_3 (by decide) (fun hc => ?_) (fun hc => ?_)
  · have hf := ifp hc hf
    refine j_iconst hX dJ0_isLatin1_aae02_17 ic_0 ?_
    cases hf
    exact j_ret hX hr hlk rfl dJ0_isLatin1_aae02_18
  · have hf := ifn hc hf
    refine j_aload_n hX dJ0_isLatin1_aae02_6 rfl ?_
    refine j_scod hX h0 fk_J0_15 dJ0_isLatin1_aae02_7 ?_
    refine j_if_ne (tgt := 17) hX dJ0_isLatin1_aae02_10 (by decide) (fun hc => ?_) (fun hc => ?_)
    · have hf := ifn hc hf
      refine j_iconst hX dJ0_isLatin1_aae02_17 ic_0 ?_
      cases hf
      exact j_ret hX hr hlk rfl dJ0_isLatin1_aae02_18
    · have hf := ifp hc hf
      refine j_iconst hX dJ0_isLatin1_aae02_13 ic_1 ?_
      refine j_goto (tgt := 18) hX dJ0_isLatin1_aae02_14 (by decide) ?_
      cases hf
      exact j_ret hX hr hlk rfl dJ0_isLatin1_aae02_18
theorem okJ0_isLatin1_aae02 {l : Launch} {sh : List aSh} {i : Nat → Nat → Int32} {lo : Nat → Nat → Int64} {rv : Nat → Nat → Option Nat}  {j0 : Nat} {vR : Int32} (hG : aGood sh rv) (h0 : j0 < 8) (hf : fJ0_isLatin1_aae02 j0 = some (vR)) : aM l yJ0_isLatin1_aae02 cJ0_isLatin1_aae02 1 (some .boolean) 0 [.ref (10 + j0)] (sh, i, lo, rv) (some (.int vR)) (sh, i, lo, rv) :=
  aM_of (by decide) (Nat.le_of_ble_eq_true rfl) (Nat.le_refl _) (Nat.le_refl _) (fun p e s m args below meth c D cA A ad0 hX hr hlk hnm => kJ0_isLatin1_aae02 hX hr hlk (Nat.le_refl _) (Nat.le_refl _) h0 hG hf)
def fX1_itemOf_2 : Nat → Int32 → Int32 → Int32 → Int32 → Option ((Int32))
  | 0, _, _, _, _ => none
  | n + 1, x0, x1, x2, x3 => if x2 ≤ x3 then (some ((-1))) else (bn1 (fJ0_charAt_5068e 1 (x1 + x3)) fun v1 =>
    if v1 = x0 then (some (x3)) else (fX1_itemOf_2 n x0 x1 x2 (x3 + 1)))
theorem kX1_itemOf_2  {vR : Int32} (hX : aX p s m args c RX1 cX1_itemOf 4 D cA A ad0) (hr : meth.sig.returnType = (some .int)) (hlk : meth.locks = false) (hRf : 4 ≤ R.frames) (hRl : 64 * 4 ≤ R.locals) : ∀ (n : Nat) (x0 : Int32) (x1 : Int32) (x2 : Int32) (x3 : Int32), aGood sh rv → fX1_itemOf_2 n x0 x1 x2 x3 = some (vR) → aJ p l e R s m args below meth c (MQ below (aPost D cA ad0 A (sh, i0, lo0, rv0) (some (.int vR)) (sh, i, lo, rv)) args s (sh.length - sh.length) (aSn sh - aSn sh) A) D cA A ad0 4 sh.length (aSn sh) 2 [some (.int x0), some (.int x1), some (.int x2), some (.int x3)] [] (sh, i, lo, rv) := by
  intro n
  induction n with
  | zero => intros; rename_i hf; cases hf
  | succ n ih =>
    intro x0 x1 x2 x3 hG hf
    rw [fX1_itemOf_2] at hf
    refine j_iload_n hX dX1_itemOf_2 rfl ?_
    refine j_iload_n hX dX1_itemOf_3 rfl ?_
    refine j_icmp_ge (tgt := 27) hX dX1_itemOf_4 (by decide) (fun hc => ?_) (fun hc => ?_)
    · have hf := ifp hc hf
      refine j_iconst hX dX1_itemOf_27 ic_m1 ?_
      cases hf
      exact j_ret hX hr hlk rfl dX1_itemOf_28
    · have hf := ifn hc hf
      refine j_ldcS (j := 1) (tx := "agcetlnsfcwftk") hX (by decide) (by decide) dX1_itemOf_7 ?_
      refine j_iload_n hX dX1_itemOf_9 rfl ?_
      refine j_iload_n hX dX1_itemOf_10 rfl ?_
      refine j_iadd hX dX1_itemOf_11 ?_
      obtain ⟨v1, hh2, hf⟩ := bd1 hf
      refine j_cT1i hX lk_X1_99 rfl (by decide) dX1_itemOf_12 (okJ0_charAt_5068e hG (by decide) hh2) (rmm (by omega) hRf hRl (by decide)) (Nat.le_of_ble_eq_true rfl) (Nat.le_add_right _ _) (Nat.le_add_right _ _) ?_
      refine jpc (b := 15) rfl ?_
      refine j_iload_n hX dX1_itemOf_15 rfl ?_
      refine j_icmp_ne (tgt := 21) hX dX1_itemOf_16 (by decide) (fun hc => ?_) (fun hc => ?_)
      · have hf := ifn hc hf
        refine j_iinc hX dX1_itemOf_21 rfl (congrArg (_ + ·) ic_1) (by decide) rfl ?_
        refine j_goto (tgt := 2) hX dX1_itemOf_24 (by decide) ?_
        exact aJx (ih _ _ _ _ hG  hf) (And.intro rfl (And.intro rfl (And.intro rfl (And.intro rfl (rfl)))))
      · have hf := ifp hc hf
        refine j_iload_n hX dX1_itemOf_19 rfl ?_
        cases hf
        exact j_ret hX hr hlk rfl dX1_itemOf_20
def fX1_itemOf (a0 : Int32) (a1 : Int32) (a2 : Int32) : Option ((Int32)) := fX1_itemOf_2 fuel a0 a1 a2 0
theorem kX1_itemOf  {vR : Int32} (hX : aX p s m args c RX1 cX1_itemOf 4 D cA A ad0) (hr : meth.sig.returnType = (some .int)) (hlk : meth.locks = false) (hRf : 4 ≤ R.frames) (hRl : 64 * 4 ≤ R.locals) {a0 : Int32} {a1 : Int32} {a2 : Int32} (hG : aGood sh rv) (hf : fX1_itemOf a0 a1 a2 = some (vR)) : aJ p l e R s m args below meth c (MQ below (aPost D cA ad0 A (sh, i0, lo0, rv0) (some (.int vR)) (sh, i, lo, rv)) args s (sh.length - sh.length) (aSn sh - aSn sh) A) D cA A ad0 4 sh.length (aSn sh) 0 [some (.int a0), some (.int a1), some (.int a2), none] [] (sh, i, lo, rv) := by
  unfold fX1_itemOf at hf
  refine j_iconst hX dX1_itemOf_0 ic_0 ?_
  refine j_istore_n hX dX1_itemOf_1 (by decide) rfl ?_
  exact aJx (kX1_itemOf_2 hX hr hlk hRf hRl fuel _ _ _ _ hG  hf) (And.intro rfl (And.intro rfl (And.intro rfl (And.intro rfl (rfl)))))
theorem okX1_itemOf {l : Launch} {sh : List aSh} {i : Nat → Nat → Int32} {lo : Nat → Nat → Int64} {rv : Nat → Nat → Option Nat}  {a0 : Int32} {a1 : Int32} {a2 : Int32} {vR : Int32} (hG : aGood sh rv) (hf : fX1_itemOf a0 a1 a2 = some (vR)) : aM l yX1_itemOf cX1_itemOf 4 (some .int) 4 [.int a0, .int a1, .int a2] (sh, i, lo, rv) (some (.int vR)) (sh, i, lo, rv) :=
  aM_of (by decide) (Nat.le_of_ble_eq_true rfl) (Nat.le_refl _) (Nat.le_refl _) (fun p e s m args below meth c D cA A ad0 hX hr hlk hnm => kX1_itemOf hX hr hlk (Nat.le_refl _) (Nat.le_refl _) hG hf)
def fX10_atDigit (i : Nat → Nat → Int32) : Option ((Int32)) := if (i 1 1) ≤ (i 1 2) then (some (0)) else (if aIn (i 1 2) 240 = true then
    (if (i 2 ((i 1 2) : Int32).toNatClampNeg) < 48 then (some (0)) else (if aIn (i 1 2) 240 = true then
    (if 57 < (i 2 ((i 1 2) : Int32).toNatClampNeg) then (some (0)) else (some (1))) else none)) else none)
theorem kX10_atDigit  {vR : Int32} (hX : aX p s m args c RX10 cX10_atDigit 1 D cA A ad0) (hr : meth.sig.returnType = (some .boolean)) (hlk : meth.locks = false) (hRf : 0 ≤ R.frames) (hRl : 64 * 0 ≤ R.locals) (hG : aGood sh rv) (hf : fX10_atDigit i = some (vR)) : aJ p l e R s m args below meth c (MQ below (aPost D cA ad0 A (sh, i0, lo0, rv0) (some (.int vR)) (sh, i, lo, rv)) args s (sh.length - sh.length) (aSn sh - aSn sh) A) D cA A ad0 1 sh.length (aSn sh) 0 [some (.ref (100 + 1))] [] (sh, i, lo, rv) := by
  unfold fX10_atDigit at hf
  refine j_aload_n hX dX10_atDigit_0 rfl ?_
  refine j_getI (k := 2) hX kX10 (by decide) fk_X10_19 dX10_atDigit_1 (sh_1 hG) rfl ?_
  refine j_aload_n hX dX10_atDigit_4 rfl ?_
  refine j_getI (k := 1) hX kX10 (by decide) fk_X10_15 dX10_atDigit_5 (sh_1 hG) rfl ?_
  refine j_icmp_ge (tgt := 43) hX dX10_atDigit_8 (by decide) (fun hc => ?_) (fun hc => ?_)
  · have hf := ifp hc hf
    refine j_iconst hX dX10_atDigit_43 ic_0 ?_
    cases hf
    exact j_ret hX hr hlk rfl dX10_atDigit_44
  · have hf := ifn hc hf
    refine j_aload_n hX dX10_atDigit_11 rfl ?_
    refine j_getR (k := 0) hX kX10 (by decide) fk_X10_11 (rf_1_0 hG) dX10_atDigit_12 (sh_1 hG) rfl ?_
    refine j_aload_n hX dX10_atDigit_15 rfl ?_
    refine j_getI (k := 2) hX kX10 (by decide) fk_X10_19 dX10_atDigit_16 (sh_1 hG) rfl ?_
    obtain ⟨hg, hf⟩ := gd hf
    refine j_iald hX (sh_2 hG) hg dX10_atDigit_19 ?_
    refine j_bipush hX dX10_atDigit_20 bp_48 ?_
    refine j_icmp_lt (tgt := 43) hX dX10_atDigit_22 (by decide) (fun hc => ?_) (fun hc => ?_)
    · have hf := ifp hc hf
      refine j_iconst hX dX10_atDigit_43 ic_0 ?_
      cases hf
      exact j_ret hX hr hlk rfl dX10_atDigit_44
    · have hf := ifn hc hf
      refine j_aload_n hX dX10_atDigit_25 rfl ?_
      refine j_getR (k := 0) hX kX10 (by decide) fk_X10_11 (rf_1_0 hG) dX10_atDigit_26 (sh_1 hG) rfl ?_
      refine j_aload_n hX dX10_atDigit_29 rfl ?_
      refine j_getI (k := 2) hX kX10 (by decide) fk_X10_19 dX10_atDigit_30 (sh_1 hG) rfl ?_
      obtain ⟨hg, hf⟩ := gd hf
      refine j_iald hX (sh_2 hG) hg dX10_atDigit_33 ?_
      refine j_bipush hX dX10_atDigit_34 bp_57 ?_
      refine j_icmp_gt (tgt := 43) hX dX10_atDigit_36 (by decide) (fun hc => ?_) (fun hc => ?_)
      · have hf := ifp hc hf
        refine j_iconst hX dX10_atDigit_43 ic_0 ?_
        cases hf
        exact j_ret hX hr hlk rfl dX10_atDigit_44
      · have hf := ifn hc hf
        refine j_iconst hX dX10_atDigit_39 ic_1 ?_
        refine j_goto (tgt := 44) hX dX10_atDigit_40 (by decide) ?_
        cases hf
        exact j_ret hX hr hlk rfl dX10_atDigit_44
theorem okX10_atDigit {l : Launch} {sh : List aSh} {i : Nat → Nat → Int32} {lo : Nat → Nat → Int64} {rv : Nat → Nat → Option Nat}  {vR : Int32} (hG : aGood sh rv) (hf : fX10_atDigit i = some (vR)) : aM l yX10_atDigit cX10_atDigit 1 (some .boolean) 0 [.ref (100 + 1)] (sh, i, lo, rv) (some (.int vR)) (sh, i, lo, rv) :=
  aM_of (by decide) (Nat.le_of_ble_eq_true rfl) (Nat.le_refl _) (Nat.le_refl _) (fun p e s m args below meth c D cA A ad0 hX hr hlk hnm => kX10_atDigit hX hr hlk (Nat.le_refl _) (Nat.le_refl _) hG hf)
def fX10_number_66 (x2 : Int32) (i : Nat → Nat → Int32) : Option ((Int32) × (Nat → Nat → Int32)) := bn1 (fX10_atDigit i) fun v10 =>
    if v10 = 0 then (some (x2, i)) else (some ((-1), i))
theorem kX10_number_66  {vR : Int32} {iR : Nat → Nat → Int32} (hX : aX p s m args c RX10 cX10_number 4 D cA A ad0) (hr : meth.sig.returnType = (some .int)) (hlk : meth.locks = false) (hRf : 1 ≤ R.frames) (hRl : 64 * 1 ≤ R.locals) {x2 : Int32} (hG : aGood sh rv) (hf : fX10_number_66 x2 i = some (vR, iR)) : aJ p l e R s m args below meth c (MQ below (aPost D cA ad0 A (sh, i0, lo0, rv0) (some (.int vR)) (sh, iR, lo, rv)) args s (sh.length - sh.length) (aSn sh - aSn sh) A) D cA A ad0 4 sh.length (aSn sh) 66 [some (.ref (100 + 1)), none, some (.int x2), none] [] (sh, i, lo, rv) := by
  unfold fX10_number_66 at hf
  refine j_aload_n hX dX10_number_66 rfl ?_
  obtain ⟨v10, hh11, hf⟩ := bd1 hf
  refine j_cV0i hX lk_X10_29 kX10 dX10_number_67 (sh_1 hG) (okX10_atDigit hG hh11) rfl rfl (rmm (by omega) hRf hRl (by decide)) (Nat.le_of_ble_eq_true rfl) (Nat.le_add_right _ _) (Nat.le_add_right _ _) ?_
  refine j_if_eq (tgt := 77) hX dX10_number_70 (by decide) (fun hc => ?_) (fun hc => ?_)
  · have hf := ifp hc hf
    refine j_iload_n hX dX10_number_77 rfl ?_
    cases hf
    exact j_ret hX hr hlk rfl dX10_number_78
  · have hf := ifn hc hf
    refine j_iconst hX dX10_number_73 ic_m1 ?_
    refine j_goto (tgt := 78) hX dX10_number_74 (by decide) ?_
    cases hf
    exact j_ret hX hr hlk rfl dX10_number_78
def fX10_number_20 : Nat → Int32 → Int32 → Int32 → (Nat → Nat → Int32) → Option ((Int32) × (Nat → Nat → Int32))
  | 0, _, _, _, _ => none
  | n + 1, x1, x2, x3, i => if x1 ≤ x3 then (fX10_number_66 x2 i) else (bn1 (fX10_atDigit i) fun v6 =>
    if v6 = 0 then (fX10_number_66 x2 i) else (if aIn (i 1 2) 240 = true then
    (lt ((((10 : Int32) * x2) + (i 2 ((i 1 2) : Int32).toNatClampNeg)) - (48 : Int32)) fun t8 =>
    lt (u2 i 1 2 ((i 1 2) + (1 : Int32))) fun i9 =>
    fX10_number_20 n x1 t8 (x3 + 1) i9) else none))
theorem kX10_number_20  {vR : Int32} {iR : Nat → Nat → Int32} (hX : aX p s m args c RX10 cX10_number 4 D cA A ad0) (hr : meth.sig.returnType = (some .int)) (hlk : meth.locks = false) (hRf : 1 ≤ R.frames) (hRl : 64 * 1 ≤ R.locals) : ∀ (n : Nat) (x1 : Int32) (x2 : Int32) (x3 : Int32) (i : Nat → Nat → Int32), aGood sh rv → fX10_number_20 n x1 x2 x3 i = some (vR, iR) → aJ p l e R s m args below meth c (MQ below (aPost D cA ad0 A (sh, i0, lo0, rv0) (some (.int vR)) (sh, iR, lo, rv)) args s (sh.length - sh.length) (aSn sh - aSn sh) A) D cA A ad0 4 sh.length (aSn sh) 20 [some (.ref (100 + 1)), some (.int x1), some (.int x2), some (.int x3)] [] (sh, i, lo, rv) := by
  intro n
  induction n with
  | zero => intros; rename_i hf; cases hf
  | succ n ih =>
    intro x1 x2 x3 i hG hf
    rw [fX10_number_20] at hf
    refine j_iload_n hX dX10_number_20 rfl ?_
    refine j_iload_n hX dX10_number_21 rfl ?_
    refine j_icmp_ge (tgt := 66) hX dX10_number_22 (by decide) (fun hc => ?_) (fun hc => ?_)
    · have hf := ifp hc hf
      exact aJx (kX10_number_66 hX hr hlk hRf hRl hG  hf) (And.intro rfl (And.intro rfl (rfl)))
    · have hf := ifn hc hf
      refine j_aload_n hX dX10_number_25 rfl ?_
      obtain ⟨v6, hh7, hf⟩ := bd1 hf
      refine j_cV0i hX lk_X10_29 kX10 dX10_number_26 (sh_1 hG) (okX10_atDigit hG hh7) rfl rfl (rmm (by omega) hRf hRl (by decide)) (Nat.le_of_ble_eq_true rfl) (Nat.le_add_right _ _) (Nat.le_add_right _ _) ?_
      refine j_if_eq (tgt := 66) hX dX10_number_29 (by decide) (fun hc => ?_) (fun hc => ?_)
      · have hf := ifp hc hf
        exact aJx (kX10_number_66 hX hr hlk hRf hRl hG  hf) (And.intro rfl (And.intro rfl (rfl)))
      · have hf := ifn hc hf
        refine j_bipush hX dX10_number_32 bp_10 ?_
        refine j_iload_n hX dX10_number_34 rfl ?_
        refine j_imul hX dX10_number_35 ?_
        refine j_aload_n hX dX10_number_36 rfl ?_
        refine j_getR (k := 0) hX kX10 (by decide) fk_X10_11 (rf_1_0 hG) dX10_number_37 (sh_1 hG) rfl ?_
        refine jpc (b := 40) rfl ?_
        refine j_aload_n hX dX10_number_40 rfl ?_
        refine j_getI (k := 2) hX kX10 (by decide) fk_X10_19 dX10_number_41 (sh_1 hG) rfl ?_
        obtain ⟨hg, hf⟩ := gd hf
        refine j_iald hX (sh_2 hG) hg dX10_number_44 ?_
        refine j_iadd hX dX10_number_45 ?_
        refine j_bipush hX dX10_number_46 bp_48 ?_
        refine j_isub hX dX10_number_48 ?_
        have hf := ltd hf
        refine j_istore_n hX dX10_number_49 (by decide) rfl ?_
        refine j_aload_n hX dX10_number_50 rfl ?_
        refine jpc (b := 51) rfl ?_
        refine j_dup hX dX10_number_51 rfl ?_
        refine j_getI (k := 2) hX kX10 (by decide) fk_X10_19 dX10_number_52 (sh_1 hG) rfl ?_
        refine j_iconst hX dX10_number_55 ic_1 ?_
        refine j_iadd hX dX10_number_56 ?_
        have hf := ltd hf
        refine j_putI (k := 2) hX kX10 (by decide) fk_X10_19 dX10_number_57 (sh_1 hG) rfl rfl rfl rfl ?_
        refine j_iinc hX dX10_number_60 rfl (congrArg (_ + ·) ic_1) (by decide) rfl ?_
        refine jpc (b := 63) rfl ?_
        refine j_goto (tgt := 20) hX dX10_number_63 (by decide) ?_
        exact aJx (ih _ _ _ _ hG  hf) (And.intro rfl (And.intro rfl (And.intro rfl (And.intro rfl (rfl)))))
def fX10_number_17 (x1 : Int32) (s0 : Int32) (i : Nat → Nat → Int32) : Option ((Int32) × (Nat → Nat → Int32)) := fX10_number_20 fuel x1 s0 0 i
theorem kX10_number_17  {vR : Int32} {iR : Nat → Nat → Int32} (hX : aX p s m args c RX10 cX10_number 4 D cA A ad0) (hr : meth.sig.returnType = (some .int)) (hlk : meth.locks = false) (hRf : 1 ≤ R.frames) (hRl : 64 * 1 ≤ R.locals) {x1 : Int32} {s0 : Int32} (hG : aGood sh rv) (hf : fX10_number_17 x1 s0 i = some (vR, iR)) : aJ p l e R s m args below meth c (MQ below (aPost D cA ad0 A (sh, i0, lo0, rv0) (some (.int vR)) (sh, iR, lo, rv)) args s (sh.length - sh.length) (aSn sh - aSn sh) A) D cA A ad0 4 sh.length (aSn sh) 17 [some (.ref (100 + 1)), some (.int x1), none, none] [.int s0] (sh, i, lo, rv) := by
  unfold fX10_number_17 at hf
  refine j_istore_n hX dX10_number_17 (by decide) rfl ?_
  refine j_iconst hX dX10_number_18 ic_0 ?_
  refine j_istore_n hX dX10_number_19 (by decide) rfl ?_
  exact aJx (kX10_number_20 hX hr hlk hRf hRl fuel _ _ _ _ hG  hf) (And.intro rfl (And.intro rfl (And.intro rfl (And.intro rfl (rfl)))))
def fX10_number (a1 : Int32) (i : Nat → Nat → Int32) : Option ((Int32) × (Nat → Nat → Int32)) := bn2 (fX10_ahead i) fun v1 i2 =>
    bn1 (fX10_atDigit i2) fun v4 =>
    if v4 = 0 then (fX10_number_17 a1 (-1) i2) else (fX10_number_17 a1 0 i2)
theorem kX10_number  {vR : Int32} {iR : Nat → Nat → Int32} (hX : aX p s m args c RX10 cX10_number 4 D cA A ad0) (hr : meth.sig.returnType = (some .int)) (hlk : meth.locks = false) (hRf : 1 ≤ R.frames) (hRl : 64 * 1 ≤ R.locals) {a1 : Int32} (hG : aGood sh rv) (hf : fX10_number a1 i = some (vR, iR)) : aJ p l e R s m args below meth c (MQ below (aPost D cA ad0 A (sh, i0, lo0, rv0) (some (.int vR)) (sh, iR, lo, rv)) args s (sh.length - sh.length) (aSn sh - aSn sh) A) D cA A ad0 4 sh.length (aSn sh) 0 [some (.ref (100 + 1)), some (.int a1), none, none] [] (sh, i, lo, rv) := by
  unfold fX10_number at hf
  refine j_aload_n hX dX10_number_0 rfl ?_
  obtain ⟨v1, i2, hh3, hf⟩ := bd2 hf
  refine j_cV0i hX lk_X10_22 kX10 dX10_number_1 (sh_1 hG) (okX10_ahead hG hh3) rfl rfl (rmm (by omega) hRf hRl (by decide)) (Nat.le_of_ble_eq_true rfl) (Nat.le_add_right _ _) (Nat.le_add_right _ _) ?_
  refine j_pop hX dX10_number_4 rfl ?_
  refine j_aload_n hX dX10_number_5 rfl ?_
  obtain ⟨v4, hh5, hf⟩ := bd1 hf
  refine j_cV0i hX lk_X10_29 kX10 dX10_number_6 (sh_1 hG) (okX10_atDigit hG hh5) rfl rfl (rmm (by omega) hRf hRl (by decide)) (Nat.le_of_ble_eq_true rfl) (Nat.le_add_right _ _) (Nat.le_add_right _ _) ?_
  refine jpc (b := 9) rfl ?_
  refine j_if_eq (tgt := 16) hX dX10_number_9 (by decide) (fun hc => ?_) (fun hc => ?_)
  · have hf := ifp hc hf
    refine j_iconst hX dX10_number_16 ic_m1 ?_
    exact aJx (kX10_number_17 hX hr hlk hRf hRl hG  hf) (And.intro rfl (And.intro rfl (rfl)))
  · have hf := ifn hc hf
    refine j_iconst hX dX10_number_12 ic_0 ?_
    refine j_goto (tgt := 17) hX dX10_number_13 (by decide) ?_
    exact aJx (kX10_number_17 hX hr hlk hRf hRl hG  hf) (And.intro rfl (And.intro rfl (rfl)))
theorem okX10_number {l : Launch} {sh : List aSh} {i : Nat → Nat → Int32} {lo : Nat → Nat → Int64} {rv : Nat → Nat → Option Nat}  {a1 : Int32} {vR : Int32} {iR : Nat → Nat → Int32} (hG : aGood sh rv) (hf : fX10_number a1 i = some (vR, iR)) : aM l yX10_number cX10_number 4 (some .int) 1 [.ref (100 + 1), .int a1] (sh, i, lo, rv) (some (.int vR)) (sh, iR, lo, rv) :=
  aM_of (by decide) (Nat.le_of_ble_eq_true rfl) (Nat.le_refl _) (Nat.le_refl _) (fun p e s m args below meth c D cA A ad0 hX hr hlk hnm => kX10_number hX hr hlk (Nat.le_refl _) (Nat.le_refl _) hG hf)
def fX10_stayAtLastDigit (i : Nat → Nat → Int32) : Option ((Nat → Nat → Int32)) := if (i 1 2) ≤ 0 then (some (i)) else (lt (u2 i 1 2 ((i 1 2) - (1 : Int32))) fun i1 =>
    some (i1))
theorem kX10_stayAtLastDigit  {iR : Nat → Nat → Int32} (hX : aX p s m args c RX10 cX10_stayAtLastDigit 1 D cA A ad0) (hr : meth.sig.returnType = none) (hlk : meth.locks = false) (hRf : 0 ≤ R.frames) (hRl : 64 * 0 ≤ R.locals) (hG : aGood sh rv) (hf : fX10_stayAtLastDigit i = some (iR)) : aJ p l e R s m args below meth c (MQ below (aPost D cA ad0 A (sh, i0, lo0, rv0) none (sh, iR, lo, rv)) args s (sh.length - sh.length) (aSn sh - aSn sh) A) D cA A ad0 1 sh.length (aSn sh) 0 [some (.ref (100 + 1))] [] (sh, i, lo, rv) := by
  unfold fX10_stayAtLastDigit at hf
  refine j_aload_n hX dX10_stayAtLastDigit_0 rfl ?_
  refine j_getI (k := 2) hX kX10 (by decide) fk_X10_19 dX10_stayAtLastDigit_1 (sh_1 hG) rfl ?_
  refine j_if_le (tgt := 17) hX dX10_stayAtLastDigit_4 (by decide) (fun hc => ?_) (fun hc => ?_)
  · have hf := ifp hc hf
    cases hf
    exact j_vret hX hr hlk dX10_stayAtLastDigit_17
  · have hf := ifn hc hf
    refine j_aload_n hX dX10_stayAtLastDigit_7 rfl ?_
    refine j_dup hX dX10_stayAtLastDigit_8 rfl ?_
    refine j_getI (k := 2) hX kX10 (by decide) fk_X10_19 dX10_stayAtLastDigit_9 (sh_1 hG) rfl ?_
    refine j_iconst hX dX10_stayAtLastDigit_12 ic_1 ?_
    refine j_isub hX dX10_stayAtLastDigit_13 ?_
    refine jpc (b := 14) rfl ?_
    have hf := ltd hf
    refine j_putI (k := 2) hX kX10 (by decide) fk_X10_19 dX10_stayAtLastDigit_14 (sh_1 hG) rfl rfl rfl rfl ?_
    cases hf
    exact j_vret hX hr hlk dX10_stayAtLastDigit_17
theorem okX10_stayAtLastDigit {l : Launch} {sh : List aSh} {i : Nat → Nat → Int32} {lo : Nat → Nat → Int64} {rv : Nat → Nat → Option Nat}  {iR : Nat → Nat → Int32} (hG : aGood sh rv) (hf : fX10_stayAtLastDigit i = some (iR)) : aM l yX10_stayAtLastDigit cX10_stayAtLastDigit 1 none 0 [.ref (100 + 1)] (sh, i, lo, rv) none (sh, iR, lo, rv) :=
  aM_of (by decide) (Nat.le_of_ble_eq_true rfl) (Nat.le_refl _) (Nat.le_refl _) (fun p e s m args below meth c D cA A ad0 hX hr hlk hnm => kX10_stayAtLastDigit hX hr hlk (Nat.le_refl _) (Nat.le_refl _) hG hf)
def fX1_readItems_111 (w1 : Nat) (n1 : Nat) (i : Nat → Nat → Int32) : Option ((Int32) × (Nat → Nat → Int32)) := bn1 (fX10_stayAtLastDigit i) fun i14 =>
    some (0, i14)
theorem kX1_readItems_111  {w1 : Nat} {n1 : Nat} {vR : Int32} {iR : Nat → Nat → Int32} (hX : aX p s m args c RX1 cX1_readItems 9 D cA A ad0) (hr : meth.sig.returnType = (some .boolean)) (hlk : meth.locks = false) (hRf : 5 ≤ R.frames) (hRl : 64 * 5 ≤ R.locals) (h1 : sh[w1]? = some (.inl (.int, n1))) (hG : aGood sh rv) (hf : fX1_readItems_111 w1 n1 i = some (vR, iR)) : aJ p l e R s m args below meth c (MQ below (aPost D cA ad0 A (sh, i0, lo0, rv0) (some (.int vR)) (sh, iR, lo, rv)) args s (sh.length - sh.length) (aSn sh - aSn sh) A) D cA A ad0 9 sh.length (aSn sh) 111 [some (.ref (100 + 1)), none, none, none, none, none, none, none, none] [] (sh, i, lo, rv) := by
  unfold fX1_readItems_111 at hf
  refine j_aload_n hX dX1_readItems_111 rfl ?_
  obtain ⟨i14, hh15, hf⟩ := bd1 hf
  refine j_cV0v hX lk_X1_94 kX10 dX1_readItems_112 (sh_1 hG) (okX10_stayAtLastDigit hG hh15) rfl rfl (rmm (by omega) hRf hRl (by decide)) (Nat.le_of_ble_eq_true rfl) (Nat.le_add_right _ _) (Nat.le_add_right _ _) ?_
  refine j_iconst hX dX1_readItems_115 ic_0 ?_
  cases hf
  exact j_ret hX hr hlk rfl dX1_readItems_116
def fX1_readItems_17 (w1 : Nat) (n1 : Nat) : Nat → Int32 → Int32 → Int32 → Int32 → Int32 → (Nat → Nat → Int32) → Option ((Int32) × (Nat → Nat → Int32))
  | 0, _, _, _, _, _, _ => none
  | n + 1, x2, x3, x4, x5, x6, i => if x4 < x6 then (some (0, i)) else (bn2 (fX10_ahead i) fun v2 i3 =>
    bn1 (fX1_itemOf v2 x3 x4) fun v5 =>
    if v5 = (-1) then (some (1, i3)) else (if ((x5 >>> (v5 &&& 31)) &&& (1 : Int32)) = 1 then (some (0, i3)) else (lt (x5 ||| ((1 : Int32) <<< (v5 &&& 31))) fun t7 =>
    bn1 (fX10_pass i3) fun i8 =>
    bn2 (fX10_number 2 i8) fun v10 i11 =>
    if v10 = (-1) then (some (0, i11)) else (if aIn (x3 + v5) 14 = true then
    (if v10 < ((aTab 2).getD ((x3 + v5) : Int32).toNatClampNeg 0) then (fX1_readItems_111 w1 n1 i11) else (if aIn (x3 + v5) 14 = true then
    (if v10 ≤ ((aTab 1).getD ((x3 + v5) : Int32).toNatClampNeg 0) then (if aIn (x2 + v5) n1 = true then
    (lt (u2 i11 w1 ((x2 + v5) : Int32).toNatClampNeg v10) fun i13 => fX1_readItems_17 w1 n1 n x2 x3 x4 t7 (x6 + 1) i13) else none) else (fX1_readItems_111 w1 n1 i11)) else none)) else none))))
theorem kX1_readItems_17  {w1 : Nat} {n1 : Nat} {vR : Int32} {iR : Nat → Nat → Int32} (hX : aX p s m args c RX1 cX1_readItems 9 D cA A ad0) (hr : meth.sig.returnType = (some .boolean)) (hlk : meth.locks = false) (hRf : 5 ≤ R.frames) (hRl : 64 * 5 ≤ R.locals) (h1 : sh[w1]? = some (.inl (.int, n1))) : ∀ (n : Nat) (x2 : Int32) (x3 : Int32) (x4 : Int32) (x5 : Int32) (x6 : Int32) (i : Nat → Nat → Int32), aGood sh rv → fX1_readItems_17 w1 n1 n x2 x3 x4 x5 x6 i = some (vR, iR) → aJ p l e R s m args below meth c (MQ below (aPost D cA ad0 A (sh, i0, lo0, rv0) (some (.int vR)) (sh, iR, lo, rv)) args s (sh.length - sh.length) (aSn sh - aSn sh) A) D cA A ad0 9 sh.length (aSn sh) 17 [some (.ref (100 + 1)), some (.ref (100 + w1)), some (.int x2), some (.int x3), some (.int x4), some (.int x5), some (.int x6), none, none] [] (sh, i, lo, rv) := by
  intro n
  induction n with
  | zero => intros; rename_i hf; cases hf
  | succ n ih =>
    intro x2 x3 x4 x5 x6 i hG hf
    rw [fX1_readItems_17] at hf
    refine j_iload hX dX1_readItems_17 rfl ?_
    refine j_iload hX dX1_readItems_19 rfl ?_
    refine j_icmp_gt (tgt := 131) hX dX1_readItems_21 (by decide) (fun hc => ?_) (fun hc => ?_)
    · have hf := ifp hc hf
      refine j_iconst hX dX1_readItems_131 ic_0 ?_
      cases hf
      exact j_ret hX hr hlk rfl dX1_readItems_132
    · have hf := ifn hc hf
      refine j_aload_n hX dX1_readItems_24 rfl ?_
      obtain ⟨v2, i3, hh4, hf⟩ := bd2 hf
      refine j_cV0i hX lk_X1_59 kX10 dX1_readItems_25 (sh_1 hG) (okX10_ahead hG hh4) rfl rfl (rmm (by omega) hRf hRl (by decide)) (Nat.le_of_ble_eq_true rfl) (Nat.le_add_right _ _) (Nat.le_add_right _ _) ?_
      refine j_iload_n hX dX1_readItems_28 rfl ?_
      refine j_iload hX dX1_readItems_29 rfl ?_
      obtain ⟨v5, hh6, hf⟩ := bd1 hf
      refine j_cS3i hX lk_X1_80 dX1_readItems_31 (okX1_itemOf hG hh6) rfl rfl (rmm (by omega) hRf hRl (by decide)) (Nat.le_of_ble_eq_true rfl) (Nat.le_add_right _ _) (Nat.le_add_right _ _) ?_
      refine jpc (b := 34) rfl ?_
      refine j_istore hX dX1_readItems_34 (by decide) rfl ?_
      refine j_iload hX dX1_readItems_36 rfl ?_
      refine j_iconst hX dX1_readItems_38 ic_m1 ?_
      refine j_icmp_ne (tgt := 44) hX dX1_readItems_39 (by decide) (fun hc => ?_) (fun hc => ?_)
      · have hf := ifn hc hf
        refine j_iload hX dX1_readItems_44 rfl ?_
        refine j_iload hX dX1_readItems_46 rfl ?_
        refine j_ishr hX dX1_readItems_48 ?_
        refine j_iconst hX dX1_readItems_49 ic_1 ?_
        refine j_iand hX dX1_readItems_50 ?_
        refine jpc (b := 51) rfl ?_
        refine j_iconst hX dX1_readItems_51 ic_1 ?_
        refine j_icmp_ne (tgt := 57) hX dX1_readItems_52 (by decide) (fun hc => ?_) (fun hc => ?_)
        · have hf := ifn hc hf
          refine j_iload hX dX1_readItems_57 rfl ?_
          refine j_iconst hX dX1_readItems_59 ic_1 ?_
          refine j_iload hX dX1_readItems_60 rfl ?_
          refine j_ishl hX dX1_readItems_62 ?_
          refine j_ior hX dX1_readItems_63 ?_
          refine jpc (b := 64) rfl ?_
          have hf := ltd hf
          refine j_istore hX dX1_readItems_64 (by decide) rfl ?_
          refine j_aload_n hX dX1_readItems_66 rfl ?_
          obtain ⟨i8, hh9, hf⟩ := bd1 hf
          refine j_cV0v hX lk_X1_73 kX10 dX1_readItems_67 (sh_1 hG) (okX10_pass hG hh9) rfl rfl (rmm (by omega) hRf hRl (by decide)) (Nat.le_of_ble_eq_true rfl) (Nat.le_add_right _ _) (Nat.le_add_right _ _) ?_
          refine j_aload_n hX dX1_readItems_70 rfl ?_
          refine j_iconst hX dX1_readItems_71 ic_2 ?_
          obtain ⟨v10, i11, hh12, hf⟩ := bd2 hf
          refine j_cV1i hX lk_X1_84 kX10 dX1_readItems_72 (sh_1 hG) (okX10_number hG hh12) rfl rfl (rmm (by omega) hRf hRl (by decide)) (Nat.le_of_ble_eq_true rfl) (Nat.le_add_right _ _) (Nat.le_add_right _ _) ?_
          refine jpc (b := 75) rfl ?_
          refine j_istore hX dX1_readItems_75 (by decide) rfl ?_
          refine j_iload hX dX1_readItems_77 rfl ?_
          refine j_iconst hX dX1_readItems_79 ic_m1 ?_
          refine j_icmp_ne (tgt := 85) hX dX1_readItems_80 (by decide) (fun hc => ?_) (fun hc => ?_)
          · have hf := ifn hc hf
            refine j_iload hX dX1_readItems_85 rfl ?_
            refine j_gets (j := 2) hX (by decide) (by decide) fk_X1_88 dX1_readItems_87 ?_
            refine j_iload_n hX dX1_readItems_90 rfl ?_
            refine j_iload hX dX1_readItems_91 rfl ?_
            refine j_iadd hX dX1_readItems_93 ?_
            refine jpc (b := 94) rfl ?_
            obtain ⟨hg, hf⟩ := gd hf
            refine j_tald hX (by decide) (by decide) hg dX1_readItems_94 ?_
            refine j_icmp_lt (tgt := 111) hX dX1_readItems_95 (by decide) (fun hc => ?_) (fun hc => ?_)
            · have hf := ifp hc hf
              exact aJx (kX1_readItems_111 hX hr hlk hRf hRl h1 hG  hf) (And.intro rfl (rfl))
            · have hf := ifn hc hf
              refine j_iload hX dX1_readItems_98 rfl ?_
              refine j_gets (j := 1) hX (by decide) (by decide) fk_X1_91 dX1_readItems_100 ?_
              refine j_iload_n hX dX1_readItems_103 rfl ?_
              refine j_iload hX dX1_readItems_104 rfl ?_
              refine j_iadd hX dX1_readItems_106 ?_
              refine jpc (b := 107) rfl ?_
              obtain ⟨hg, hf⟩ := gd hf
              refine j_tald hX (by decide) (by decide) hg dX1_readItems_107 ?_
              refine j_icmp_le (tgt := 117) hX dX1_readItems_108 (by decide) (fun hc => ?_) (fun hc => ?_)
              · have hf := ifp hc hf
                refine j_aload_n hX dX1_readItems_117 rfl ?_
                refine j_iload_n hX dX1_readItems_118 rfl ?_
                refine j_iload hX dX1_readItems_119 rfl ?_
                refine j_iadd hX dX1_readItems_121 ?_
                refine j_iload hX dX1_readItems_122 rfl ?_
                refine jpc (b := 124) rfl ?_
                obtain ⟨hg, hf⟩ := gd hf
                have hf := ltd hf
                refine j_iast hX h1 hg dX1_readItems_124 ?_
                refine j_iinc hX dX1_readItems_125 rfl (congrArg (_ + ·) ic_1) (by decide) rfl ?_
                refine j_goto (tgt := 17) hX dX1_readItems_128 (by decide) ?_
                exact aJx (ih _ _ _ _ _ _ hG  hf) (And.intro rfl (And.intro rfl (And.intro rfl (And.intro rfl (And.intro rfl (And.intro rfl (And.intro rfl (rfl))))))))
              · have hf := ifn hc hf
                exact aJx (kX1_readItems_111 hX hr hlk hRf hRl h1 hG  hf) (And.intro rfl (rfl))
          · have hf := ifp hc hf
            refine j_iconst hX dX1_readItems_83 ic_0 ?_
            cases hf
            exact j_ret hX hr hlk rfl dX1_readItems_84
        · have hf := ifp hc hf
          refine j_iconst hX dX1_readItems_55 ic_0 ?_
          cases hf
          exact j_ret hX hr hlk rfl dX1_readItems_56
      · have hf := ifp hc hf
        refine j_iconst hX dX1_readItems_42 ic_1 ?_
        cases hf
        exact j_ret hX hr hlk rfl dX1_readItems_43
def fX1_readItems (w1 : Nat) (n1 : Nat) (a2 : Int32) (a3 : Int32) (a4 : Int32) (i : Nat → Nat → Int32) : Option ((Int32) × (Nat → Nat → Int32)) := if ¬ (a3 : Int32) < 0 ∧ ¬ (a2 : Int32) < 0 ∧ ¬ (a4 : Int32) < 0 ∧ (a3 : Int32).toNatClampNeg + (a4 : Int32).toNatClampNeg ≤ 14 ∧ (a2 : Int32).toNatClampNeg + (a4 : Int32).toNatClampNeg ≤ n1 then
    (lt (cp2 i (fun k => (aTab 3).getD k 0) (a3 : Int32).toNatClampNeg w1 (a2 : Int32).toNatClampNeg (a4 : Int32).toNatClampNeg) fun i1 => fX1_readItems_17 w1 n1 fuel a2 a3 a4 0 0 i1) else none
theorem kX1_readItems  {w1 : Nat} {n1 : Nat} {vR : Int32} {iR : Nat → Nat → Int32} (hX : aX p s m args c RX1 cX1_readItems 9 D cA A ad0) (hr : meth.sig.returnType = (some .boolean)) (hlk : meth.locks = false) (hRf : 5 ≤ R.frames) (hRl : 64 * 5 ≤ R.locals) (h1 : sh[w1]? = some (.inl (.int, n1))) {a2 : Int32} {a3 : Int32} {a4 : Int32} (hG : aGood sh rv) (hf : fX1_readItems w1 n1 a2 a3 a4 i = some (vR, iR)) : aJ p l e R s m args below meth c (MQ below (aPost D cA ad0 A (sh, i0, lo0, rv0) (some (.int vR)) (sh, iR, lo, rv)) args s (sh.length - sh.length) (aSn sh - aSn sh) A) D cA A ad0 9 sh.length (aSn sh) 0 [some (.ref (100 + 1)), some (.ref (100 + w1)), some (.int a2), some (.int a3), some (.int a4), none, none, none, none] [] (sh, i, lo, rv) := by
  unfold fX1_readItems at hf
  refine j_gets (j := 3) hX (by decide) (by decide) fk_X1_51 dX1_readItems_0 ?_
  refine j_iload_n hX dX1_readItems_3 rfl ?_
  refine j_aload_n hX dX1_readItems_4 rfl ?_
  refine j_iload_n hX dX1_readItems_5 rfl ?_
  refine j_iload hX dX1_readItems_6 rfl ?_
  refine jpc (b := 8) rfl ?_
  obtain ⟨hg, hf⟩ := gd hf
  have hf := ltd hf
  refine j_copyT (j := 3) hX (by decide) (by decide) lk_X1_45 h1 hg.1 hg.2.1 hg.2.2.1 hg.2.2.2.1 hg.2.2.2.2 (by omega) (Nat.le_trans (Nat.le_of_ble_eq_true rfl) hRl) dX1_readItems_8 ?_
  refine j_iconst hX dX1_readItems_11 ic_0 ?_
  refine j_istore hX dX1_readItems_12 (by decide) rfl ?_
  refine j_iconst hX dX1_readItems_14 ic_0 ?_
  refine j_istore hX dX1_readItems_15 (by decide) rfl ?_
  exact aJx (kX1_readItems_17 hX hr hlk hRf hRl h1 fuel _ _ _ _ _ _ hG  hf) (And.intro rfl (And.intro rfl (And.intro rfl (And.intro rfl (And.intro rfl (And.intro rfl (And.intro rfl (rfl))))))))
theorem okX1_readItems {l : Launch} {sh : List aSh} {i : Nat → Nat → Int32} {lo : Nat → Nat → Int64} {rv : Nat → Nat → Option Nat}  {w1 : Nat} {n1 : Nat} {a2 : Int32} {a3 : Int32} {a4 : Int32} {vR : Int32} {iR : Nat → Nat → Int32} (hG : aGood sh rv) (h1 : sh[w1]? = some (.inl (.int, n1))) (hf : fX1_readItems w1 n1 a2 a3 a4 i = some (vR, iR)) : aM l yX1_readItems cX1_readItems 9 (some .boolean) 5 [.ref (100 + 1), .ref (100 + w1), .int a2, .int a3, .int a4] (sh, i, lo, rv) (some (.int vR)) (sh, iR, lo, rv) :=
  aM_of (by decide) (Nat.le_of_ble_eq_true rfl) (Nat.le_refl _) (Nat.le_refl _) (fun p e s m args below meth c D cA A ad0 hX hr hlk hnm => kX1_readItems hX hr hlk (Nat.le_refl _) (Nat.le_refl _) h1 hG hf)
def fX1_readClause_76 (p0 : Nat) (x2 : Int32) (i : Nat → Nat → Int32) : Option ((Int32) × (Nat → Nat → Int32)) := if x2 = 111 then (if 4 ≤ (i p0 4) then (some (0, i)) else (bn1 (fX10_pass i) fun i12 =>
    lt (u2 i12 p0 4 ((i12 p0 4) + (1 : Int32))) fun i14 =>
    bn2 (fX1_readItems (p0 + 3) 16 (((i14 p0 4) - (1 : Int32)) * (4 : Int32)) 10 4 i14) fun v15 i16 =>
    if narrow .boolean (.int v15) = .int v15 then
    some (v15, i16) else none)) else (some (0, i))
theorem kX1_readClause_76  {p0 : Nat} {vR : Int32} {iR : Nat → Nat → Int32} (hX : aX p s m args c RX1 cX1_readClause 4 D cA A ad0) (hr : meth.sig.returnType = (some .boolean)) (hlk : meth.locks = false) (hRf : 6 ≤ R.frames) (hRl : 64 * 6 ≤ R.locals) (h0 : isCar sh rv p0) {x2 : Int32} (hG : aGood sh rv) (hf : fX1_readClause_76 p0 x2 i = some (vR, iR)) : aJ p l e R s m args below meth c (MQ below (aPost D cA ad0 A (sh, i0, lo0, rv0) (some (.int vR)) (sh, iR, lo, rv)) args s (sh.length - sh.length) (aSn sh - aSn sh) A) D cA A ad0 4 sh.length (aSn sh) 76 [some (.ref (100 + p0)), some (.ref (100 + 1)), some (.int x2), none] [] (sh, i, lo, rv) := by
  unfold fX1_readClause_76 at hf
  refine j_iload_n hX dX1_readClause_76 rfl ?_
  refine j_bipush hX dX1_readClause_77 bp_111 ?_
  refine j_icmp_ne (tgt := 124) hX dX1_readClause_79 (by decide) (fun hc => ?_) (fun hc => ?_)
  · have hf := ifn hc hf
    refine j_iconst hX dX1_readClause_124 ic_0 ?_
    cases hf
    exact j_ret hX hr hlk rfl dX1_readClause_125
  · have hf := ifp hc hf
    refine j_aload_n hX dX1_readClause_82 rfl ?_
    refine j_getI (k := 4) hX kX1 (by decide) fk_X1_25 dX1_readClause_83 h0.1 rfl ?_
    refine j_iconst hX dX1_readClause_86 ic_4 ?_
    refine j_icmp_ge (tgt := 124) hX dX1_readClause_87 (by decide) (fun hc => ?_) (fun hc => ?_)
    · have hf := ifp hc hf
      refine j_iconst hX dX1_readClause_124 ic_0 ?_
      cases hf
      exact j_ret hX hr hlk rfl dX1_readClause_125
    · have hf := ifn hc hf
      refine j_aload_n hX dX1_readClause_90 rfl ?_
      obtain ⟨i12, hh13, hf⟩ := bd1 hf
      refine j_cV0v hX lk_X1_73 kX10 dX1_readClause_91 (sh_1 hG) (okX10_pass hG hh13) rfl rfl (rmm (by omega) hRf hRl (by decide)) (Nat.le_of_ble_eq_true rfl) (Nat.le_add_right _ _) (Nat.le_add_right _ _) ?_
      refine j_aload_n hX dX1_readClause_94 rfl ?_
      refine j_dup hX dX1_readClause_95 rfl ?_
      refine j_getI (k := 4) hX kX1 (by decide) fk_X1_25 dX1_readClause_96 h0.1 rfl ?_
      refine jpc (b := 99) rfl ?_
      refine j_iconst hX dX1_readClause_99 ic_1 ?_
      refine j_iadd hX dX1_readClause_100 ?_
      have hf := ltd hf
      refine j_putI (k := 4) hX kX1 (by decide) fk_X1_25 dX1_readClause_101 h0.1 rfl rfl rfl rfl ?_
      refine j_aload_n hX dX1_readClause_104 rfl ?_
      refine j_aload_n hX dX1_readClause_105 rfl ?_
      refine j_getR (k := 2) hX kX1 (by decide) fk_X1_18 h0.2.2.2.2.2.2 dX1_readClause_106 h0.1 rfl ?_
      refine jpc (b := 109) rfl ?_
      refine j_aload_n hX dX1_readClause_109 rfl ?_
      refine j_getI (k := 4) hX kX1 (by decide) fk_X1_25 dX1_readClause_110 h0.1 rfl ?_
      refine j_iconst hX dX1_readClause_113 ic_1 ?_
      refine j_isub hX dX1_readClause_114 ?_
      refine j_iconst hX dX1_readClause_115 ic_4 ?_
      refine j_imul hX dX1_readClause_116 ?_
      refine jpc (b := 117) rfl ?_
      refine j_bipush hX dX1_readClause_117 bp_10 ?_
      refine j_iconst hX dX1_readClause_119 ic_4 ?_
      obtain ⟨v15, i16, hh17, hf⟩ := bd2 hf
      refine j_cS5i hX lk_X1_76 dX1_readClause_120 (okX1_readItems hG h0.2.2.2.1 hh17) rfl rfl (rmm (by omega) hRf hRl (by decide)) (Nat.le_of_ble_eq_true rfl) (Nat.le_add_right _ _) (Nat.le_add_right _ _) ?_
      obtain ⟨hg, hf⟩ := gd hf
      cases hf
      exact j_ret hX hr hlk hg dX1_readClause_123
def fX1_readClause_26 (p0 : Nat) (x2 : Int32) (i : Nat → Nat → Int32) : Option ((Int32) × (Nat → Nat → Int32)) := if x2 = 112 then (if 9 ≤ (i p0 3) then (fX1_readClause_76 p0 x2 i) else (bn1 (fX10_pass i) fun i6 =>
    lt (u2 i6 p0 3 ((i6 p0 3) + (1 : Int32))) fun i8 =>
    bn2 (fX1_readItems (p0 + 2) 54 (((i8 p0 3) - (1 : Int32)) * (6 : Int32)) 4 6 i8) fun v9 i10 =>
    if narrow .boolean (.int v9) = .int v9 then
    some (v9, i10) else none)) else (fX1_readClause_76 p0 x2 i)
theorem kX1_readClause_26  {p0 : Nat} {vR : Int32} {iR : Nat → Nat → Int32} (hX : aX p s m args c RX1 cX1_readClause 4 D cA A ad0) (hr : meth.sig.returnType = (some .boolean)) (hlk : meth.locks = false) (hRf : 6 ≤ R.frames) (hRl : 64 * 6 ≤ R.locals) (h0 : isCar sh rv p0) {x2 : Int32} (hG : aGood sh rv) (hf : fX1_readClause_26 p0 x2 i = some (vR, iR)) : aJ p l e R s m args below meth c (MQ below (aPost D cA ad0 A (sh, i0, lo0, rv0) (some (.int vR)) (sh, iR, lo, rv)) args s (sh.length - sh.length) (aSn sh - aSn sh) A) D cA A ad0 4 sh.length (aSn sh) 26 [some (.ref (100 + p0)), some (.ref (100 + 1)), some (.int x2), none] [] (sh, i, lo, rv) := by
  unfold fX1_readClause_26 at hf
  refine j_iload_n hX dX1_readClause_26 rfl ?_
  refine j_bipush hX dX1_readClause_27 bp_112 ?_
  refine j_icmp_ne (tgt := 76) hX dX1_readClause_29 (by decide) (fun hc => ?_) (fun hc => ?_)
  · have hf := ifn hc hf
    exact aJx (kX1_readClause_76 hX hr hlk hRf hRl h0 hG  hf) (And.intro rfl (And.intro rfl (And.intro rfl (rfl))))
  · have hf := ifp hc hf
    refine j_aload_n hX dX1_readClause_32 rfl ?_
    refine j_getI (k := 3) hX kX1 (by decide) fk_X1_21 dX1_readClause_33 h0.1 rfl ?_
    refine j_bipush hX dX1_readClause_36 bp_9 ?_
    refine j_icmp_ge (tgt := 76) hX dX1_readClause_38 (by decide) (fun hc => ?_) (fun hc => ?_)
    · have hf := ifp hc hf
      exact aJx (kX1_readClause_76 hX hr hlk hRf hRl h0 hG  hf) (And.intro rfl (And.intro rfl (And.intro rfl (rfl))))
    · have hf := ifn hc hf
      refine j_aload_n hX dX1_readClause_41 rfl ?_
      obtain ⟨i6, hh7, hf⟩ := bd1 hf
      refine j_cV0v hX lk_X1_73 kX10 dX1_readClause_42 (sh_1 hG) (okX10_pass hG hh7) rfl rfl (rmm (by omega) hRf hRl (by decide)) (Nat.le_of_ble_eq_true rfl) (Nat.le_add_right _ _) (Nat.le_add_right _ _) ?_
      refine j_aload_n hX dX1_readClause_45 rfl ?_
      refine j_dup hX dX1_readClause_46 rfl ?_
      refine j_getI (k := 3) hX kX1 (by decide) fk_X1_21 dX1_readClause_47 h0.1 rfl ?_
      refine jpc (b := 50) rfl ?_
      refine j_iconst hX dX1_readClause_50 ic_1 ?_
      refine j_iadd hX dX1_readClause_51 ?_
      have hf := ltd hf
      refine j_putI (k := 3) hX kX1 (by decide) fk_X1_21 dX1_readClause_52 h0.1 rfl rfl rfl rfl ?_
      refine j_aload_n hX dX1_readClause_55 rfl ?_
      refine j_aload_n hX dX1_readClause_56 rfl ?_
      refine j_getR (k := 1) hX kX1 (by decide) fk_X1_15 h0.2.2.2.2.2.1 dX1_readClause_57 h0.1 rfl ?_
      refine jpc (b := 60) rfl ?_
      refine j_aload_n hX dX1_readClause_60 rfl ?_
      refine j_getI (k := 3) hX kX1 (by decide) fk_X1_21 dX1_readClause_61 h0.1 rfl ?_
      refine j_iconst hX dX1_readClause_64 ic_1 ?_
      refine j_isub hX dX1_readClause_65 ?_
      refine j_bipush hX dX1_readClause_66 bp_6 ?_
      refine j_imul hX dX1_readClause_68 ?_
      refine jpc (b := 69) rfl ?_
      refine j_iconst hX dX1_readClause_69 ic_4 ?_
      refine j_bipush hX dX1_readClause_70 bp_6 ?_
      obtain ⟨v9, i10, hh11, hf⟩ := bd2 hf
      refine j_cS5i hX lk_X1_76 dX1_readClause_72 (okX1_readItems hG h0.2.2.1 hh11) rfl rfl (rmm (by omega) hRf hRl (by decide)) (Nat.le_of_ble_eq_true rfl) (Nat.le_add_right _ _) (Nat.le_add_right _ _) ?_
      obtain ⟨hg, hf⟩ := gd hf
      cases hf
      exact j_ret hX hr hlk hg dX1_readClause_75
def fX1_readClause (p0 : Nat) (a2 : Int32) (a3 : Int32) (i : Nat → Nat → Int32) : Option ((Int32) × (Nat → Nat → Int32)) := if a2 = 115 then (if a3 = 0 then (bn1 (fX10_pass i) fun i1 =>
    bn2 (fX1_readItems (p0 + 1) 4 0 0 4 i1) fun v3 i4 =>
    if narrow .boolean (.int v3) = .int v3 then
    some (v3, i4) else none) else (fX1_readClause_26 p0 a2 i)) else (fX1_readClause_26 p0 a2 i)
theorem kX1_readClause  {p0 : Nat} {vR : Int32} {iR : Nat → Nat → Int32} (hX : aX p s m args c RX1 cX1_readClause 4 D cA A ad0) (hr : meth.sig.returnType = (some .boolean)) (hlk : meth.locks = false) (hRf : 6 ≤ R.frames) (hRl : 64 * 6 ≤ R.locals) (h0 : isCar sh rv p0) {a2 : Int32} {a3 : Int32} (hG : aGood sh rv) (hf : fX1_readClause p0 a2 a3 i = some (vR, iR)) : aJ p l e R s m args below meth c (MQ below (aPost D cA ad0 A (sh, i0, lo0, rv0) (some (.int vR)) (sh, iR, lo, rv)) args s (sh.length - sh.length) (aSn sh - aSn sh) A) D cA A ad0 4 sh.length (aSn sh) 0 [some (.ref (100 + p0)), some (.ref (100 + 1)), some (.int a2), some (.int a3)] [] (sh, i, lo, rv) := by
  unfold fX1_readClause at hf
  refine j_iload_n hX dX1_readClause_0 rfl ?_
  refine j_bipush hX dX1_readClause_1 bp_115 ?_
  refine j_icmp_ne (tgt := 26) hX dX1_readClause_3 (by decide) (fun hc => ?_) (fun hc => ?_)
  · have hf := ifn hc hf
    exact aJx (kX1_readClause_26 hX hr hlk hRf hRl h0 hG  hf) (And.intro rfl (And.intro rfl (And.intro rfl (rfl))))
  · have hf := ifp hc hf
    refine j_iload_n hX dX1_readClause_6 rfl ?_
    refine j_if_ne (tgt := 26) hX dX1_readClause_7 (by decide) (fun hc => ?_) (fun hc => ?_)
    · have hf := ifn hc hf
      exact aJx (kX1_readClause_26 hX hr hlk hRf hRl h0 hG  hf) (And.intro rfl (And.intro rfl (And.intro rfl (rfl))))
    · have hf := ifp hc hf
      refine j_aload_n hX dX1_readClause_10 rfl ?_
      obtain ⟨i1, hh2, hf⟩ := bd1 hf
      refine j_cV0v hX lk_X1_73 kX10 dX1_readClause_11 (sh_1 hG) (okX10_pass hG hh2) rfl rfl (rmm (by omega) hRf hRl (by decide)) (Nat.le_of_ble_eq_true rfl) (Nat.le_add_right _ _) (Nat.le_add_right _ _) ?_
      refine j_aload_n hX dX1_readClause_14 rfl ?_
      refine j_aload_n hX dX1_readClause_15 rfl ?_
      refine j_getR (k := 0) hX kX1 (by decide) fk_X1_11 h0.2.2.2.2.1 dX1_readClause_16 h0.1 rfl ?_
      refine jpc (b := 19) rfl ?_
      refine j_iconst hX dX1_readClause_19 ic_0 ?_
      refine j_iconst hX dX1_readClause_20 ic_0 ?_
      refine j_iconst hX dX1_readClause_21 ic_4 ?_
      obtain ⟨v3, i4, hh5, hf⟩ := bd2 hf
      refine j_cS5i hX lk_X1_76 dX1_readClause_22 (okX1_readItems hG h0.2.1 hh5) rfl rfl (rmm (by omega) hRf hRl (by decide)) (Nat.le_of_ble_eq_true rfl) (Nat.le_add_right _ _) (Nat.le_add_right _ _) ?_
      obtain ⟨hg, hf⟩ := gd hf
      cases hf
      exact j_ret hX hr hlk hg dX1_readClause_25
theorem okX1_readClause {l : Launch} {sh : List aSh} {i : Nat → Nat → Int32} {lo : Nat → Nat → Int64} {rv : Nat → Nat → Option Nat}  {p0 : Nat} {a2 : Int32} {a3 : Int32} {vR : Int32} {iR : Nat → Nat → Int32} (hG : aGood sh rv) (h0 : isCar sh rv p0) (hf : fX1_readClause p0 a2 a3 i = some (vR, iR)) : aM l yX1_readClause cX1_readClause 4 (some .boolean) 6 [.ref (100 + p0), .ref (100 + 1), .int a2, .int a3] (sh, i, lo, rv) (some (.int vR)) (sh, iR, lo, rv) :=
  aM_of (by decide) (Nat.le_of_ble_eq_true rfl) (Nat.le_refl _) (Nat.le_refl _) (fun p e s m args below meth c D cA A ad0 hX hr hlk hnm => kX1_readClause hX hr hlk (Nat.le_refl _) (Nat.le_refl _) h0 hG hf)
def fX1_hasSleeper (p0 : Nat) (a1 : Int32) (i : Nat → Nat → Int32) : Option ((Int32)) := if a1 < 0 then (some (0)) else (if (i p0 3) ≤ a1 then (some (0)) else (some (1)))
theorem kX1_hasSleeper  {p0 : Nat} {vR : Int32} (hX : aX p s m args c RX1 cX1_hasSleeper 2 D cA A ad0) (hr : meth.sig.returnType = (some .boolean)) (hlk : meth.locks = false) (hRf : 0 ≤ R.frames) (hRl : 64 * 0 ≤ R.locals) (h0 : isCar sh rv p0) {a1 : Int32} (hG : aGood sh rv) (hf : fX1_hasSleeper p0 a1 i = some (vR)) : aJ p l e R s m args below meth c (MQ below (aPost D cA ad0 A (sh, i0, lo0, rv0) (some (.int vR)) (sh, i, lo, rv)) args s (sh.length - sh.length) (aSn sh - aSn sh) A) D cA A ad0 2 sh.length (aSn sh) 0 [some (.ref (100 + p0)), some (.int a1)] [] (sh, i, lo, rv) := by
  unfold fX1_hasSleeper at hf
  refine j_iload_n hX dX1_hasSleeper_0 rfl ?_
  refine j_if_lt (tgt := 16) hX dX1_hasSleeper_1 (by decide) (fun hc => ?_) (fun hc => ?_)
  · have hf := ifp hc hf
    refine j_iconst hX dX1_hasSleeper_16 ic_0 ?_
    cases hf
    exact j_ret hX hr hlk rfl dX1_hasSleeper_17
  · have hf := ifn hc hf
    refine j_iload_n hX dX1_hasSleeper_4 rfl ?_
    refine j_aload_n hX dX1_hasSleeper_5 rfl ?_
    refine j_getI (k := 3) hX kX1 (by decide) fk_X1_21 dX1_hasSleeper_6 h0.1 rfl ?_
    refine j_icmp_ge (tgt := 16) hX dX1_hasSleeper_9 (by decide) (fun hc => ?_) (fun hc => ?_)
    · have hf := ifp hc hf
      refine j_iconst hX dX1_hasSleeper_16 ic_0 ?_
      cases hf
      exact j_ret hX hr hlk rfl dX1_hasSleeper_17
    · have hf := ifn hc hf
      refine j_iconst hX dX1_hasSleeper_12 ic_1 ?_
      refine j_goto (tgt := 17) hX dX1_hasSleeper_13 (by decide) ?_
      cases hf
      exact j_ret hX hr hlk rfl dX1_hasSleeper_17
theorem okX1_hasSleeper {l : Launch} {sh : List aSh} {i : Nat → Nat → Int32} {lo : Nat → Nat → Int64} {rv : Nat → Nat → Option Nat}  {p0 : Nat} {a1 : Int32} {vR : Int32} (hG : aGood sh rv) (h0 : isCar sh rv p0) (hf : fX1_hasSleeper p0 a1 i = some (vR)) : aM l yX1_hasSleeper cX1_hasSleeper 2 (some .boolean) 0 [.ref (100 + p0), .int a1] (sh, i, lo, rv) (some (.int vR)) (sh, i, lo, rv) :=
  aM_of (by decide) (Nat.le_of_ble_eq_true rfl) (Nat.le_refl _) (Nat.le_refl _) (fun p e s m args below meth c D cA A ad0 hX hr hlk hnm => kX1_hasSleeper hX hr hlk (Nat.le_refl _) (Nat.le_refl _) h0 hG hf)
def fX1_ofSleeper (p0 : Nat) (a1 : Int32) (a2 : Int32) (i : Nat → Nat → Int32) : Option ((Int32)) := if aIn ((a1 * (6 : Int32)) + a2) 54 = true then
    (some ((i (p0 + 2) (((a1 * (6 : Int32)) + a2) : Int32).toNatClampNeg))) else none
theorem kX1_ofSleeper  {p0 : Nat} {vR : Int32} (hX : aX p s m args c RX1 cX1_ofSleeper 3 D cA A ad0) (hr : meth.sig.returnType = (some .int)) (hlk : meth.locks = false) (hRf : 0 ≤ R.frames) (hRl : 64 * 0 ≤ R.locals) (h0 : isCar sh rv p0) {a1 : Int32} {a2 : Int32} (hG : aGood sh rv) (hf : fX1_ofSleeper p0 a1 a2 i = some (vR)) : aJ p l e R s m args below meth c (MQ below (aPost D cA ad0 A (sh, i0, lo0, rv0) (some (.int vR)) (sh, i, lo, rv)) args s (sh.length - sh.length) (aSn sh - aSn sh) A) D cA A ad0 3 sh.length (aSn sh) 0 [some (.ref (100 + p0)), some (.int a1), some (.int a2)] [] (sh, i, lo, rv) := by
  unfold fX1_ofSleeper at hf
  refine j_aload_n hX dX1_ofSleeper_0 rfl ?_
  refine j_getR (k := 1) hX kX1 (by decide) fk_X1_15 h0.2.2.2.2.2.1 dX1_ofSleeper_1 h0.1 rfl ?_
  refine j_iload_n hX dX1_ofSleeper_4 rfl ?_
  refine j_bipush hX dX1_ofSleeper_5 bp_6 ?_
  refine j_imul hX dX1_ofSleeper_7 ?_
  refine jpc (b := 8) rfl ?_
  refine j_iload_n hX dX1_ofSleeper_8 rfl ?_
  refine j_iadd hX dX1_ofSleeper_9 ?_
  obtain ⟨hg, hf⟩ := gd hf
  refine j_iald hX h0.2.2.1 hg dX1_ofSleeper_10 ?_
  cases hf
  exact j_ret hX hr hlk rfl dX1_ofSleeper_11
theorem okX1_ofSleeper {l : Launch} {sh : List aSh} {i : Nat → Nat → Int32} {lo : Nat → Nat → Int64} {rv : Nat → Nat → Option Nat}  {p0 : Nat} {a1 : Int32} {a2 : Int32} {vR : Int32} (hG : aGood sh rv) (h0 : isCar sh rv p0) (hf : fX1_ofSleeper p0 a1 a2 i = some (vR)) : aM l yX1_ofSleeper cX1_ofSleeper 3 (some .int) 0 [.ref (100 + p0), .int a1, .int a2] (sh, i, lo, rv) (some (.int vR)) (sh, i, lo, rv) :=
  aM_of (by decide) (Nat.le_of_ble_eq_true rfl) (Nat.le_refl _) (Nat.le_refl _) (fun p e s m args below meth c D cA A ad0 hX hr hlk hnm => kX1_ofSleeper hX hr hlk (Nat.le_refl _) (Nat.le_refl _) h0 hG hf)
def fX1_hasPaper (p0 : Nat) (a1 : Int32) (i : Nat → Nat → Int32) : Option ((Int32)) := bn1 (fX1_hasSleeper p0 a1 i) fun v1 =>
    if v1 = 0 then (some (0)) else (bn1 (fX1_ofSleeper p0 a1 5 i) fun v3 =>
    if v3 = 0 then (some (1)) else (some (0)))
theorem kX1_hasPaper  {p0 : Nat} {vR : Int32} (hX : aX p s m args c RX1 cX1_hasPaper 2 D cA A ad0) (hr : meth.sig.returnType = (some .boolean)) (hlk : meth.locks = false) (hRf : 1 ≤ R.frames) (hRl : 64 * 1 ≤ R.locals) (h0 : isCar sh rv p0) {a1 : Int32} (hG : aGood sh rv) (hf : fX1_hasPaper p0 a1 i = some (vR)) : aJ p l e R s m args below meth c (MQ below (aPost D cA ad0 A (sh, i0, lo0, rv0) (some (.int vR)) (sh, i, lo, rv)) args s (sh.length - sh.length) (aSn sh - aSn sh) A) D cA A ad0 2 sh.length (aSn sh) 0 [some (.ref (100 + p0)), some (.int a1)] [] (sh, i, lo, rv) := by
  unfold fX1_hasPaper at hf
  refine j_aload_n hX dX1_hasPaper_0 rfl ?_
  refine j_iload_n hX dX1_hasPaper_1 rfl ?_
  obtain ⟨v1, hh2, hf⟩ := bd1 hf
  refine j_cV1i hX lk_X1_31 kX1 dX1_hasPaper_2 h0.1 (okX1_hasSleeper hG h0 hh2) rfl rfl (rmm (by omega) hRf hRl (by decide)) (Nat.le_of_ble_eq_true rfl) (Nat.le_add_right _ _) (Nat.le_add_right _ _) ?_
  refine j_if_eq (tgt := 21) hX dX1_hasPaper_5 (by decide) (fun hc => ?_) (fun hc => ?_)
  · have hf := ifp hc hf
    refine j_iconst hX dX1_hasPaper_21 ic_0 ?_
    cases hf
    exact j_ret hX hr hlk rfl dX1_hasPaper_22
  · have hf := ifn hc hf
    refine j_aload_n hX dX1_hasPaper_8 rfl ?_
    refine j_iload_n hX dX1_hasPaper_9 rfl ?_
    refine j_iconst hX dX1_hasPaper_10 ic_5 ?_
    obtain ⟨v3, hh4, hf⟩ := bd1 hf
    refine j_cV2i hX lk_X1_35 kX1 dX1_hasPaper_11 h0.1 (okX1_ofSleeper hG h0 hh4) rfl rfl (rmm (by omega) hRf hRl (by decide)) (Nat.le_of_ble_eq_true rfl) (Nat.le_add_right _ _) (Nat.le_add_right _ _) ?_
    refine j_if_ne (tgt := 21) hX dX1_hasPaper_14 (by decide) (fun hc => ?_) (fun hc => ?_)
    · have hf := ifn hc hf
      refine j_iconst hX dX1_hasPaper_21 ic_0 ?_
      cases hf
      exact j_ret hX hr hlk rfl dX1_hasPaper_22
    · have hf := ifp hc hf
      refine j_iconst hX dX1_hasPaper_17 ic_1 ?_
      refine j_goto (tgt := 22) hX dX1_hasPaper_18 (by decide) ?_
      cases hf
      exact j_ret hX hr hlk rfl dX1_hasPaper_22
theorem okX1_hasPaper {l : Launch} {sh : List aSh} {i : Nat → Nat → Int32} {lo : Nat → Nat → Int64} {rv : Nat → Nat → Option Nat}  {p0 : Nat} {a1 : Int32} {vR : Int32} (hG : aGood sh rv) (h0 : isCar sh rv p0) (hf : fX1_hasPaper p0 a1 i = some (vR)) : aM l yX1_hasPaper cX1_hasPaper 2 (some .boolean) 1 [.ref (100 + p0), .int a1] (sh, i, lo, rv) (some (.int vR)) (sh, i, lo, rv) :=
  aM_of (by decide) (Nat.le_of_ble_eq_true rfl) (Nat.le_refl _) (Nat.le_refl _) (fun p e s m args below meth c D cA A ad0 hX hr hlk hnm => kX1_hasPaper hX hr hlk (Nat.le_refl _) (Nat.le_refl _) h0 hG hf)
def fX1_countPapers_23 (p0 : Nat) (kh4 : Int32 → Int32 → (Nat → Nat → Int32) → Option ((Int32))) (x1 : Int32) (x2 : Int32) (i : Nat → Nat → Int32) : Option ((Int32)) := kh4 x1 (x2 + 1) i
theorem kX1_countPapers_23  {p0 : Nat} {vR : Int32} (hX : aX p s m args c RX1 cX1_countPapers 3 D cA A ad0) (hr : meth.sig.returnType = (some .int)) (hlk : meth.locks = false) (hRf : 2 ≤ R.frames) (hRl : 64 * 2 ≤ R.locals) (h0 : isCar sh rv p0) {kh4 : Int32 → Int32 → (Nat → Nat → Int32) → Option ((Int32))} (Hkh4 : ∀ (x1 : Int32) (x2 : Int32), aGood sh rv → kh4 x1 x2 i = some (vR) → aJ p l e R s m args below meth c (MQ below (aPost D cA ad0 A (sh, i0, lo0, rv0) (some (.int vR)) (sh, i, lo, rv)) args s (sh.length - sh.length) (aSn sh - aSn sh) A) D cA A ad0 3 sh.length (aSn sh) 4 [some (.ref (100 + p0)), some (.int x1), some (.int x2)] [] (sh, i, lo, rv)) {x1 : Int32} {x2 : Int32} (hG : aGood sh rv) (hf : fX1_countPapers_23 p0 kh4 x1 x2 i = some (vR)) : aJ p l e R s m args below meth c (MQ below (aPost D cA ad0 A (sh, i0, lo0, rv0) (some (.int vR)) (sh, i, lo, rv)) args s (sh.length - sh.length) (aSn sh - aSn sh) A) D cA A ad0 3 sh.length (aSn sh) 23 [some (.ref (100 + p0)), some (.int x1), some (.int x2)] [] (sh, i, lo, rv) := by
  unfold fX1_countPapers_23 at hf
  refine j_iinc hX dX1_countPapers_23 rfl (congrArg (_ + ·) ic_1) (by decide) rfl ?_
  refine j_goto (tgt := 4) hX dX1_countPapers_26 (by decide) ?_
  exact aJx (Hkh4 _ _ hG  hf) (And.intro rfl (And.intro rfl (And.intro rfl (rfl))))
def fX1_countPapers_4 (p0 : Nat) : Nat → Int32 → Int32 → (Nat → Nat → Int32) → Option ((Int32))
  | 0, _, _, _ => none
  | n + 1, x1, x2, i => if (i p0 3) ≤ x2 then (some (x1)) else (bn1 (fX1_hasPaper p0 x2 i) fun v1 =>
    if v1 = 0 then (fX1_countPapers_23 p0 (fX1_countPapers_4 p0 n) x1 x2 i) else (fX1_countPapers_23 p0 (fX1_countPapers_4 p0 n) (x1 + 1) x2 i))
theorem kX1_countPapers_4  {p0 : Nat} {vR : Int32} (hX : aX p s m args c RX1 cX1_countPapers 3 D cA A ad0) (hr : meth.sig.returnType = (some .int)) (hlk : meth.locks = false) (hRf : 2 ≤ R.frames) (hRl : 64 * 2 ≤ R.locals) (h0 : isCar sh rv p0) : ∀ (n : Nat) (x1 : Int32) (x2 : Int32), aGood sh rv → fX1_countPapers_4 p0 n x1 x2 i = some (vR) → aJ p l e R s m args below meth c (MQ below (aPost D cA ad0 A (sh, i0, lo0, rv0) (some (.int vR)) (sh, i, lo, rv)) args s (sh.length - sh.length) (aSn sh - aSn sh) A) D cA A ad0 3 sh.length (aSn sh) 4 [some (.ref (100 + p0)), some (.int x1), some (.int x2)] [] (sh, i, lo, rv) := by
  intro n
  induction n with
  | zero => intros; rename_i hf; cases hf
  | succ n ih =>
    intro x1 x2 hG hf
    rw [fX1_countPapers_4] at hf
    refine j_iload_n hX dX1_countPapers_4 rfl ?_
    refine j_aload_n hX dX1_countPapers_5 rfl ?_
    refine j_getI (k := 3) hX kX1 (by decide) fk_X1_21 dX1_countPapers_6 h0.1 rfl ?_
    refine j_icmp_ge (tgt := 29) hX dX1_countPapers_9 (by decide) (fun hc => ?_) (fun hc => ?_)
    · have hf := ifp hc hf
      refine j_iload_n hX dX1_countPapers_29 rfl ?_
      cases hf
      exact j_ret hX hr hlk rfl dX1_countPapers_30
    · have hf := ifn hc hf
      refine j_aload_n hX dX1_countPapers_12 rfl ?_
      refine j_iload_n hX dX1_countPapers_13 rfl ?_
      obtain ⟨v1, hh2, hf⟩ := bd1 hf
      refine j_cV1i hX lk_X1_39 kX1 dX1_countPapers_14 h0.1 (okX1_hasPaper hG h0 hh2) rfl rfl (rmm (by omega) hRf hRl (by decide)) (Nat.le_of_ble_eq_true rfl) (Nat.le_add_right _ _) (Nat.le_add_right _ _) ?_
      refine j_if_eq (tgt := 23) hX dX1_countPapers_17 (by decide) (fun hc => ?_) (fun hc => ?_)
      · have hf := ifp hc hf
        exact aJx (kX1_countPapers_23 hX hr hlk hRf hRl h0 ih hG  hf) (And.intro rfl (And.intro rfl (And.intro rfl (rfl))))
      · have hf := ifn hc hf
        refine j_iinc hX dX1_countPapers_20 rfl (congrArg (_ + ·) ic_1) (by decide) rfl ?_
        exact aJx (kX1_countPapers_23 hX hr hlk hRf hRl h0 ih hG  hf) (And.intro rfl (And.intro rfl (And.intro rfl (rfl))))
def fX1_countPapers (p0 : Nat) (i : Nat → Nat → Int32) : Option ((Int32)) := fX1_countPapers_4 p0 fuel 0 0 i
theorem kX1_countPapers  {p0 : Nat} {vR : Int32} (hX : aX p s m args c RX1 cX1_countPapers 3 D cA A ad0) (hr : meth.sig.returnType = (some .int)) (hlk : meth.locks = false) (hRf : 2 ≤ R.frames) (hRl : 64 * 2 ≤ R.locals) (h0 : isCar sh rv p0) (hG : aGood sh rv) (hf : fX1_countPapers p0 i = some (vR)) : aJ p l e R s m args below meth c (MQ below (aPost D cA ad0 A (sh, i0, lo0, rv0) (some (.int vR)) (sh, i, lo, rv)) args s (sh.length - sh.length) (aSn sh - aSn sh) A) D cA A ad0 3 sh.length (aSn sh) 0 [some (.ref (100 + p0)), none, none] [] (sh, i, lo, rv) := by
  unfold fX1_countPapers at hf
  refine j_iconst hX dX1_countPapers_0 ic_0 ?_
  refine j_istore_n hX dX1_countPapers_1 (by decide) rfl ?_
  refine j_iconst hX dX1_countPapers_2 ic_0 ?_
  refine j_istore_n hX dX1_countPapers_3 (by decide) rfl ?_
  exact aJx (kX1_countPapers_4 hX hr hlk hRf hRl h0 fuel _ _ hG  hf) (And.intro rfl (And.intro rfl (And.intro rfl (rfl))))
theorem okX1_countPapers {l : Launch} {sh : List aSh} {i : Nat → Nat → Int32} {lo : Nat → Nat → Int64} {rv : Nat → Nat → Option Nat}  {p0 : Nat} {vR : Int32} (hG : aGood sh rv) (h0 : isCar sh rv p0) (hf : fX1_countPapers p0 i = some (vR)) : aM l yX1_countPapers cX1_countPapers 3 (some .int) 2 [.ref (100 + p0)] (sh, i, lo, rv) (some (.int vR)) (sh, i, lo, rv) :=
  aM_of (by decide) (Nat.le_of_ble_eq_true rfl) (Nat.le_refl _) (Nat.le_refl _) (fun p e s m args below meth c D cA A ad0 hX hr hlk hnm => kX1_countPapers hX hr hlk (Nat.le_refl _) (Nat.le_refl _) h0 hG hf)
def fX10_takes (a1 : Int32) (i : Nat → Nat → Int32) : Option ((Int32) × (Nat → Nat → Int32)) := bn2 (fX10_ahead i) fun v1 i2 =>
    if v1 = a1 then (bn1 (fX10_pass i2) fun i4 =>
    some (1, i4)) else (some (0, i2))
theorem kX10_takes  {vR : Int32} {iR : Nat → Nat → Int32} (hX : aX p s m args c RX10 cX10_takes 2 D cA A ad0) (hr : meth.sig.returnType = (some .boolean)) (hlk : meth.locks = false) (hRf : 1 ≤ R.frames) (hRl : 64 * 1 ≤ R.locals) {a1 : Int32} (hG : aGood sh rv) (hf : fX10_takes a1 i = some (vR, iR)) : aJ p l e R s m args below meth c (MQ below (aPost D cA ad0 A (sh, i0, lo0, rv0) (some (.int vR)) (sh, iR, lo, rv)) args s (sh.length - sh.length) (aSn sh - aSn sh) A) D cA A ad0 2 sh.length (aSn sh) 0 [some (.ref (100 + 1)), some (.int a1)] [] (sh, i, lo, rv) := by
  unfold fX10_takes at hf
  refine j_aload_n hX dX10_takes_0 rfl ?_
  obtain ⟨v1, i2, hh3, hf⟩ := bd2 hf
  refine j_cV0i hX lk_X10_22 kX10 dX10_takes_1 (sh_1 hG) (okX10_ahead hG hh3) rfl rfl (rmm (by omega) hRf hRl (by decide)) (Nat.le_of_ble_eq_true rfl) (Nat.le_add_right _ _) (Nat.le_add_right _ _) ?_
  refine j_iload_n hX dX10_takes_4 rfl ?_
  refine j_icmp_eq (tgt := 10) hX dX10_takes_5 (by decide) (fun hc => ?_) (fun hc => ?_)
  · have hf := ifp hc hf
    refine j_aload_n hX dX10_takes_10 rfl ?_
    obtain ⟨i4, hh5, hf⟩ := bd1 hf
    refine j_cV0v hX lk_X10_26 kX10 dX10_takes_11 (sh_1 hG) (okX10_pass hG hh5) rfl rfl (rmm (by omega) hRf hRl (by decide)) (Nat.le_of_ble_eq_true rfl) (Nat.le_add_right _ _) (Nat.le_add_right _ _) ?_
    refine j_iconst hX dX10_takes_14 ic_1 ?_
    cases hf
    exact j_ret hX hr hlk rfl dX10_takes_15
  · have hf := ifn hc hf
    refine j_iconst hX dX10_takes_8 ic_0 ?_
    cases hf
    exact j_ret hX hr hlk rfl dX10_takes_9
theorem okX10_takes {l : Launch} {sh : List aSh} {i : Nat → Nat → Int32} {lo : Nat → Nat → Int64} {rv : Nat → Nat → Option Nat}  {a1 : Int32} {vR : Int32} {iR : Nat → Nat → Int32} (hG : aGood sh rv) (hf : fX10_takes a1 i = some (vR, iR)) : aM l yX10_takes cX10_takes 2 (some .boolean) 1 [.ref (100 + 1), .int a1] (sh, i, lo, rv) (some (.int vR)) (sh, iR, lo, rv) :=
  aM_of (by decide) (Nat.le_of_ble_eq_true rfl) (Nat.le_refl _) (Nat.le_refl _) (fun p e s m args below meth c D cA A ad0 hX hr hlk hnm => kX10_takes hX hr hlk (Nat.le_refl _) (Nat.le_refl _) hG hf)
def fX1_read_73 (p0 : Nat) (kh31 : Int32 → Int32 → (Nat → Nat → Int32) → Option ((Int32) × (Nat → Nat → Int32))) (x3 : Int32) (s0 : Int32) (i : Nat → Nat → Int32) : Option ((Int32) × (Nat → Nat → Int32)) := bn2 (fX10_ahead i) fun v12 i13 =>
    if v12 = (-1) then (bn1 (fX1_countPapers p0 i13) fun v18 =>
    lt (u2 i13 p0 5 v18) fun i20 =>
    if (i20 p0 5) ≤ 0 then (some (0, i20)) else (if (i20 p0 4) ≤ 0 then (some (0, i20)) else (some (1, i20)))) else (bn2 (fX10_takes 59 i13) fun v15 i16 =>
    if v15 = 0 then (some (0, i16)) else (kh31 s0 (x3 + 1) i16))
theorem kX1_read_73  {p0 : Nat} {vR : Int32} {iR : Nat → Nat → Int32} (hX : aX p s m args c RX1 cX1_read 5 D cA A ad0) (hr : meth.sig.returnType = (some .boolean)) (hlk : meth.locks = false) (hRf : 7 ≤ R.frames) (hRl : 64 * 7 ≤ R.locals) (h0 : isCar sh rv p0) {kh31 : Int32 → Int32 → (Nat → Nat → Int32) → Option ((Int32) × (Nat → Nat → Int32))} (Hkh31 : ∀ (x2 : Int32) (x3 : Int32) (i : Nat → Nat → Int32), aGood sh rv → kh31 x2 x3 i = some (vR, iR) → aJ p l e R s m args below meth c (MQ below (aPost D cA ad0 A (sh, i0, lo0, rv0) (some (.int vR)) (sh, iR, lo, rv)) args s (sh.length - sh.length) (aSn sh - aSn sh) A) D cA A ad0 5 sh.length (aSn sh) 31 [some (.ref (100 + p0)), some (.ref (100 + 1)), some (.int x2), some (.int x3), none] [] (sh, i, lo, rv)) {x3 : Int32} {s0 : Int32} (hG : aGood sh rv) (hf : fX1_read_73 p0 kh31 x3 s0 i = some (vR, iR)) : aJ p l e R s m args below meth c (MQ below (aPost D cA ad0 A (sh, i0, lo0, rv0) (some (.int vR)) (sh, iR, lo, rv)) args s (sh.length - sh.length) (aSn sh - aSn sh) A) D cA A ad0 5 sh.length (aSn sh) 73 [some (.ref (100 + p0)), some (.ref (100 + 1)), none, some (.int x3), none] [.int s0] (sh, i, lo, rv) := by
  unfold fX1_read_73 at hf
  refine j_istore_n hX dX1_read_73 (by decide) rfl ?_
  refine j_aload_n hX dX1_read_74 rfl ?_
  obtain ⟨v12, i13, hh14, hf⟩ := bd2 hf
  refine j_cV0i hX lk_X1_59 kX10 dX1_read_75 (sh_1 hG) (okX10_ahead hG hh14) rfl rfl (rmm (by omega) hRf hRl (by decide)) (Nat.le_of_ble_eq_true rfl) (Nat.le_add_right _ _) (Nat.le_add_right _ _) ?_
  refine j_iconst hX dX1_read_78 ic_m1 ?_
  refine j_icmp_ne (tgt := 110) hX dX1_read_79 (by decide) (fun hc => ?_) (fun hc => ?_)
  · have hf := ifn hc hf
    refine j_aload_n hX dX1_read_110 rfl ?_
    refine j_bipush hX dX1_read_111 bp_59 ?_
    obtain ⟨v15, i16, hh17, hf⟩ := bd2 hf
    refine j_cV1i hX lk_X1_70 kX10 dX1_read_113 (sh_1 hG) (okX10_takes hG hh17) rfl rfl (rmm (by omega) hRf hRl (by decide)) (Nat.le_of_ble_eq_true rfl) (Nat.le_add_right _ _) (Nat.le_add_right _ _) ?_
    refine j_if_ne (tgt := 121) hX dX1_read_116 (by decide) (fun hc => ?_) (fun hc => ?_)
    · have hf := ifn hc hf
      refine j_iinc hX dX1_read_121 rfl (congrArg (_ + ·) ic_1) (by decide) rfl ?_
      refine j_goto (tgt := 31) hX dX1_read_124 (by decide) ?_
      exact aJx (Hkh31 _ _ _ hG  hf) (And.intro rfl (And.intro rfl (And.intro rfl (And.intro rfl (rfl)))))
    · have hf := ifp hc hf
      refine j_iconst hX dX1_read_119 ic_0 ?_
      cases hf
      exact j_ret hX hr hlk rfl dX1_read_120
  · have hf := ifp hc hf
    refine j_aload_n hX dX1_read_82 rfl ?_
    refine j_aload_n hX dX1_read_83 rfl ?_
    obtain ⟨v18, hh19, hf⟩ := bd1 hf
    refine j_cV0i hX lk_X1_67 kX1 dX1_read_84 h0.1 (okX1_countPapers hG h0 hh19) rfl rfl (rmm (by omega) hRf hRl (by decide)) (Nat.le_of_ble_eq_true rfl) (Nat.le_add_right _ _) (Nat.le_add_right _ _) ?_
    have hf := ltd hf
    refine j_putI (k := 5) hX kX1 (by decide) fk_X1_28 dX1_read_87 h0.1 rfl rfl rfl rfl ?_
    refine j_aload_n hX dX1_read_90 rfl ?_
    refine jpc (b := 91) rfl ?_
    refine j_getI (k := 5) hX kX1 (by decide) fk_X1_28 dX1_read_91 h0.1 rfl ?_
    refine j_if_le (tgt := 108) hX dX1_read_94 (by decide) (fun hc => ?_) (fun hc => ?_)
    · have hf := ifp hc hf
      refine j_iconst hX dX1_read_108 ic_0 ?_
      cases hf
      exact j_ret hX hr hlk rfl dX1_read_109
    · have hf := ifn hc hf
      refine j_aload_n hX dX1_read_97 rfl ?_
      refine j_getI (k := 4) hX kX1 (by decide) fk_X1_25 dX1_read_98 h0.1 rfl ?_
      refine j_if_le (tgt := 108) hX dX1_read_101 (by decide) (fun hc => ?_) (fun hc => ?_)
      · have hf := ifp hc hf
        refine j_iconst hX dX1_read_108 ic_0 ?_
        cases hf
        exact j_ret hX hr hlk rfl dX1_read_109
      · have hf := ifn hc hf
        refine j_iconst hX dX1_read_104 ic_1 ?_
        refine j_goto (tgt := 109) hX dX1_read_105 (by decide) ?_
        cases hf
        exact j_ret hX hr hlk rfl dX1_read_109
def fX1_read_68 (p0 : Nat) (kh31 : Int32 → Int32 → (Nat → Nat → Int32) → Option ((Int32) × (Nat → Nat → Int32))) (x3 : Int32) (i : Nat → Nat → Int32) : Option ((Int32) × (Nat → Nat → Int32)) := fX1_read_73 p0 kh31 x3 1 i
theorem kX1_read_68  {p0 : Nat} {vR : Int32} {iR : Nat → Nat → Int32} (hX : aX p s m args c RX1 cX1_read 5 D cA A ad0) (hr : meth.sig.returnType = (some .boolean)) (hlk : meth.locks = false) (hRf : 7 ≤ R.frames) (hRl : 64 * 7 ≤ R.locals) (h0 : isCar sh rv p0) {kh31 : Int32 → Int32 → (Nat → Nat → Int32) → Option ((Int32) × (Nat → Nat → Int32))} (Hkh31 : ∀ (x2 : Int32) (x3 : Int32) (i : Nat → Nat → Int32), aGood sh rv → kh31 x2 x3 i = some (vR, iR) → aJ p l e R s m args below meth c (MQ below (aPost D cA ad0 A (sh, i0, lo0, rv0) (some (.int vR)) (sh, iR, lo, rv)) args s (sh.length - sh.length) (aSn sh - aSn sh) A) D cA A ad0 5 sh.length (aSn sh) 31 [some (.ref (100 + p0)), some (.ref (100 + 1)), some (.int x2), some (.int x3), none] [] (sh, i, lo, rv)) {x3 : Int32} (hG : aGood sh rv) (hf : fX1_read_68 p0 kh31 x3 i = some (vR, iR)) : aJ p l e R s m args below meth c (MQ below (aPost D cA ad0 A (sh, i0, lo0, rv0) (some (.int vR)) (sh, iR, lo, rv)) args s (sh.length - sh.length) (aSn sh - aSn sh) A) D cA A ad0 5 sh.length (aSn sh) 68 [some (.ref (100 + p0)), some (.ref (100 + 1)), none, some (.int x3), none] [] (sh, i, lo, rv) := by
  unfold fX1_read_68 at hf
  refine j_iconst hX dX1_read_68 ic_1 ?_
  refine j_goto (tgt := 73) hX dX1_read_69 (by decide) ?_
  exact aJx (kX1_read_73 hX hr hlk hRf hRl h0 Hkh31 hG  hf) (And.intro rfl (And.intro rfl (And.intro rfl (rfl))))
def fX1_read_31 (p0 : Nat) : Nat → Int32 → Int32 → (Nat → Nat → Int32) → Option ((Int32) × (Nat → Nat → Int32))
  | 0, _, _, _ => none
  | n + 1, x2, x3, i => if 240 < x3 then (some (0, i)) else (bn2 (fX10_ahead i) fun v6 i7 =>
    bn2 (fX1_readClause p0 v6 x2 i7) fun v9 i10 =>
    if v9 = 0 then (some (0, i10)) else (if x2 = 0 then (if v6 = 115 then (fX1_read_68 p0 (fX1_read_31 p0 n) x3 i10) else (fX1_read_73 p0 (fX1_read_31 p0 n) x3 0 i10)) else (fX1_read_68 p0 (fX1_read_31 p0 n) x3 i10)))
theorem kX1_read_31  {p0 : Nat} {vR : Int32} {iR : Nat → Nat → Int32} (hX : aX p s m args c RX1 cX1_read 5 D cA A ad0) (hr : meth.sig.returnType = (some .boolean)) (hlk : meth.locks = false) (hRf : 7 ≤ R.frames) (hRl : 64 * 7 ≤ R.locals) (h0 : isCar sh rv p0) : ∀ (n : Nat) (x2 : Int32) (x3 : Int32) (i : Nat → Nat → Int32), aGood sh rv → fX1_read_31 p0 n x2 x3 i = some (vR, iR) → aJ p l e R s m args below meth c (MQ below (aPost D cA ad0 A (sh, i0, lo0, rv0) (some (.int vR)) (sh, iR, lo, rv)) args s (sh.length - sh.length) (aSn sh - aSn sh) A) D cA A ad0 5 sh.length (aSn sh) 31 [some (.ref (100 + p0)), some (.ref (100 + 1)), some (.int x2), some (.int x3), none] [] (sh, i, lo, rv) := by
  intro n
  induction n with
  | zero => intros; rename_i hf; cases hf
  | succ n ih =>
    intro x2 x3 i hG hf
    rw [fX1_read_31] at hf
    refine j_iload_n hX dX1_read_31 rfl ?_
    refine j_sipush hX dX1_read_32 sp_240 ?_
    refine j_icmp_gt (tgt := 127) hX dX1_read_35 (by decide) (fun hc => ?_) (fun hc => ?_)
    · have hf := ifp hc hf
      refine j_iconst hX dX1_read_127 ic_0 ?_
      cases hf
      exact j_ret hX hr hlk rfl dX1_read_128
    · have hf := ifn hc hf
      refine j_aload_n hX dX1_read_38 rfl ?_
      obtain ⟨v6, i7, hh8, hf⟩ := bd2 hf
      refine j_cV0i hX lk_X1_59 kX10 dX1_read_39 (sh_1 hG) (okX10_ahead hG hh8) rfl rfl (rmm (by omega) hRf hRl (by decide)) (Nat.le_of_ble_eq_true rfl) (Nat.le_add_right _ _) (Nat.le_add_right _ _) ?_
      refine j_istore hX dX1_read_42 (by decide) rfl ?_
      refine j_aload_n hX dX1_read_44 rfl ?_
      refine j_aload_n hX dX1_read_45 rfl ?_
      refine jpc (b := 46) rfl ?_
      refine j_iload hX dX1_read_46 rfl ?_
      refine j_iload_n hX dX1_read_48 rfl ?_
      obtain ⟨v9, i10, hh11, hf⟩ := bd2 hf
      refine j_cV3i hX lk_X1_63 kX1 dX1_read_49 h0.1 (okX1_readClause hG h0 hh11) rfl rfl (rmm (by omega) hRf hRl (by decide)) (Nat.le_of_ble_eq_true rfl) (Nat.le_add_right _ _) (Nat.le_add_right _ _) ?_
      refine j_if_ne (tgt := 57) hX dX1_read_52 (by decide) (fun hc => ?_) (fun hc => ?_)
      · have hf := ifn hc hf
        refine j_iload_n hX dX1_read_57 rfl ?_
        refine j_if_ne (tgt := 68) hX dX1_read_58 (by decide) (fun hc => ?_) (fun hc => ?_)
        · have hf := ifn hc hf
          exact aJx (kX1_read_68 hX hr hlk hRf hRl h0 ih hG  hf) (And.intro rfl (And.intro rfl (And.intro rfl (rfl))))
        · have hf := ifp hc hf
          refine j_iload hX dX1_read_61 rfl ?_
          refine j_bipush hX dX1_read_63 bp_115 ?_
          refine j_icmp_ne (tgt := 72) hX dX1_read_65 (by decide) (fun hc => ?_) (fun hc => ?_)
          · have hf := ifn hc hf
            refine j_iconst hX dX1_read_72 ic_0 ?_
            exact aJx (kX1_read_73 hX hr hlk hRf hRl h0 ih hG  hf) (And.intro rfl (And.intro rfl (And.intro rfl (rfl))))
          · have hf := ifp hc hf
            exact aJx (kX1_read_68 hX hr hlk hRf hRl h0 ih hG  hf) (And.intro rfl (And.intro rfl (And.intro rfl (rfl))))
      · have hf := ifp hc hf
        refine j_iconst hX dX1_read_55 ic_0 ?_
        cases hf
        exact j_ret hX hr hlk rfl dX1_read_56
def fX1_read (p0 : Nat) (i : Nat → Nat → Int32) : Option ((Int32) × (Nat → Nat → Int32)) := if ¬ (0 : Int32) < 0 ∧ ¬ (0 : Int32) < 0 ∧ ¬ (4 : Int32) < 0 ∧ (0 : Int32).toNatClampNeg + (4 : Int32).toNatClampNeg ≤ 14 ∧ (0 : Int32).toNatClampNeg + (4 : Int32).toNatClampNeg ≤ 4 then
    (lt (cp2 i (fun k => (aTab 3).getD k 0) (0 : Int32).toNatClampNeg (p0 + 1) (0 : Int32).toNatClampNeg (4 : Int32).toNatClampNeg) fun i1 => lt (u2 i1 p0 3 0) fun i2 =>
    lt (u2 i2 p0 4 0) fun i3 =>
    bn1 (fX10_rewind i3) fun i4 =>
    fX1_read_31 p0 fuel 0 0 i4) else none
theorem kX1_read  {p0 : Nat} {vR : Int32} {iR : Nat → Nat → Int32} (hX : aX p s m args c RX1 cX1_read 5 D cA A ad0) (hr : meth.sig.returnType = (some .boolean)) (hlk : meth.locks = false) (hRf : 7 ≤ R.frames) (hRl : 64 * 7 ≤ R.locals) (h0 : isCar sh rv p0) (hG : aGood sh rv) (hf : fX1_read p0 i = some (vR, iR)) : aJ p l e R s m args below meth c (MQ below (aPost D cA ad0 A (sh, i0, lo0, rv0) (some (.int vR)) (sh, iR, lo, rv)) args s (sh.length - sh.length) (aSn sh - aSn sh) A) D cA A ad0 5 sh.length (aSn sh) 0 [some (.ref (100 + p0)), some (.ref (100 + 1)), none, none, none] [] (sh, i, lo, rv) := by
  unfold fX1_read at hf
  refine j_gets (j := 3) hX (by decide) (by decide) fk_X1_51 dX1_read_0 ?_
  refine j_iconst hX dX1_read_3 ic_0 ?_
  refine j_aload_n hX dX1_read_4 rfl ?_
  refine j_getR (k := 0) hX kX1 (by decide) fk_X1_11 h0.2.2.2.2.1 dX1_read_5 h0.1 rfl ?_
  refine j_iconst hX dX1_read_8 ic_0 ?_
  refine jpc (b := 9) rfl ?_
  refine j_iconst hX dX1_read_9 ic_4 ?_
  obtain ⟨hg, hf⟩ := gd hf
  have hf := ltd hf
  refine j_copyT (j := 3) hX (by decide) (by decide) lk_X1_45 h0.2.1 hg.1 hg.2.1 hg.2.2.1 hg.2.2.2.1 hg.2.2.2.2 (by omega) (Nat.le_trans (Nat.le_of_ble_eq_true rfl) hRl) dX1_read_10 ?_
  refine j_aload_n hX dX1_read_13 rfl ?_
  refine j_iconst hX dX1_read_14 ic_0 ?_
  have hf := ltd hf
  refine j_putI (k := 3) hX kX1 (by decide) fk_X1_21 dX1_read_15 h0.1 rfl rfl rfl rfl ?_
  refine j_aload_n hX dX1_read_18 rfl ?_
  refine j_iconst hX dX1_read_19 ic_0 ?_
  refine jpc (b := 20) rfl ?_
  have hf := ltd hf
  refine j_putI (k := 4) hX kX1 (by decide) fk_X1_25 dX1_read_20 h0.1 rfl rfl rfl rfl ?_
  refine j_iconst hX dX1_read_23 ic_0 ?_
  refine j_istore_n hX dX1_read_24 (by decide) rfl ?_
  refine j_aload_n hX dX1_read_25 rfl ?_
  obtain ⟨i4, hh5, hf⟩ := bd1 hf
  refine j_cV0v hX lk_X1_54 kX10 dX1_read_26 (sh_1 hG) (okX10_rewind hG hh5) rfl rfl (rmm (by omega) hRf hRl (by decide)) (Nat.le_of_ble_eq_true rfl) (Nat.le_add_right _ _) (Nat.le_add_right _ _) ?_
  refine j_iconst hX dX1_read_29 ic_0 ?_
  refine jpc (b := 30) rfl ?_
  refine j_istore_n hX dX1_read_30 (by decide) rfl ?_
  exact aJx (kX1_read_31 hX hr hlk hRf hRl h0 fuel _ _ _ hG  hf) (And.intro rfl (And.intro rfl (And.intro rfl (And.intro rfl (rfl)))))
theorem okX1_read {l : Launch} {sh : List aSh} {i : Nat → Nat → Int32} {lo : Nat → Nat → Int64} {rv : Nat → Nat → Option Nat}  {p0 : Nat} {vR : Int32} {iR : Nat → Nat → Int32} (hG : aGood sh rv) (h0 : isCar sh rv p0) (hf : fX1_read p0 i = some (vR, iR)) : aM l yX1_read cX1_read 5 (some .boolean) 7 [.ref (100 + p0), .ref (100 + 1)] (sh, i, lo, rv) (some (.int vR)) (sh, iR, lo, rv) :=
  aM_of (by decide) (Nat.le_of_ble_eq_true rfl) (Nat.le_refl _) (Nat.le_refl _) (fun p e s m args below meth c D cA A ad0 hX hr hlk hnm => kX1_read hX hr hlk (Nat.le_refl _) (Nat.le_refl _) h0 hG hf)
def fX9_lawDraft (rv : Nat → Nat → Option Nat) : Option ((Option Nat)) := some ((some (100 + (plc (rv 3 2)))))
theorem kX9_lawDraft  {vR : Option Nat} (hX : aX p s m args c RX9 cX9_lawDraft 1 D cA A ad0) (hr : meth.sig.returnType = (some (.object "WokenBorder$Law"))) (hlk : meth.locks = false) (hRf : 0 ≤ R.frames) (hRl : 64 * 0 ≤ R.locals) (hG : aGood sh rv) (hf : fX9_lawDraft rv = some (vR)) : aJ p l e R s m args below meth c (MQ below (aPost D cA ad0 A (sh, i0, lo0, rv0) (some (va_rf vR)) (sh, i, lo, rv)) args s (sh.length - sh.length) (aSn sh - aSn sh) A) D cA A ad0 1 sh.length (aSn sh) 0 [some (.ref (100 + 3))] [] (sh, i, lo, rv) := by
  unfold fX9_lawDraft at hf
  refine j_aload_n hX dX9_lawDraft_0 rfl ?_
  refine j_getR (k := 2) hX kX9 (by decide) fk_X9_24 hG.2.2.2.1.1 dX9_lawDraft_1 (sh_3 hG) rfl ?_
  cases hf
  exact j_aret hX hr hlk (Or.inr ⟨_, rfl⟩) dX9_lawDraft_4
theorem okX9_lawDraft {l : Launch} {sh : List aSh} {i : Nat → Nat → Int32} {lo : Nat → Nat → Int64} {rv : Nat → Nat → Option Nat}  {vR : Option Nat} (hG : aGood sh rv) (hf : fX9_lawDraft rv = some (vR)) : aM l yX9_lawDraft cX9_lawDraft 1 (some (.object "WokenBorder$Law")) 0 [.ref (100 + 3)] (sh, i, lo, rv) (some (va_rf vR)) (sh, i, lo, rv) :=
  aM_of (by decide) (Nat.le_of_ble_eq_true rfl) (Nat.le_refl _) (Nat.le_refl _) (fun p e s m args below meth c D cA A ad0 hX hr hlk hnm => kX9_lawDraft hX hr hlk (Nat.le_refl _) (Nat.le_refl _) hG hf)
theorem vrX9_lawDraft {r : Nat} (hG : aGood sh rv) (hf : fX9_lawDraft rv = some (some r)) : r = 100 + (r - 100) ∧ isLaw sh rv (r - 100) := by
  unfold fX9_lawDraft at hf
  have e2 : 100 + plc (rv 3 2) = r := by simpa using hf
  subst e2
  rw [Nat.add_sub_cancel_left]
  exact ⟨rfl, hG.2.2.2.1.2⟩
def fX4_letterOf_2 : Nat → Int32 → Int32 → Option ((Int32))
  | 0, _, _ => none
  | n + 1, x0, x1 => if 6 ≤ x1 then (some ((-1))) else (bn1 (fJ0_charAt_5068e 2 x1) fun v1 =>
    if v1 = x0 then (some (x1)) else (fX4_letterOf_2 n x0 (x1 + 1)))
theorem kX4_letterOf_2  {vR : Int32} (hX : aX p s m args c RX4 cX4_letterOf 2 D cA A ad0) (hr : meth.sig.returnType = (some .int)) (hlk : meth.locks = false) (hRf : 4 ≤ R.frames) (hRl : 64 * 4 ≤ R.locals) : ∀ (n : Nat) (x0 : Int32) (x1 : Int32), aGood sh rv → fX4_letterOf_2 n x0 x1 = some (vR) → aJ p l e R s m args below meth c (MQ below (aPost D cA ad0 A (sh, i0, lo0, rv0) (some (.int vR)) (sh, i, lo, rv)) args s (sh.length - sh.length) (aSn sh - aSn sh) A) D cA A ad0 2 sh.length (aSn sh) 2 [some (.int x0), some (.int x1)] [] (sh, i, lo, rv) := by
  intro n
  induction n with
  | zero => intros; rename_i hf; cases hf
  | succ n ih =>
    intro x0 x1 hG hf
    rw [fX4_letterOf_2] at hf
    refine j_iload_n hX dX4_letterOf_2 rfl ?_
    refine j_bipush hX dX4_letterOf_3 bp_6 ?_
    refine j_icmp_ge (tgt := 26) hX dX4_letterOf_5 (by decide) (fun hc => ?_) (fun hc => ?_)
    · have hf := ifp hc hf
      refine j_iconst hX dX4_letterOf_26 ic_m1 ?_
      cases hf
      exact j_ret hX hr hlk rfl dX4_letterOf_27
    · have hf := ifn hc hf
      refine j_ldcS (j := 2) (tx := "nwtcos") hX (by decide) (by decide) dX4_letterOf_8 ?_
      refine j_iload_n hX dX4_letterOf_10 rfl ?_
      obtain ⟨v1, hh2, hf⟩ := bd1 hf
      refine j_cT1i hX lk_X4_81 rfl (by decide) dX4_letterOf_11 (okJ0_charAt_5068e hG (by decide) hh2) (rmm (by omega) hRf hRl (by decide)) (Nat.le_of_ble_eq_true rfl) (Nat.le_add_right _ _) (Nat.le_add_right _ _) ?_
      refine j_iload_n hX dX4_letterOf_14 rfl ?_
      refine j_icmp_ne (tgt := 20) hX dX4_letterOf_15 (by decide) (fun hc => ?_) (fun hc => ?_)
      · have hf := ifn hc hf
        refine j_iinc hX dX4_letterOf_20 rfl (congrArg (_ + ·) ic_1) (by decide) rfl ?_
        refine j_goto (tgt := 2) hX dX4_letterOf_23 (by decide) ?_
        exact aJx (ih _ _ hG  hf) (And.intro rfl (And.intro rfl (rfl)))
      · have hf := ifp hc hf
        refine j_iload_n hX dX4_letterOf_18 rfl ?_
        cases hf
        exact j_ret hX hr hlk rfl dX4_letterOf_19
def fX4_letterOf (a0 : Int32) : Option ((Int32)) := fX4_letterOf_2 fuel a0 0
theorem kX4_letterOf  {vR : Int32} (hX : aX p s m args c RX4 cX4_letterOf 2 D cA A ad0) (hr : meth.sig.returnType = (some .int)) (hlk : meth.locks = false) (hRf : 4 ≤ R.frames) (hRl : 64 * 4 ≤ R.locals) {a0 : Int32} (hG : aGood sh rv) (hf : fX4_letterOf a0 = some (vR)) : aJ p l e R s m args below meth c (MQ below (aPost D cA ad0 A (sh, i0, lo0, rv0) (some (.int vR)) (sh, i, lo, rv)) args s (sh.length - sh.length) (aSn sh - aSn sh) A) D cA A ad0 2 sh.length (aSn sh) 0 [some (.int a0), none] [] (sh, i, lo, rv) := by
  unfold fX4_letterOf at hf
  refine j_iconst hX dX4_letterOf_0 ic_0 ?_
  refine j_istore_n hX dX4_letterOf_1 (by decide) rfl ?_
  exact aJx (kX4_letterOf_2 hX hr hlk hRf hRl fuel _ _ hG  hf) (And.intro rfl (And.intro rfl (rfl)))
theorem okX4_letterOf {l : Launch} {sh : List aSh} {i : Nat → Nat → Int32} {lo : Nat → Nat → Int64} {rv : Nat → Nat → Option Nat}  {a0 : Int32} {vR : Int32} (hG : aGood sh rv) (hf : fX4_letterOf a0 = some (vR)) : aM l yX4_letterOf cX4_letterOf 2 (some .int) 4 [.int a0] (sh, i, lo, rv) (some (.int vR)) (sh, i, lo, rv) :=
  aM_of (by decide) (Nat.le_of_ble_eq_true rfl) (Nat.le_refl _) (Nat.le_refl _) (fun p e s m args below meth c D cA A ad0 hX hr hlk hnm => kX4_letterOf hX hr hlk (Nat.le_refl _) (Nat.le_refl _) hG hf)
def fX4_emit (p0 : Nat) (a1 : Int32) (i : Nat → Nat → Int32) : Option ((Nat → Nat → Int32)) := if (nI 240) ≤ (i p0 2) then (some (i)) else (if aIn (i p0 2) 240 = true then
    (lt (u2 i (p0 + 1) ((i p0 2) : Int32).toNatClampNeg a1) fun i1 => lt (u2 i1 p0 2 ((i1 p0 2) + (1 : Int32))) fun i2 =>
    some (i2)) else none)
theorem kX4_emit  {p0 : Nat} {iR : Nat → Nat → Int32} (hX : aX p s m args c RX4 cX4_emit 2 D cA A ad0) (hr : meth.sig.returnType = none) (hlk : meth.locks = false) (hRf : 0 ≤ R.frames) (hRl : 64 * 0 ≤ R.locals) (h0 : isLaw sh rv p0) {a1 : Int32} (hG : aGood sh rv) (hf : fX4_emit p0 a1 i = some (iR)) : aJ p l e R s m args below meth c (MQ below (aPost D cA ad0 A (sh, i0, lo0, rv0) none (sh, iR, lo, rv)) args s (sh.length - sh.length) (aSn sh - aSn sh) A) D cA A ad0 2 sh.length (aSn sh) 0 [some (.ref (100 + p0)), some (.int a1)] [] (sh, i, lo, rv) := by
  unfold fX4_emit at hf
  refine j_aload_n hX dX4_emit_0 rfl ?_
  refine j_getI (k := 2) hX kX4 (by decide) fk_X4_20 dX4_emit_1 h0.1 rfl ?_
  refine j_aload_n hX dX4_emit_4 rfl ?_
  refine j_getR (k := 0) hX kX4 (by decide) fk_X4_11 h0.2.2.2.1 dX4_emit_5 h0.1 rfl ?_
  refine j_alen (t0 := 0) hX h0.2.1 (fun _ => rfl) dX4_emit_8 ?_
  refine jpc (b := 9) rfl ?_
  refine j_icmp_ge (tgt := 32) hX dX4_emit_9 (by decide) (fun hc => ?_) (fun hc => ?_)
  · have hf := ifp hc hf
    cases hf
    exact j_vret hX hr hlk dX4_emit_32
  · have hf := ifn hc hf
    refine j_aload_n hX dX4_emit_12 rfl ?_
    refine j_getR (k := 0) hX kX4 (by decide) fk_X4_11 h0.2.2.2.1 dX4_emit_13 h0.1 rfl ?_
    refine j_aload_n hX dX4_emit_16 rfl ?_
    refine j_getI (k := 2) hX kX4 (by decide) fk_X4_20 dX4_emit_17 h0.1 rfl ?_
    refine j_iload_n hX dX4_emit_20 rfl ?_
    refine jpc (b := 21) rfl ?_
    obtain ⟨hg, hf⟩ := gd hf
    have hf := ltd hf
    refine j_iast hX h0.2.1 hg dX4_emit_21 ?_
    refine j_aload_n hX dX4_emit_22 rfl ?_
    refine j_dup hX dX4_emit_23 rfl ?_
    refine j_getI (k := 2) hX kX4 (by decide) fk_X4_20 dX4_emit_24 h0.1 rfl ?_
    refine j_iconst hX dX4_emit_27 ic_1 ?_
    refine j_iadd hX dX4_emit_28 ?_
    refine jpc (b := 29) rfl ?_
    have hf := ltd hf
    refine j_putI (k := 2) hX kX4 (by decide) fk_X4_20 dX4_emit_29 h0.1 rfl rfl rfl rfl ?_
    cases hf
    exact j_vret hX hr hlk dX4_emit_32
theorem okX4_emit {l : Launch} {sh : List aSh} {i : Nat → Nat → Int32} {lo : Nat → Nat → Int64} {rv : Nat → Nat → Option Nat}  {p0 : Nat} {a1 : Int32} {iR : Nat → Nat → Int32} (hG : aGood sh rv) (h0 : isLaw sh rv p0) (hf : fX4_emit p0 a1 i = some (iR)) : aM l yX4_emit cX4_emit 2 none 0 [.ref (100 + p0), .int a1] (sh, i, lo, rv) none (sh, iR, lo, rv) :=
  aM_of (by decide) (Nat.le_of_ble_eq_true rfl) (Nat.le_refl _) (Nat.le_refl _) (fun p e s m args below meth c D cA A ad0 hX hr hlk hnm => kX4_emit hX hr hlk (Nat.le_refl _) (Nat.le_refl _) h0 hG hf)
def fX4_readAtom (gs : Nat → Int32 → (Nat → Nat → Int32) → Option ((Int32) × (Nat → Nat → Int32))) (p0 : Nat) (a2 : Int32) (i : Nat → Nat → Int32) : Option ((Int32) × (Nat → Nat → Int32)) := bn2 (fX10_ahead i) fun v1 i2 =>
    if v1 = 91 then (if a2 < 6 then (bn1 (fX10_pass i2) fun i15 =>
    bn2 (gs p0 (a2 + (1 : Int32)) i15) fun v17 i18 =>
    if v17 = 0 then (some (0, i18)) else (bn2 (fX10_takes 93 i18) fun v20 i21 =>
    if v20 = 0 then (some (0, i21)) else (some (1, i21)))) else (some (0, i2))) else (bn1 (fX4_letterOf v1) fun v4 =>
    if v4 = (-1) then (bn2 (fX10_number 4 i2) fun v6 i7 =>
    if v6 = (-1) then (some (0, i7)) else (bn1 (fX4_emit p0 v6 i7) fun i9 =>
    some (1, i9))) else (bn1 (fX10_pass i2) fun i11 =>
    bn1 (fX4_emit p0 (((-1) : Int32) - v4) i11) fun i13 =>
    some (1, i13)))
theorem kX4_readAtom  {gs : Nat → Int32 → (Nat → Nat → Int32) → Option ((Int32) × (Nat → Nat → Int32))} {D0 : Nat} {p0 : Nat} {vR : Int32} {iR : Nat → Nat → Int32} (hX : aX p s m args c RX4 cX4_readAtom 6 D cA A ad0) (hr : meth.sig.returnType = (some .boolean)) (hlk : meth.locks = false) (hRf : (D0 + 5) ≤ R.frames) (hRl : 64 * (D0 + 5) ≤ R.locals) (Hgs : ∀ {p0 : Nat} {a2 : Int32} {i : Nat → Nat → Int32} {lo : Nat → Nat → Int64} {rv : Nat → Nat → Option Nat} {vR : Int32} {iR : Nat → Nat → Int32}, aGood sh rv → isLaw sh rv p0 → gs p0 a2 i = some (vR, iR) → aM l yX4_readSum cX4_readSum 6 (some .boolean) D0 [.ref (100 + p0), .ref (100 + 1), .int a2] (sh, i, lo, rv) (some (.int vR)) (sh, iR, lo, rv)) (h0 : isLaw sh rv p0) {a2 : Int32} (hG : aGood sh rv) (hf : fX4_readAtom gs p0 a2 i = some (vR, iR)) : aJ p l e R s m args below meth c (MQ below (aPost D cA ad0 A (sh, i0, lo0, rv0) (some (.int vR)) (sh, iR, lo, rv)) args s (sh.length - sh.length) (aSn sh - aSn sh) A) D cA A ad0 6 sh.length (aSn sh) 0 [some (.ref (100 + p0)), some (.ref (100 + 1)), some (.int a2), none, none, none] [] (sh, i, lo, rv) := by
  unfold fX4_readAtom at hf
  refine j_aload_n hX dX4_readAtom_0 rfl ?_
  obtain ⟨v1, i2, hh3, hf⟩ := bd2 hf
  refine j_cV0i hX lk_X4_31 kX10 dX4_readAtom_1 (sh_1 hG) (okX10_ahead hG hh3) rfl rfl (rmm (by omega) hRf hRl (by decide)) (Nat.le_of_ble_eq_true rfl) (Nat.le_add_right _ _) (Nat.le_add_right _ _) ?_
  refine j_istore_n hX dX4_readAtom_4 (by decide) rfl ?_
  refine j_iload_n hX dX4_readAtom_5 rfl ?_
  refine j_bipush hX dX4_readAtom_6 bp_91 ?_
  refine jpc (b := 8) rfl ?_
  refine j_icmp_ne (tgt := 49) hX dX4_readAtom_8 (by decide) (fun hc => ?_) (fun hc => ?_)
  · have hf := ifn hc hf
    refine j_iload_n hX dX4_readAtom_49 rfl ?_
    obtain ⟨v4, hh5, hf⟩ := bd1 hf
    refine j_cS1i hX lk_X4_72 dX4_readAtom_50 (okX4_letterOf hG hh5) rfl rfl (rmm (by omega) hRf hRl (by decide)) (Nat.le_of_ble_eq_true rfl) (Nat.le_add_right _ _) (Nat.le_add_right _ _) ?_
    refine j_istore hX dX4_readAtom_53 (by decide) rfl ?_
    refine j_iload hX dX4_readAtom_55 rfl ?_
    refine j_iconst hX dX4_readAtom_57 ic_m1 ?_
    refine jpc (b := 58) rfl ?_
    refine j_icmp_eq (tgt := 75) hX dX4_readAtom_58 (by decide) (fun hc => ?_) (fun hc => ?_)
    · have hf := ifp hc hf
      refine j_aload_n hX dX4_readAtom_75 rfl ?_
      refine j_iconst hX dX4_readAtom_76 ic_4 ?_
      obtain ⟨v6, i7, hh8, hf⟩ := bd2 hf
      refine j_cV1i hX lk_X4_76 kX10 dX4_readAtom_77 (sh_1 hG) (okX10_number hG hh8) rfl rfl (rmm (by omega) hRf hRl (by decide)) (Nat.le_of_ble_eq_true rfl) (Nat.le_add_right _ _) (Nat.le_add_right _ _) ?_
      refine j_istore hX dX4_readAtom_80 (by decide) rfl ?_
      refine j_iload hX dX4_readAtom_82 rfl ?_
      refine jpc (b := 84) rfl ?_
      refine j_iconst hX dX4_readAtom_84 ic_m1 ?_
      refine j_icmp_ne (tgt := 90) hX dX4_readAtom_85 (by decide) (fun hc => ?_) (fun hc => ?_)
      · have hf := ifn hc hf
        refine j_aload_n hX dX4_readAtom_90 rfl ?_
        refine j_iload hX dX4_readAtom_91 rfl ?_
        obtain ⟨i9, hh10, hf⟩ := bd1 hf
        refine j_cV1v hX lk_X4_46 kX4 dX4_readAtom_93 h0.1 (okX4_emit hG h0 hh10) rfl rfl (rmm (by omega) hRf hRl (by decide)) (Nat.le_of_ble_eq_true rfl) (Nat.le_add_right _ _) (Nat.le_add_right _ _) ?_
        refine j_iconst hX dX4_readAtom_96 ic_1 ?_
        cases hf
        exact j_ret hX hr hlk rfl dX4_readAtom_97
      · have hf := ifp hc hf
        refine j_iconst hX dX4_readAtom_88 ic_0 ?_
        cases hf
        exact j_ret hX hr hlk rfl dX4_readAtom_89
    · have hf := ifn hc hf
      refine j_aload_n hX dX4_readAtom_61 rfl ?_
      obtain ⟨i11, hh12, hf⟩ := bd1 hf
      refine j_cV0v hX lk_X4_63 kX10 dX4_readAtom_62 (sh_1 hG) (okX10_pass hG hh12) rfl rfl (rmm (by omega) hRf hRl (by decide)) (Nat.le_of_ble_eq_true rfl) (Nat.le_add_right _ _) (Nat.le_add_right _ _) ?_
      refine j_aload_n hX dX4_readAtom_65 rfl ?_
      refine j_iconst hX dX4_readAtom_66 ic_m1 ?_
      refine j_iload hX dX4_readAtom_67 rfl ?_
      refine jpc (b := 69) rfl ?_
      refine j_isub hX dX4_readAtom_69 ?_
      obtain ⟨i13, hh14, hf⟩ := bd1 hf
      refine j_cV1v hX lk_X4_46 kX4 dX4_readAtom_70 h0.1 (okX4_emit hG h0 hh14) rfl rfl (rmm (by omega) hRf hRl (by decide)) (Nat.le_of_ble_eq_true rfl) (Nat.le_add_right _ _) (Nat.le_add_right _ _) ?_
      refine j_iconst hX dX4_readAtom_73 ic_1 ?_
      cases hf
      exact j_ret hX hr hlk rfl dX4_readAtom_74
  · have hf := ifp hc hf
    refine j_iload_n hX dX4_readAtom_11 rfl ?_
    refine j_bipush hX dX4_readAtom_12 bp_6 ?_
    refine j_icmp_lt (tgt := 19) hX dX4_readAtom_14 (by decide) (fun hc => ?_) (fun hc => ?_)
    · have hf := ifp hc hf
      refine j_aload_n hX dX4_readAtom_19 rfl ?_
      obtain ⟨i15, hh16, hf⟩ := bd1 hf
      refine j_cV0v hX lk_X4_63 kX10 dX4_readAtom_20 (sh_1 hG) (okX10_pass hG hh16) rfl rfl (rmm (by omega) hRf hRl (by decide)) (Nat.le_of_ble_eq_true rfl) (Nat.le_add_right _ _) (Nat.le_add_right _ _) ?_
      refine j_aload_n hX dX4_readAtom_23 rfl ?_
      refine j_aload_n hX dX4_readAtom_24 rfl ?_
      refine j_iload_n hX dX4_readAtom_25 rfl ?_
      refine jpc (b := 26) rfl ?_
      refine j_iconst hX dX4_readAtom_26 ic_1 ?_
      refine j_iadd hX dX4_readAtom_27 ?_
      obtain ⟨v17, i18, hh19, hf⟩ := bd2 hf
      refine j_cV2i hX lk_X4_39 kX4 dX4_readAtom_28 h0.1 (Hgs hG h0 hh19) rfl rfl (rmm (by omega) hRf hRl (by decide)) (Nat.le_of_ble_eq_true rfl) (Nat.le_add_right _ _) (Nat.le_add_right _ _) ?_
      refine j_if_eq (tgt := 47) hX dX4_readAtom_31 (by decide) (fun hc => ?_) (fun hc => ?_)
      · have hf := ifp hc hf
        refine j_iconst hX dX4_readAtom_47 ic_0 ?_
        cases hf
        exact j_ret hX hr hlk rfl dX4_readAtom_48
      · have hf := ifn hc hf
        refine j_aload_n hX dX4_readAtom_34 rfl ?_
        refine j_bipush hX dX4_readAtom_35 bp_93 ?_
        obtain ⟨v20, i21, hh22, hf⟩ := bd2 hf
        refine j_cV1i hX lk_X4_35 kX10 dX4_readAtom_37 (sh_1 hG) (okX10_takes hG hh22) rfl rfl (rmm (by omega) hRf hRl (by decide)) (Nat.le_of_ble_eq_true rfl) (Nat.le_add_right _ _) (Nat.le_add_right _ _) ?_
        refine j_if_eq (tgt := 47) hX dX4_readAtom_40 (by decide) (fun hc => ?_) (fun hc => ?_)
        · have hf := ifp hc hf
          refine j_iconst hX dX4_readAtom_47 ic_0 ?_
          cases hf
          exact j_ret hX hr hlk rfl dX4_readAtom_48
        · have hf := ifn hc hf
          refine j_iconst hX dX4_readAtom_43 ic_1 ?_
          refine j_goto (tgt := 48) hX dX4_readAtom_44 (by decide) ?_
          cases hf
          exact j_ret hX hr hlk rfl dX4_readAtom_48
    · have hf := ifn hc hf
      refine j_iconst hX dX4_readAtom_17 ic_0 ?_
      cases hf
      exact j_ret hX hr hlk rfl dX4_readAtom_18
theorem okX4_readAtom {l : Launch} {sh : List aSh} {i : Nat → Nat → Int32} {lo : Nat → Nat → Int64} {rv : Nat → Nat → Option Nat} {gs : Nat → Int32 → (Nat → Nat → Int32) → Option ((Int32) × (Nat → Nat → Int32))} {D0 : Nat} (Hgs : ∀ {p0 : Nat} {a2 : Int32} {i : Nat → Nat → Int32} {lo : Nat → Nat → Int64} {rv : Nat → Nat → Option Nat} {vR : Int32} {iR : Nat → Nat → Int32}, aGood sh rv → isLaw sh rv p0 → gs p0 a2 i = some (vR, iR) → aM l yX4_readSum cX4_readSum 6 (some .boolean) D0 [.ref (100 + p0), .ref (100 + 1), .int a2] (sh, i, lo, rv) (some (.int vR)) (sh, iR, lo, rv)) {p0 : Nat} {a2 : Int32} {vR : Int32} {iR : Nat → Nat → Int32} (hG : aGood sh rv) (h0 : isLaw sh rv p0) (hf : fX4_readAtom gs p0 a2 i = some (vR, iR)) : aM l yX4_readAtom cX4_readAtom 6 (some .boolean) (D0 + 5) [.ref (100 + p0), .ref (100 + 1), .int a2] (sh, i, lo, rv) (some (.int vR)) (sh, iR, lo, rv) :=
  aM_of (by decide) (Nat.le_of_ble_eq_true rfl) (Nat.le_refl _) (Nat.le_refl _) (fun p e s m args below meth c D cA A ad0 hX hr hlk hnm => kX4_readAtom hX hr hlk (Nat.le_refl _) (Nat.le_refl _) Hgs h0 hG hf)
def fX4_readTerm_44 (gs : Nat → Int32 → (Nat → Nat → Int32) → Option ((Int32) × (Nat → Nat → Int32))) (p0 : Nat) (kh10 : Int32 → Int32 → Int32 → (Nat → Nat → Int32) → Option ((Int32) × (Nat → Nat → Int32))) (x2 : Int32) (x4 : Int32) (x5 : Int32) (i : Nat → Nat → Int32) : Option ((Int32) × (Nat → Nat → Int32)) := bn1 (fX10_pass i) fun i7 =>
    bn2 (fX4_readAtom gs p0 x2 i7) fun v9 i10 =>
    bn1 (fX4_emit p0 (-x5) i10) fun i12 =>
    kh10 x2 v9 (x4 + 1) i12
theorem kX4_readTerm_44  {gs : Nat → Int32 → (Nat → Nat → Int32) → Option ((Int32) × (Nat → Nat → Int32))} {D0 : Nat} {p0 : Nat} {vR : Int32} {iR : Nat → Nat → Int32} (hX : aX p s m args c RX4 cX4_readTerm 6 D cA A ad0) (hr : meth.sig.returnType = (some .boolean)) (hlk : meth.locks = false) (hRf : (D0 + 6) ≤ R.frames) (hRl : 64 * (D0 + 6) ≤ R.locals) (Hgs : ∀ {p0 : Nat} {a2 : Int32} {i : Nat → Nat → Int32} {lo : Nat → Nat → Int64} {rv : Nat → Nat → Option Nat} {vR : Int32} {iR : Nat → Nat → Int32}, aGood sh rv → isLaw sh rv p0 → gs p0 a2 i = some (vR, iR) → aM l yX4_readSum cX4_readSum 6 (some .boolean) D0 [.ref (100 + p0), .ref (100 + 1), .int a2] (sh, i, lo, rv) (some (.int vR)) (sh, iR, lo, rv)) (h0 : isLaw sh rv p0) {kh10 : Int32 → Int32 → Int32 → (Nat → Nat → Int32) → Option ((Int32) × (Nat → Nat → Int32))} (Hkh10 : ∀ (x2 : Int32) (x3 : Int32) (x4 : Int32) (i : Nat → Nat → Int32), aGood sh rv → kh10 x2 x3 x4 i = some (vR, iR) → aJ p l e R s m args below meth c (MQ below (aPost D cA ad0 A (sh, i0, lo0, rv0) (some (.int vR)) (sh, iR, lo, rv)) args s (sh.length - sh.length) (aSn sh - aSn sh) A) D cA A ad0 6 sh.length (aSn sh) 10 [some (.ref (100 + p0)), some (.ref (100 + 1)), some (.int x2), some (.int x3), some (.int x4), none] [] (sh, i, lo, rv)) {x2 : Int32} {x4 : Int32} {x5 : Int32} (hG : aGood sh rv) (hf : fX4_readTerm_44 gs p0 kh10 x2 x4 x5 i = some (vR, iR)) : aJ p l e R s m args below meth c (MQ below (aPost D cA ad0 A (sh, i0, lo0, rv0) (some (.int vR)) (sh, iR, lo, rv)) args s (sh.length - sh.length) (aSn sh - aSn sh) A) D cA A ad0 6 sh.length (aSn sh) 44 [some (.ref (100 + p0)), some (.ref (100 + 1)), some (.int x2), none, some (.int x4), some (.int x5)] [] (sh, i, lo, rv) := by
  unfold fX4_readTerm_44 at hf
  refine j_aload_n hX dX4_readTerm_44 rfl ?_
  obtain ⟨i7, hh8, hf⟩ := bd1 hf
  refine j_cV0v hX lk_X4_63 kX10 dX4_readTerm_45 (sh_1 hG) (okX10_pass hG hh8) rfl rfl (rmm (by omega) hRf hRl (by decide)) (Nat.le_of_ble_eq_true rfl) (Nat.le_add_right _ _) (Nat.le_add_right _ _) ?_
  refine j_aload_n hX dX4_readTerm_48 rfl ?_
  refine j_aload_n hX dX4_readTerm_49 rfl ?_
  refine j_iload_n hX dX4_readTerm_50 rfl ?_
  refine jpc (b := 51) rfl ?_
  obtain ⟨v9, i10, hh11, hf⟩ := bd2 hf
  refine j_cV2i hX lk_X4_69 kX4 dX4_readTerm_51 h0.1 (okX4_readAtom Hgs hG h0 hh11) rfl rfl (rmm (by omega) hRf hRl (by decide)) (Nat.le_of_ble_eq_true rfl) (Nat.le_add_right _ _) (Nat.le_add_right _ _) ?_
  refine j_istore_n hX dX4_readTerm_54 (by decide) rfl ?_
  refine j_aload_n hX dX4_readTerm_55 rfl ?_
  refine j_iload hX dX4_readTerm_56 rfl ?_
  refine j_ineg hX dX4_readTerm_58 ?_
  obtain ⟨i12, hh13, hf⟩ := bd1 hf
  refine j_cV1v hX lk_X4_46 kX4 dX4_readTerm_59 h0.1 (okX4_emit hG h0 hh13) rfl rfl (rmm (by omega) hRf hRl (by decide)) (Nat.le_of_ble_eq_true rfl) (Nat.le_add_right _ _) (Nat.le_add_right _ _) ?_
  refine jpc (b := 62) rfl ?_
  refine j_iinc hX dX4_readTerm_62 rfl (congrArg (_ + ·) ic_1) (by decide) rfl ?_
  refine j_goto (tgt := 10) hX dX4_readTerm_65 (by decide) ?_
  exact aJx (Hkh10 _ _ _ _ hG  hf) (And.intro rfl (And.intro rfl (And.intro rfl (And.intro rfl (And.intro rfl (rfl))))))
def fX4_readTerm_10 (gs : Nat → Int32 → (Nat → Nat → Int32) → Option ((Int32) × (Nat → Nat → Int32))) (p0 : Nat) : Nat → Int32 → Int32 → Int32 → (Nat → Nat → Int32) → Option ((Int32) × (Nat → Nat → Int32))
  | 0, _, _, _, _ => none
  | n + 1, x2, x3, x4, i => if 240 < x4 then (if narrow .boolean (.int x3) = .int x3 then
    some (x3, i) else none) else (if x3 = 0 then (if narrow .boolean (.int x3) = .int x3 then
    some (x3, i) else none) else (bn2 (fX10_ahead i) fun v4 i5 =>
    if v4 = 42 then (fX4_readTerm_44 gs p0 (fX4_readTerm_10 gs p0 n) x2 x4 v4 i5) else (if v4 = 47 then (fX4_readTerm_44 gs p0 (fX4_readTerm_10 gs p0 n) x2 x4 v4 i5) else (some (1, i5)))))
theorem kX4_readTerm_10  {gs : Nat → Int32 → (Nat → Nat → Int32) → Option ((Int32) × (Nat → Nat → Int32))} {D0 : Nat} {p0 : Nat} {vR : Int32} {iR : Nat → Nat → Int32} (hX : aX p s m args c RX4 cX4_readTerm 6 D cA A ad0) (hr : meth.sig.returnType = (some .boolean)) (hlk : meth.locks = false) (hRf : (D0 + 6) ≤ R.frames) (hRl : 64 * (D0 + 6) ≤ R.locals) (Hgs : ∀ {p0 : Nat} {a2 : Int32} {i : Nat → Nat → Int32} {lo : Nat → Nat → Int64} {rv : Nat → Nat → Option Nat} {vR : Int32} {iR : Nat → Nat → Int32}, aGood sh rv → isLaw sh rv p0 → gs p0 a2 i = some (vR, iR) → aM l yX4_readSum cX4_readSum 6 (some .boolean) D0 [.ref (100 + p0), .ref (100 + 1), .int a2] (sh, i, lo, rv) (some (.int vR)) (sh, iR, lo, rv)) (h0 : isLaw sh rv p0) : ∀ (n : Nat) (x2 : Int32) (x3 : Int32) (x4 : Int32) (i : Nat → Nat → Int32), aGood sh rv → fX4_readTerm_10 gs p0 n x2 x3 x4 i = some (vR, iR) → aJ p l e R s m args below meth c (MQ below (aPost D cA ad0 A (sh, i0, lo0, rv0) (some (.int vR)) (sh, iR, lo, rv)) args s (sh.length - sh.length) (aSn sh - aSn sh) A) D cA A ad0 6 sh.length (aSn sh) 10 [some (.ref (100 + p0)), some (.ref (100 + 1)), some (.int x2), some (.int x3), some (.int x4), none] [] (sh, i, lo, rv) := by
  intro n
  induction n with
  | zero => intros; rename_i hf; cases hf
  | succ n ih =>
    intro x2 x3 x4 i hG hf
    rw [fX4_readTerm_10] at hf
    refine j_iload hX dX4_readTerm_10 rfl ?_
    refine j_sipush hX dX4_readTerm_12 sp_240 ?_
    refine j_icmp_gt (tgt := 68) hX dX4_readTerm_15 (by decide) (fun hc => ?_) (fun hc => ?_)
    · have hf := ifp hc hf
      refine j_iload_n hX dX4_readTerm_68 rfl ?_
      obtain ⟨hg, hf⟩ := gd hf
      cases hf
      exact j_ret hX hr hlk hg dX4_readTerm_69
    · have hf := ifn hc hf
      refine j_iload_n hX dX4_readTerm_18 rfl ?_
      refine j_if_eq (tgt := 68) hX dX4_readTerm_19 (by decide) (fun hc => ?_) (fun hc => ?_)
      · have hf := ifp hc hf
        refine j_iload_n hX dX4_readTerm_68 rfl ?_
        obtain ⟨hg, hf⟩ := gd hf
        cases hf
        exact j_ret hX hr hlk hg dX4_readTerm_69
      · have hf := ifn hc hf
        refine j_aload_n hX dX4_readTerm_22 rfl ?_
        obtain ⟨v4, i5, hh6, hf⟩ := bd2 hf
        refine j_cV0i hX lk_X4_31 kX10 dX4_readTerm_23 (sh_1 hG) (okX10_ahead hG hh6) rfl rfl (rmm (by omega) hRf hRl (by decide)) (Nat.le_of_ble_eq_true rfl) (Nat.le_add_right _ _) (Nat.le_add_right _ _) ?_
        refine j_istore hX dX4_readTerm_26 (by decide) rfl ?_
        refine j_iload hX dX4_readTerm_28 rfl ?_
        refine j_bipush hX dX4_readTerm_30 bp_42 ?_
        refine jpc (b := 32) rfl ?_
        refine j_icmp_eq (tgt := 44) hX dX4_readTerm_32 (by decide) (fun hc => ?_) (fun hc => ?_)
        · have hf := ifp hc hf
          exact aJx (kX4_readTerm_44 hX hr hlk hRf hRl Hgs h0 ih hG  hf) (And.intro rfl (And.intro rfl (And.intro rfl (And.intro rfl (And.intro rfl (rfl))))))
        · have hf := ifn hc hf
          refine j_iload hX dX4_readTerm_35 rfl ?_
          refine j_bipush hX dX4_readTerm_37 bp_47 ?_
          refine j_icmp_eq (tgt := 44) hX dX4_readTerm_39 (by decide) (fun hc => ?_) (fun hc => ?_)
          · have hf := ifp hc hf
            exact aJx (kX4_readTerm_44 hX hr hlk hRf hRl Hgs h0 ih hG  hf) (And.intro rfl (And.intro rfl (And.intro rfl (And.intro rfl (And.intro rfl (rfl))))))
          · have hf := ifn hc hf
            refine j_iconst hX dX4_readTerm_42 ic_1 ?_
            cases hf
            exact j_ret hX hr hlk rfl dX4_readTerm_43
def fX4_readTerm (gs : Nat → Int32 → (Nat → Nat → Int32) → Option ((Int32) × (Nat → Nat → Int32))) (p0 : Nat) (a2 : Int32) (i : Nat → Nat → Int32) : Option ((Int32) × (Nat → Nat → Int32)) := bn2 (fX4_readAtom gs p0 a2 i) fun v1 i2 =>
    fX4_readTerm_10 gs p0 fuel a2 v1 0 i2
theorem kX4_readTerm  {gs : Nat → Int32 → (Nat → Nat → Int32) → Option ((Int32) × (Nat → Nat → Int32))} {D0 : Nat} {p0 : Nat} {vR : Int32} {iR : Nat → Nat → Int32} (hX : aX p s m args c RX4 cX4_readTerm 6 D cA A ad0) (hr : meth.sig.returnType = (some .boolean)) (hlk : meth.locks = false) (hRf : (D0 + 6) ≤ R.frames) (hRl : 64 * (D0 + 6) ≤ R.locals) (Hgs : ∀ {p0 : Nat} {a2 : Int32} {i : Nat → Nat → Int32} {lo : Nat → Nat → Int64} {rv : Nat → Nat → Option Nat} {vR : Int32} {iR : Nat → Nat → Int32}, aGood sh rv → isLaw sh rv p0 → gs p0 a2 i = some (vR, iR) → aM l yX4_readSum cX4_readSum 6 (some .boolean) D0 [.ref (100 + p0), .ref (100 + 1), .int a2] (sh, i, lo, rv) (some (.int vR)) (sh, iR, lo, rv)) (h0 : isLaw sh rv p0) {a2 : Int32} (hG : aGood sh rv) (hf : fX4_readTerm gs p0 a2 i = some (vR, iR)) : aJ p l e R s m args below meth c (MQ below (aPost D cA ad0 A (sh, i0, lo0, rv0) (some (.int vR)) (sh, iR, lo, rv)) args s (sh.length - sh.length) (aSn sh - aSn sh) A) D cA A ad0 6 sh.length (aSn sh) 0 [some (.ref (100 + p0)), some (.ref (100 + 1)), some (.int a2), none, none, none] [] (sh, i, lo, rv) := by
  unfold fX4_readTerm at hf
  refine j_aload_n hX dX4_readTerm_0 rfl ?_
  refine j_aload_n hX dX4_readTerm_1 rfl ?_
  refine j_iload_n hX dX4_readTerm_2 rfl ?_
  obtain ⟨v1, i2, hh3, hf⟩ := bd2 hf
  refine j_cV2i hX lk_X4_69 kX4 dX4_readTerm_3 h0.1 (okX4_readAtom Hgs hG h0 hh3) rfl rfl (rmm (by omega) hRf hRl (by decide)) (Nat.le_of_ble_eq_true rfl) (Nat.le_add_right _ _) (Nat.le_add_right _ _) ?_
  refine j_istore_n hX dX4_readTerm_6 (by decide) rfl ?_
  refine jpc (b := 7) rfl ?_
  refine j_iconst hX dX4_readTerm_7 ic_0 ?_
  refine j_istore hX dX4_readTerm_8 (by decide) rfl ?_
  exact aJx (kX4_readTerm_10 hX hr hlk hRf hRl Hgs h0 fuel _ _ _ _ hG  hf) (And.intro rfl (And.intro rfl (And.intro rfl (And.intro rfl (And.intro rfl (rfl))))))
theorem okX4_readTerm {l : Launch} {sh : List aSh} {i : Nat → Nat → Int32} {lo : Nat → Nat → Int64} {rv : Nat → Nat → Option Nat} {gs : Nat → Int32 → (Nat → Nat → Int32) → Option ((Int32) × (Nat → Nat → Int32))} {D0 : Nat} (Hgs : ∀ {p0 : Nat} {a2 : Int32} {i : Nat → Nat → Int32} {lo : Nat → Nat → Int64} {rv : Nat → Nat → Option Nat} {vR : Int32} {iR : Nat → Nat → Int32}, aGood sh rv → isLaw sh rv p0 → gs p0 a2 i = some (vR, iR) → aM l yX4_readSum cX4_readSum 6 (some .boolean) D0 [.ref (100 + p0), .ref (100 + 1), .int a2] (sh, i, lo, rv) (some (.int vR)) (sh, iR, lo, rv)) {p0 : Nat} {a2 : Int32} {vR : Int32} {iR : Nat → Nat → Int32} (hG : aGood sh rv) (h0 : isLaw sh rv p0) (hf : fX4_readTerm gs p0 a2 i = some (vR, iR)) : aM l yX4_readTerm cX4_readTerm 6 (some .boolean) (D0 + 6) [.ref (100 + p0), .ref (100 + 1), .int a2] (sh, i, lo, rv) (some (.int vR)) (sh, iR, lo, rv) :=
  aM_of (by decide) (Nat.le_of_ble_eq_true rfl) (Nat.le_refl _) (Nat.le_refl _) (fun p e s m args below meth c D cA A ad0 hX hr hlk hnm => kX4_readTerm hX hr hlk (Nat.le_refl _) (Nat.le_refl _) Hgs h0 hG hf)
def fX4_readSum_44 (gs : Nat → Int32 → (Nat → Nat → Int32) → Option ((Int32) × (Nat → Nat → Int32))) (p0 : Nat) (kh10 : Int32 → Int32 → Int32 → (Nat → Nat → Int32) → Option ((Int32) × (Nat → Nat → Int32))) (x2 : Int32) (x4 : Int32) (x5 : Int32) (i : Nat → Nat → Int32) : Option ((Int32) × (Nat → Nat → Int32)) := bn1 (fX10_pass i) fun i7 =>
    bn2 (fX4_readTerm gs p0 x2 i7) fun v9 i10 =>
    bn1 (fX4_emit p0 (-x5) i10) fun i12 =>
    kh10 x2 v9 (x4 + 1) i12
theorem kX4_readSum_44  {gs : Nat → Int32 → (Nat → Nat → Int32) → Option ((Int32) × (Nat → Nat → Int32))} {D0 : Nat} {p0 : Nat} {vR : Int32} {iR : Nat → Nat → Int32} (hX : aX p s m args c RX4 cX4_readSum 6 D cA A ad0) (hr : meth.sig.returnType = (some .boolean)) (hlk : meth.locks = false) (hRf : (D0 + 7) ≤ R.frames) (hRl : 64 * (D0 + 7) ≤ R.locals) (Hgs : ∀ {p0 : Nat} {a2 : Int32} {i : Nat → Nat → Int32} {lo : Nat → Nat → Int64} {rv : Nat → Nat → Option Nat} {vR : Int32} {iR : Nat → Nat → Int32}, aGood sh rv → isLaw sh rv p0 → gs p0 a2 i = some (vR, iR) → aM l yX4_readSum cX4_readSum 6 (some .boolean) D0 [.ref (100 + p0), .ref (100 + 1), .int a2] (sh, i, lo, rv) (some (.int vR)) (sh, iR, lo, rv)) (h0 : isLaw sh rv p0) {kh10 : Int32 → Int32 → Int32 → (Nat → Nat → Int32) → Option ((Int32) × (Nat → Nat → Int32))} (Hkh10 : ∀ (x2 : Int32) (x3 : Int32) (x4 : Int32) (i : Nat → Nat → Int32), aGood sh rv → kh10 x2 x3 x4 i = some (vR, iR) → aJ p l e R s m args below meth c (MQ below (aPost D cA ad0 A (sh, i0, lo0, rv0) (some (.int vR)) (sh, iR, lo, rv)) args s (sh.length - sh.length) (aSn sh - aSn sh) A) D cA A ad0 6 sh.length (aSn sh) 10 [some (.ref (100 + p0)), some (.ref (100 + 1)), some (.int x2), some (.int x3), some (.int x4), none] [] (sh, i, lo, rv)) {x2 : Int32} {x4 : Int32} {x5 : Int32} (hG : aGood sh rv) (hf : fX4_readSum_44 gs p0 kh10 x2 x4 x5 i = some (vR, iR)) : aJ p l e R s m args below meth c (MQ below (aPost D cA ad0 A (sh, i0, lo0, rv0) (some (.int vR)) (sh, iR, lo, rv)) args s (sh.length - sh.length) (aSn sh - aSn sh) A) D cA A ad0 6 sh.length (aSn sh) 44 [some (.ref (100 + p0)), some (.ref (100 + 1)), some (.int x2), none, some (.int x4), some (.int x5)] [] (sh, i, lo, rv) := by
  unfold fX4_readSum_44 at hf
  refine j_aload_n hX dX4_readSum_44 rfl ?_
  obtain ⟨i7, hh8, hf⟩ := bd1 hf
  refine j_cV0v hX lk_X4_63 kX10 dX4_readSum_45 (sh_1 hG) (okX10_pass hG hh8) rfl rfl (rmm (by omega) hRf hRl (by decide)) (Nat.le_of_ble_eq_true rfl) (Nat.le_add_right _ _) (Nat.le_add_right _ _) ?_
  refine j_aload_n hX dX4_readSum_48 rfl ?_
  refine j_aload_n hX dX4_readSum_49 rfl ?_
  refine j_iload_n hX dX4_readSum_50 rfl ?_
  refine jpc (b := 51) rfl ?_
  obtain ⟨v9, i10, hh11, hf⟩ := bd2 hf
  refine j_cV2i hX lk_X4_66 kX4 dX4_readSum_51 h0.1 (okX4_readTerm Hgs hG h0 hh11) rfl rfl (rmm (by omega) hRf hRl (by decide)) (Nat.le_of_ble_eq_true rfl) (Nat.le_add_right _ _) (Nat.le_add_right _ _) ?_
  refine j_istore_n hX dX4_readSum_54 (by decide) rfl ?_
  refine j_aload_n hX dX4_readSum_55 rfl ?_
  refine j_iload hX dX4_readSum_56 rfl ?_
  refine j_ineg hX dX4_readSum_58 ?_
  obtain ⟨i12, hh13, hf⟩ := bd1 hf
  refine j_cV1v hX lk_X4_46 kX4 dX4_readSum_59 h0.1 (okX4_emit hG h0 hh13) rfl rfl (rmm (by omega) hRf hRl (by decide)) (Nat.le_of_ble_eq_true rfl) (Nat.le_add_right _ _) (Nat.le_add_right _ _) ?_
  refine jpc (b := 62) rfl ?_
  refine j_iinc hX dX4_readSum_62 rfl (congrArg (_ + ·) ic_1) (by decide) rfl ?_
  refine j_goto (tgt := 10) hX dX4_readSum_65 (by decide) ?_
  exact aJx (Hkh10 _ _ _ _ hG  hf) (And.intro rfl (And.intro rfl (And.intro rfl (And.intro rfl (And.intro rfl (rfl))))))
def fX4_readSum_10 (gs : Nat → Int32 → (Nat → Nat → Int32) → Option ((Int32) × (Nat → Nat → Int32))) (p0 : Nat) : Nat → Int32 → Int32 → Int32 → (Nat → Nat → Int32) → Option ((Int32) × (Nat → Nat → Int32))
  | 0, _, _, _, _ => none
  | n + 1, x2, x3, x4, i => if 240 < x4 then (if narrow .boolean (.int x3) = .int x3 then
    some (x3, i) else none) else (if x3 = 0 then (if narrow .boolean (.int x3) = .int x3 then
    some (x3, i) else none) else (bn2 (fX10_ahead i) fun v4 i5 =>
    if v4 = 43 then (fX4_readSum_44 gs p0 (fX4_readSum_10 gs p0 n) x2 x4 v4 i5) else (if v4 = 45 then (fX4_readSum_44 gs p0 (fX4_readSum_10 gs p0 n) x2 x4 v4 i5) else (some (1, i5)))))
theorem kX4_readSum_10  {gs : Nat → Int32 → (Nat → Nat → Int32) → Option ((Int32) × (Nat → Nat → Int32))} {D0 : Nat} {p0 : Nat} {vR : Int32} {iR : Nat → Nat → Int32} (hX : aX p s m args c RX4 cX4_readSum 6 D cA A ad0) (hr : meth.sig.returnType = (some .boolean)) (hlk : meth.locks = false) (hRf : (D0 + 7) ≤ R.frames) (hRl : 64 * (D0 + 7) ≤ R.locals) (Hgs : ∀ {p0 : Nat} {a2 : Int32} {i : Nat → Nat → Int32} {lo : Nat → Nat → Int64} {rv : Nat → Nat → Option Nat} {vR : Int32} {iR : Nat → Nat → Int32}, aGood sh rv → isLaw sh rv p0 → gs p0 a2 i = some (vR, iR) → aM l yX4_readSum cX4_readSum 6 (some .boolean) D0 [.ref (100 + p0), .ref (100 + 1), .int a2] (sh, i, lo, rv) (some (.int vR)) (sh, iR, lo, rv)) (h0 : isLaw sh rv p0) : ∀ (n : Nat) (x2 : Int32) (x3 : Int32) (x4 : Int32) (i : Nat → Nat → Int32), aGood sh rv → fX4_readSum_10 gs p0 n x2 x3 x4 i = some (vR, iR) → aJ p l e R s m args below meth c (MQ below (aPost D cA ad0 A (sh, i0, lo0, rv0) (some (.int vR)) (sh, iR, lo, rv)) args s (sh.length - sh.length) (aSn sh - aSn sh) A) D cA A ad0 6 sh.length (aSn sh) 10 [some (.ref (100 + p0)), some (.ref (100 + 1)), some (.int x2), some (.int x3), some (.int x4), none] [] (sh, i, lo, rv) := by
  intro n
  induction n with
  | zero => intros; rename_i hf; cases hf
  | succ n ih =>
    intro x2 x3 x4 i hG hf
    rw [fX4_readSum_10] at hf
    refine j_iload hX dX4_readSum_10 rfl ?_
    refine j_sipush hX dX4_readSum_12 sp_240 ?_
    refine j_icmp_gt (tgt := 68) hX dX4_readSum_15 (by decide) (fun hc => ?_) (fun hc => ?_)
    · have hf := ifp hc hf
      refine j_iload_n hX dX4_readSum_68 rfl ?_
      obtain ⟨hg, hf⟩ := gd hf
      cases hf
      exact j_ret hX hr hlk hg dX4_readSum_69
    · have hf := ifn hc hf
      refine j_iload_n hX dX4_readSum_18 rfl ?_
      refine j_if_eq (tgt := 68) hX dX4_readSum_19 (by decide) (fun hc => ?_) (fun hc => ?_)
      · have hf := ifp hc hf
        refine j_iload_n hX dX4_readSum_68 rfl ?_
        obtain ⟨hg, hf⟩ := gd hf
        cases hf
        exact j_ret hX hr hlk hg dX4_readSum_69
      · have hf := ifn hc hf
        refine j_aload_n hX dX4_readSum_22 rfl ?_
        obtain ⟨v4, i5, hh6, hf⟩ := bd2 hf
        refine j_cV0i hX lk_X4_31 kX10 dX4_readSum_23 (sh_1 hG) (okX10_ahead hG hh6) rfl rfl (rmm (by omega) hRf hRl (by decide)) (Nat.le_of_ble_eq_true rfl) (Nat.le_add_right _ _) (Nat.le_add_right _ _) ?_
        refine j_istore hX dX4_readSum_26 (by decide) rfl ?_
        refine j_iload hX dX4_readSum_28 rfl ?_
        refine j_bipush hX dX4_readSum_30 bp_43 ?_
        refine jpc (b := 32) rfl ?_
        refine j_icmp_eq (tgt := 44) hX dX4_readSum_32 (by decide) (fun hc => ?_) (fun hc => ?_)
        · have hf := ifp hc hf
          exact aJx (kX4_readSum_44 hX hr hlk hRf hRl Hgs h0 ih hG  hf) (And.intro rfl (And.intro rfl (And.intro rfl (And.intro rfl (And.intro rfl (rfl))))))
        · have hf := ifn hc hf
          refine j_iload hX dX4_readSum_35 rfl ?_
          refine j_bipush hX dX4_readSum_37 bp_45 ?_
          refine j_icmp_eq (tgt := 44) hX dX4_readSum_39 (by decide) (fun hc => ?_) (fun hc => ?_)
          · have hf := ifp hc hf
            exact aJx (kX4_readSum_44 hX hr hlk hRf hRl Hgs h0 ih hG  hf) (And.intro rfl (And.intro rfl (And.intro rfl (And.intro rfl (And.intro rfl (rfl))))))
          · have hf := ifn hc hf
            refine j_iconst hX dX4_readSum_42 ic_1 ?_
            cases hf
            exact j_ret hX hr hlk rfl dX4_readSum_43
def fX4_readSumb (gs : Nat → Int32 → (Nat → Nat → Int32) → Option ((Int32) × (Nat → Nat → Int32))) (p0 : Nat) (a2 : Int32) (i : Nat → Nat → Int32) : Option ((Int32) × (Nat → Nat → Int32)) := bn2 (fX4_readTerm gs p0 a2 i) fun v1 i2 =>
    fX4_readSum_10 gs p0 fuel a2 v1 0 i2
theorem kX4_readSum  {gs : Nat → Int32 → (Nat → Nat → Int32) → Option ((Int32) × (Nat → Nat → Int32))} {D0 : Nat} {p0 : Nat} {vR : Int32} {iR : Nat → Nat → Int32} (hX : aX p s m args c RX4 cX4_readSum 6 D cA A ad0) (hr : meth.sig.returnType = (some .boolean)) (hlk : meth.locks = false) (hRf : (D0 + 7) ≤ R.frames) (hRl : 64 * (D0 + 7) ≤ R.locals) (Hgs : ∀ {p0 : Nat} {a2 : Int32} {i : Nat → Nat → Int32} {lo : Nat → Nat → Int64} {rv : Nat → Nat → Option Nat} {vR : Int32} {iR : Nat → Nat → Int32}, aGood sh rv → isLaw sh rv p0 → gs p0 a2 i = some (vR, iR) → aM l yX4_readSum cX4_readSum 6 (some .boolean) D0 [.ref (100 + p0), .ref (100 + 1), .int a2] (sh, i, lo, rv) (some (.int vR)) (sh, iR, lo, rv)) (h0 : isLaw sh rv p0) {a2 : Int32} (hG : aGood sh rv) (hf : fX4_readSumb gs p0 a2 i = some (vR, iR)) : aJ p l e R s m args below meth c (MQ below (aPost D cA ad0 A (sh, i0, lo0, rv0) (some (.int vR)) (sh, iR, lo, rv)) args s (sh.length - sh.length) (aSn sh - aSn sh) A) D cA A ad0 6 sh.length (aSn sh) 0 [some (.ref (100 + p0)), some (.ref (100 + 1)), some (.int a2), none, none, none] [] (sh, i, lo, rv) := by
  unfold fX4_readSumb at hf
  refine j_aload_n hX dX4_readSum_0 rfl ?_
  refine j_aload_n hX dX4_readSum_1 rfl ?_
  refine j_iload_n hX dX4_readSum_2 rfl ?_
  obtain ⟨v1, i2, hh3, hf⟩ := bd2 hf
  refine j_cV2i hX lk_X4_66 kX4 dX4_readSum_3 h0.1 (okX4_readTerm Hgs hG h0 hh3) rfl rfl (rmm (by omega) hRf hRl (by decide)) (Nat.le_of_ble_eq_true rfl) (Nat.le_add_right _ _) (Nat.le_add_right _ _) ?_
  refine j_istore_n hX dX4_readSum_6 (by decide) rfl ?_
  refine jpc (b := 7) rfl ?_
  refine j_iconst hX dX4_readSum_7 ic_0 ?_
  refine j_istore hX dX4_readSum_8 (by decide) rfl ?_
  exact aJx (kX4_readSum_10 hX hr hlk hRf hRl Hgs h0 fuel _ _ _ _ hG  hf) (And.intro rfl (And.intro rfl (And.intro rfl (And.intro rfl (And.intro rfl (rfl))))))
theorem okX4_readSumb {l : Launch} {sh : List aSh} {i : Nat → Nat → Int32} {lo : Nat → Nat → Int64} {rv : Nat → Nat → Option Nat} {gs : Nat → Int32 → (Nat → Nat → Int32) → Option ((Int32) × (Nat → Nat → Int32))} {D0 : Nat} (Hgs : ∀ {p0 : Nat} {a2 : Int32} {i : Nat → Nat → Int32} {lo : Nat → Nat → Int64} {rv : Nat → Nat → Option Nat} {vR : Int32} {iR : Nat → Nat → Int32}, aGood sh rv → isLaw sh rv p0 → gs p0 a2 i = some (vR, iR) → aM l yX4_readSum cX4_readSum 6 (some .boolean) D0 [.ref (100 + p0), .ref (100 + 1), .int a2] (sh, i, lo, rv) (some (.int vR)) (sh, iR, lo, rv)) {p0 : Nat} {a2 : Int32} {vR : Int32} {iR : Nat → Nat → Int32} (hG : aGood sh rv) (h0 : isLaw sh rv p0) (hf : fX4_readSumb gs p0 a2 i = some (vR, iR)) : aM l yX4_readSum cX4_readSum 6 (some .boolean) (D0 + 7) [.ref (100 + p0), .ref (100 + 1), .int a2] (sh, i, lo, rv) (some (.int vR)) (sh, iR, lo, rv) :=
  aM_of (by decide) (Nat.le_of_ble_eq_true rfl) (Nat.le_refl _) (Nat.le_refl _) (fun p e s m args below meth c D cA A ad0 hX hr hlk hnm => kX4_readSum hX hr hlk (Nat.le_refl _) (Nat.le_refl _) Hgs h0 hG hf)
def fX4_readSum : Nat → Nat → Int32 → (Nat → Nat → Int32) → Option ((Int32) × (Nat → Nat → Int32))
  | 0, _, _, _ => none
  | n + 1, p0, a2, i => fX4_readSumb (fX4_readSum n) p0 a2 i
theorem okX4_readSum {l : Launch} {sh : List aSh} : ∀ (n : Nat) {p0 : Nat} {a2 : Int32} {i : Nat → Nat → Int32} {lo : Nat → Nat → Int64} {rv : Nat → Nat → Option Nat} {vR : Int32} {iR : Nat → Nat → Int32}, aGood sh rv → isLaw sh rv p0 → fX4_readSum n p0 a2 i = some (vR, iR) → aM l yX4_readSum cX4_readSum 6 (some .boolean) (7 * n) [.ref (100 + p0), .ref (100 + 1), .int a2] (sh, i, lo, rv) (some (.int vR)) (sh, iR, lo, rv) := by
  intro n
  induction n with
  | zero => intros; rename_i hf; cases hf
  | succ n ih =>
    intro _ _ _ _ _ _ _ hG h0 hf
    exact okX4_readSumb (fun hG h0 hf => ih hG h0 hf) hG h0 hf
def fX4_isComparison_18 : Option ((Int32)) := some (1)
theorem kX4_isComparison_18  {vR : Int32} (hX : aX p s m args c RX4 cX4_isComparison 1 D cA A ad0) (hr : meth.sig.returnType = (some .boolean)) (hlk : meth.locks = false) (hRf : 0 ≤ R.frames) (hRl : 64 * 0 ≤ R.locals) (hG : aGood sh rv) (hf : fX4_isComparison_18 = some (vR)) : aJ p l e R s m args below meth c (MQ below (aPost D cA ad0 A (sh, i0, lo0, rv0) (some (.int vR)) (sh, i, lo, rv)) args s (sh.length - sh.length) (aSn sh - aSn sh) A) D cA A ad0 1 sh.length (aSn sh) 18 [none] [] (sh, i, lo, rv) := by
  unfold fX4_isComparison_18 at hf
  refine j_iconst hX dX4_isComparison_18 ic_1 ?_
  refine j_goto (tgt := 23) hX dX4_isComparison_19 (by decide) ?_
  cases hf
  exact j_ret hX hr hlk rfl dX4_isComparison_23
def fX4_isComparison (a0 : Int32) : Option ((Int32)) := if a0 = 61 then (fX4_isComparison_18 ) else (if a0 = 60 then (fX4_isComparison_18 ) else (if a0 = 62 then (fX4_isComparison_18 ) else (some (0))))
theorem kX4_isComparison  {vR : Int32} (hX : aX p s m args c RX4 cX4_isComparison 1 D cA A ad0) (hr : meth.sig.returnType = (some .boolean)) (hlk : meth.locks = false) (hRf : 0 ≤ R.frames) (hRl : 64 * 0 ≤ R.locals) {a0 : Int32} (hG : aGood sh rv) (hf : fX4_isComparison a0 = some (vR)) : aJ p l e R s m args below meth c (MQ below (aPost D cA ad0 A (sh, i0, lo0, rv0) (some (.int vR)) (sh, i, lo, rv)) args s (sh.length - sh.length) (aSn sh - aSn sh) A) D cA A ad0 1 sh.length (aSn sh) 0 [some (.int a0)] [] (sh, i, lo, rv) := by
  unfold fX4_isComparison at hf
  refine j_iload_n hX dX4_isComparison_0 rfl ?_
  refine j_bipush hX dX4_isComparison_1 bp_61 ?_
  refine j_icmp_eq (tgt := 18) hX dX4_isComparison_3 (by decide) (fun hc => ?_) (fun hc => ?_)
  · have hf := ifp hc hf
    exact aJx (kX4_isComparison_18 hX hr hlk hRf hRl hG  hf) (rfl)
  · have hf := ifn hc hf
    refine j_iload_n hX dX4_isComparison_6 rfl ?_
    refine j_bipush hX dX4_isComparison_7 bp_60 ?_
    refine j_icmp_eq (tgt := 18) hX dX4_isComparison_9 (by decide) (fun hc => ?_) (fun hc => ?_)
    · have hf := ifp hc hf
      exact aJx (kX4_isComparison_18 hX hr hlk hRf hRl hG  hf) (rfl)
    · have hf := ifn hc hf
      refine j_iload_n hX dX4_isComparison_12 rfl ?_
      refine j_bipush hX dX4_isComparison_13 bp_62 ?_
      refine j_icmp_ne (tgt := 22) hX dX4_isComparison_15 (by decide) (fun hc => ?_) (fun hc => ?_)
      · have hf := ifn hc hf
        refine j_iconst hX dX4_isComparison_22 ic_0 ?_
        cases hf
        exact j_ret hX hr hlk rfl dX4_isComparison_23
      · have hf := ifp hc hf
        exact aJx (kX4_isComparison_18 hX hr hlk hRf hRl hG  hf) (rfl)
theorem okX4_isComparison {l : Launch} {sh : List aSh} {i : Nat → Nat → Int32} {lo : Nat → Nat → Int64} {rv : Nat → Nat → Option Nat}  {a0 : Int32} {vR : Int32} (hG : aGood sh rv) (hf : fX4_isComparison a0 = some (vR)) : aM l yX4_isComparison cX4_isComparison 1 (some .boolean) 0 [.int a0] (sh, i, lo, rv) (some (.int vR)) (sh, i, lo, rv) :=
  aM_of (by decide) (Nat.le_of_ble_eq_true rfl) (Nat.le_refl _) (Nat.le_refl _) (fun p e s m args below meth c D cA A ad0 hX hr hlk hnm => kX4_isComparison hX hr hlk (Nat.le_refl _) (Nat.le_refl _) hG hf)
def fX4_readTruth_15 (gs : Nat → Int32 → Int32 → (Nat → Nat → Int32) → Option ((Int32) × (Nat → Nat → Int32))) (p0 : Nat) : Nat → Int32 → Int32 → (Nat → Nat → Int32) → Option ((Int32) × (Nat → Nat → Int32))
  | 0, _, _, _ => none
  | n + 1, x2, x4, i => if 240 < x4 then (some (1, i)) else (bn2 (fX10_takes 38 i) fun v4 i5 =>
    if v4 = 0 then (some (1, i5)) else (bn2 (gs p0 x2 0 i5) fun v7 i8 =>
    if v7 = 0 then (some (0, i8)) else (bn1 (fX4_emit p0 (-38) i8) fun i10 =>
    fX4_readTruth_15 gs p0 n x2 (x4 + 1) i10)))
theorem kX4_readTruth_15  {gs : Nat → Int32 → Int32 → (Nat → Nat → Int32) → Option ((Int32) × (Nat → Nat → Int32))} {D0 : Nat} {p0 : Nat} {vR : Int32} {iR : Nat → Nat → Int32} (hX : aX p s m args c RX4 cX4_readTruth 5 D cA A ad0) (hr : meth.sig.returnType = (some .boolean)) (hlk : meth.locks = false) (hRf : (D0 + 2) ≤ R.frames) (hRl : 64 * (D0 + 2) ≤ R.locals) (Hgs : ∀ {p0 : Nat} {a2 : Int32} {a3 : Int32} {i : Nat → Nat → Int32} {lo : Nat → Nat → Int64} {rv : Nat → Nat → Option Nat} {vR : Int32} {iR : Nat → Nat → Int32}, aGood sh rv → isLaw sh rv p0 → gs p0 a2 a3 i = some (vR, iR) → aM l yX4_readUnit cX4_readUnit 7 (some .boolean) D0 [.ref (100 + p0), .ref (100 + 1), .int a2, .int a3] (sh, i, lo, rv) (some (.int vR)) (sh, iR, lo, rv)) (h0 : isLaw sh rv p0) : ∀ (n : Nat) (x2 : Int32) (x4 : Int32) (i : Nat → Nat → Int32), aGood sh rv → fX4_readTruth_15 gs p0 n x2 x4 i = some (vR, iR) → aJ p l e R s m args below meth c (MQ below (aPost D cA ad0 A (sh, i0, lo0, rv0) (some (.int vR)) (sh, iR, lo, rv)) args s (sh.length - sh.length) (aSn sh - aSn sh) A) D cA A ad0 5 sh.length (aSn sh) 15 [some (.ref (100 + p0)), some (.ref (100 + 1)), some (.int x2), none, some (.int x4)] [] (sh, i, lo, rv) := by
  intro n
  induction n with
  | zero => intros; rename_i hf; cases hf
  | succ n ih =>
    intro x2 x4 i hG hf
    rw [fX4_readTruth_15] at hf
    refine j_iload hX dX4_readTruth_15 rfl ?_
    refine j_sipush hX dX4_readTruth_17 sp_240 ?_
    refine j_icmp_gt (tgt := 56) hX dX4_readTruth_20 (by decide) (fun hc => ?_) (fun hc => ?_)
    · have hf := ifp hc hf
      refine j_iconst hX dX4_readTruth_56 ic_1 ?_
      cases hf
      exact j_ret hX hr hlk rfl dX4_readTruth_57
    · have hf := ifn hc hf
      refine j_aload_n hX dX4_readTruth_23 rfl ?_
      refine j_bipush hX dX4_readTruth_24 bp_38 ?_
      obtain ⟨v4, i5, hh6, hf⟩ := bd2 hf
      refine j_cV1i hX lk_X4_35 kX10 dX4_readTruth_26 (sh_1 hG) (okX10_takes hG hh6) rfl rfl (rmm (by omega) hRf hRl (by decide)) (Nat.le_of_ble_eq_true rfl) (Nat.le_add_right _ _) (Nat.le_add_right _ _) ?_
      refine j_if_eq (tgt := 56) hX dX4_readTruth_29 (by decide) (fun hc => ?_) (fun hc => ?_)
      · have hf := ifp hc hf
        refine j_iconst hX dX4_readTruth_56 ic_1 ?_
        cases hf
        exact j_ret hX hr hlk rfl dX4_readTruth_57
      · have hf := ifn hc hf
        refine j_aload_n hX dX4_readTruth_32 rfl ?_
        refine j_aload_n hX dX4_readTruth_33 rfl ?_
        refine j_iload_n hX dX4_readTruth_34 rfl ?_
        refine j_iconst hX dX4_readTruth_35 ic_0 ?_
        obtain ⟨v7, i8, hh9, hf⟩ := bd2 hf
        refine j_cV3i hX lk_X4_60 kX4 dX4_readTruth_36 h0.1 (Hgs hG h0 hh9) rfl rfl (rmm (by omega) hRf hRl (by decide)) (Nat.le_of_ble_eq_true rfl) (Nat.le_add_right _ _) (Nat.le_add_right _ _) ?_
        refine jpc (b := 39) rfl ?_
        refine j_if_ne (tgt := 44) hX dX4_readTruth_39 (by decide) (fun hc => ?_) (fun hc => ?_)
        · have hf := ifn hc hf
          refine j_aload_n hX dX4_readTruth_44 rfl ?_
          refine j_bipush hX dX4_readTruth_45 bp_m38 ?_
          obtain ⟨i10, hh11, hf⟩ := bd1 hf
          refine j_cV1v hX lk_X4_46 kX4 dX4_readTruth_47 h0.1 (okX4_emit hG h0 hh11) rfl rfl (rmm (by omega) hRf hRl (by decide)) (Nat.le_of_ble_eq_true rfl) (Nat.le_add_right _ _) (Nat.le_add_right _ _) ?_
          refine j_iinc hX dX4_readTruth_50 rfl (congrArg (_ + ·) ic_1) (by decide) rfl ?_
          refine j_goto (tgt := 15) hX dX4_readTruth_53 (by decide) ?_
          exact aJx (ih _ _ _ hG  hf) (And.intro rfl (And.intro rfl (And.intro rfl (And.intro rfl (rfl)))))
        · have hf := ifp hc hf
          refine j_iconst hX dX4_readTruth_42 ic_0 ?_
          cases hf
          exact j_ret hX hr hlk rfl dX4_readTruth_43
def fX4_readTruth (gs : Nat → Int32 → Int32 → (Nat → Nat → Int32) → Option ((Int32) × (Nat → Nat → Int32))) (p0 : Nat) (a2 : Int32) (a3 : Int32) (i : Nat → Nat → Int32) : Option ((Int32) × (Nat → Nat → Int32)) := bn2 (gs p0 a2 a3 i) fun v1 i2 =>
    if v1 = 0 then (some (0, i2)) else (fX4_readTruth_15 gs p0 fuel a2 0 i2)
theorem kX4_readTruth  {gs : Nat → Int32 → Int32 → (Nat → Nat → Int32) → Option ((Int32) × (Nat → Nat → Int32))} {D0 : Nat} {p0 : Nat} {vR : Int32} {iR : Nat → Nat → Int32} (hX : aX p s m args c RX4 cX4_readTruth 5 D cA A ad0) (hr : meth.sig.returnType = (some .boolean)) (hlk : meth.locks = false) (hRf : (D0 + 2) ≤ R.frames) (hRl : 64 * (D0 + 2) ≤ R.locals) (Hgs : ∀ {p0 : Nat} {a2 : Int32} {a3 : Int32} {i : Nat → Nat → Int32} {lo : Nat → Nat → Int64} {rv : Nat → Nat → Option Nat} {vR : Int32} {iR : Nat → Nat → Int32}, aGood sh rv → isLaw sh rv p0 → gs p0 a2 a3 i = some (vR, iR) → aM l yX4_readUnit cX4_readUnit 7 (some .boolean) D0 [.ref (100 + p0), .ref (100 + 1), .int a2, .int a3] (sh, i, lo, rv) (some (.int vR)) (sh, iR, lo, rv)) (h0 : isLaw sh rv p0) {a2 : Int32} {a3 : Int32} (hG : aGood sh rv) (hf : fX4_readTruth gs p0 a2 a3 i = some (vR, iR)) : aJ p l e R s m args below meth c (MQ below (aPost D cA ad0 A (sh, i0, lo0, rv0) (some (.int vR)) (sh, iR, lo, rv)) args s (sh.length - sh.length) (aSn sh - aSn sh) A) D cA A ad0 5 sh.length (aSn sh) 0 [some (.ref (100 + p0)), some (.ref (100 + 1)), some (.int a2), some (.int a3), none] [] (sh, i, lo, rv) := by
  unfold fX4_readTruth at hf
  refine j_aload_n hX dX4_readTruth_0 rfl ?_
  refine j_aload_n hX dX4_readTruth_1 rfl ?_
  refine j_iload_n hX dX4_readTruth_2 rfl ?_
  refine j_iload_n hX dX4_readTruth_3 rfl ?_
  obtain ⟨v1, i2, hh3, hf⟩ := bd2 hf
  refine j_cV3i hX lk_X4_60 kX4 dX4_readTruth_4 h0.1 (Hgs hG h0 hh3) rfl rfl (rmm (by omega) hRf hRl (by decide)) (Nat.le_of_ble_eq_true rfl) (Nat.le_add_right _ _) (Nat.le_add_right _ _) ?_
  refine jpc (b := 7) rfl ?_
  refine j_if_ne (tgt := 12) hX dX4_readTruth_7 (by decide) (fun hc => ?_) (fun hc => ?_)
  · have hf := ifn hc hf
    refine j_iconst hX dX4_readTruth_12 ic_0 ?_
    refine j_istore hX dX4_readTruth_13 (by decide) rfl ?_
    exact aJx (kX4_readTruth_15 hX hr hlk hRf hRl Hgs h0 fuel _ _ _ hG  hf) (And.intro rfl (And.intro rfl (And.intro rfl (And.intro rfl (rfl)))))
  · have hf := ifp hc hf
    refine j_iconst hX dX4_readTruth_10 ic_0 ?_
    cases hf
    exact j_ret hX hr hlk rfl dX4_readTruth_11
theorem okX4_readTruth {l : Launch} {sh : List aSh} {i : Nat → Nat → Int32} {lo : Nat → Nat → Int64} {rv : Nat → Nat → Option Nat} {gs : Nat → Int32 → Int32 → (Nat → Nat → Int32) → Option ((Int32) × (Nat → Nat → Int32))} {D0 : Nat} (Hgs : ∀ {p0 : Nat} {a2 : Int32} {a3 : Int32} {i : Nat → Nat → Int32} {lo : Nat → Nat → Int64} {rv : Nat → Nat → Option Nat} {vR : Int32} {iR : Nat → Nat → Int32}, aGood sh rv → isLaw sh rv p0 → gs p0 a2 a3 i = some (vR, iR) → aM l yX4_readUnit cX4_readUnit 7 (some .boolean) D0 [.ref (100 + p0), .ref (100 + 1), .int a2, .int a3] (sh, i, lo, rv) (some (.int vR)) (sh, iR, lo, rv)) {p0 : Nat} {a2 : Int32} {a3 : Int32} {vR : Int32} {iR : Nat → Nat → Int32} (hG : aGood sh rv) (h0 : isLaw sh rv p0) (hf : fX4_readTruth gs p0 a2 a3 i = some (vR, iR)) : aM l yX4_readTruth cX4_readTruth 5 (some .boolean) (D0 + 2) [.ref (100 + p0), .ref (100 + 1), .int a2, .int a3] (sh, i, lo, rv) (some (.int vR)) (sh, iR, lo, rv) :=
  aM_of (by decide) (Nat.le_of_ble_eq_true rfl) (Nat.le_refl _) (Nat.le_refl _) (fun p e s m args below meth c D cA A ad0 hX hr hlk hnm => kX4_readTruth hX hr hlk (Nat.le_refl _) (Nat.le_refl _) Hgs h0 hG hf)
end DC
