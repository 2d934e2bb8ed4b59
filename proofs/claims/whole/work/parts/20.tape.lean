section DC
variable {p : Program} {l : Launch} {e : Env} {R : Room} {s : State} {m : MethodId} {args : Array Value} {below : List Frame} {meth : Method} {c : Code} {D : va_G} {cA : FieldType → ClassId} {A : Nat → Prop} {ad0 : Nat → Nat} {sh : List aSh} {i i0 : Nat → Nat → Int32} {lo lo0 : Nat → Nat → Int64} {rv rv0 : Nat → Nat → Option Nat}
def fX10_signsIn_22 (kh5 : Int32 → Int32 → Int32 → Option ((Int32))) (x0 : Int32) (x1 : Int32) (x2 : Int32) : Option ((Int32)) := kh5 x0 x1 (x2 + (-8))
theorem kX10_signsIn_22  {vR : Int32} (hX : aX p s m args c RX10 cX10_signsIn 3 D cA A ad0) (hr : meth.sig.returnType = (some .int)) (hlk : meth.locks = false) (hRf : 0 ≤ R.frames) (hRl : 64 * 0 ≤ R.locals) {kh5 : Int32 → Int32 → Int32 → Option ((Int32))} (Hkh5 : ∀ (x0 : Int32) (x1 : Int32) (x2 : Int32), aGood sh rv → kh5 x0 x1 x2 = some (vR) → aJ p l e R s m args below meth c (MQ below (aPost D cA ad0 A (sh, i0, lo0, rv0) (some (.int vR)) (sh, i, lo, rv)) args s (sh.length - sh.length) (aSn sh - aSn sh) A) D cA A ad0 3 sh.length (aSn sh) 5 [some (.int x0), some (.int x1), some (.int x2)] [] (sh, i, lo, rv)) {x0 : Int32} {x1 : Int32} {x2 : Int32} (hG : aGood sh rv) (hf : fX10_signsIn_22 kh5 x0 x1 x2 = some (vR)) : aJ p l e R s m args below meth c (MQ below (aPost D cA ad0 A (sh, i0, lo0, rv0) (some (.int vR)) (sh, i, lo, rv)) args s (sh.length - sh.length) (aSn sh - aSn sh) A) D cA A ad0 3 sh.length (aSn sh) 22 [some (.int x0), some (.int x1), some (.int x2)] [] (sh, i, lo, rv) := by
  unfold fX10_signsIn_22 at hf
  refine j_iinc hX dX10_signsIn_22 rfl (congrArg (_ + ·) ic_m8) (by decide) rfl ?_
  refine j_goto (tgt := 5) hX dX10_signsIn_25 (by decide) ?_
  exact Hkh5 _ _ _ hG  hf
def fX10_signsIn_5 : Nat → Int32 → Int32 → Int32 → Option ((Int32))
  | 0, _, _, _ => none
  | n + 1, x0, x1, x2 => if x2 < 0 then (some (x1)) else (if (((x0).toUInt32 >>> ((x2 : Int32).toUInt32 &&& Int32.toUInt32 31)).toInt32 &&& 255) = 0 then (fX10_signsIn_22 (fX10_signsIn_5 n) x0 x1 x2) else (fX10_signsIn_22 (fX10_signsIn_5 n) x0 (x1 + 1) x2))
theorem kX10_signsIn_5  {vR : Int32} (hX : aX p s m args c RX10 cX10_signsIn 3 D cA A ad0) (hr : meth.sig.returnType = (some .int)) (hlk : meth.locks = false) (hRf : 0 ≤ R.frames) (hRl : 64 * 0 ≤ R.locals) : ∀ (n : Nat) (x0 : Int32) (x1 : Int32) (x2 : Int32), aGood sh rv → fX10_signsIn_5 n x0 x1 x2 = some (vR) → aJ p l e R s m args below meth c (MQ below (aPost D cA ad0 A (sh, i0, lo0, rv0) (some (.int vR)) (sh, i, lo, rv)) args s (sh.length - sh.length) (aSn sh - aSn sh) A) D cA A ad0 3 sh.length (aSn sh) 5 [some (.int x0), some (.int x1), some (.int x2)] [] (sh, i, lo, rv) := by
  intro n
  induction n with
  | zero => intros; rename_i hf; cases hf
  | succ n ih =>
    intro x0 x1 x2 hG hf
    rw [fX10_signsIn_5] at hf
    refine j_iload_n hX dX10_signsIn_5 rfl ?_
    refine j_if_lt (tgt := 28) hX dX10_signsIn_6 (by decide) (fun hc => ?_) (fun hc => ?_)
    · have hf := ifp hc hf
      refine j_iload_n hX dX10_signsIn_28 rfl ?_
      cases hf
      exact j_ret hX hr hlk rfl dX10_signsIn_29
    · have hf := ifn hc hf
      refine j_iload_n hX dX10_signsIn_9 rfl ?_
      refine j_iload_n hX dX10_signsIn_10 rfl ?_
      refine j_iushr hX dX10_signsIn_11 ?_
      refine j_sipush hX dX10_signsIn_12 sp_255 ?_
      refine j_iand hX dX10_signsIn_15 ?_
      refine j_if_eq (tgt := 22) hX dX10_signsIn_16 (by decide) (fun hc => ?_) (fun hc => ?_)
      · have hf := ifp hc hf
        exact kX10_signsIn_22 hX hr hlk hRf hRl ih hG  hf
      · have hf := ifn hc hf
        refine j_iinc hX dX10_signsIn_19 rfl (congrArg (_ + ·) ic_1) (by decide) rfl ?_
        exact kX10_signsIn_22 hX hr hlk hRf hRl ih hG  hf
def fX10_signsIn (a0 : Int32) : Option ((Int32)) := fX10_signsIn_5 fuel a0 0 24
theorem kX10_signsIn  {vR : Int32} (hX : aX p s m args c RX10 cX10_signsIn 3 D cA A ad0) (hr : meth.sig.returnType = (some .int)) (hlk : meth.locks = false) (hRf : 0 ≤ R.frames) (hRl : 64 * 0 ≤ R.locals) {a0 : Int32} (hG : aGood sh rv) (hf : fX10_signsIn a0 = some (vR)) : aJ p l e R s m args below meth c (MQ below (aPost D cA ad0 A (sh, i0, lo0, rv0) (some (.int vR)) (sh, i, lo, rv)) args s (sh.length - sh.length) (aSn sh - aSn sh) A) D cA A ad0 3 sh.length (aSn sh) 0 [some (.int a0), none, none] [] (sh, i, lo, rv) := by
  unfold fX10_signsIn at hf
  refine j_iconst hX dX10_signsIn_0 ic_0 ?_
  refine j_istore_n hX dX10_signsIn_1 (by decide) rfl ?_
  refine j_bipush hX dX10_signsIn_2 bp_24 ?_
  refine j_istore_n hX dX10_signsIn_4 (by decide) rfl ?_
  exact kX10_signsIn_5 hX hr hlk hRf hRl fuel _ _ _ hG  hf
theorem okX10_signsIn {l : Launch} {sh : List aSh} {i : Nat → Nat → Int32} {lo : Nat → Nat → Int64} {rv : Nat → Nat → Option Nat}  {a0 : Int32} {vR : Int32} (hG : aGood sh rv) (hf : fX10_signsIn a0 = some (vR)) : aM l yX10_signsIn cX10_signsIn 3 (some .int) 0 [.int a0] (sh, i, lo, rv) (some (.int vR)) (sh, i, lo, rv) :=
  aM_of (by decide) (Nat.le_of_ble_eq_true rfl) (Nat.le_refl _) (Nat.le_refl _) (fun p e s m args below meth c D cA A ad0 hX hr hlk hnm => kX10_signsIn hX hr hlk (Nat.le_refl _) (Nat.le_refl _) hG hf)
def fX10_size (i : Nat → Nat → Int32) : Option ((Int32)) := some ((i 1 1))
theorem kX10_size  {vR : Int32} (hX : aX p s m args c RX10 cX10_size 1 D cA A ad0) (hr : meth.sig.returnType = (some .int)) (hlk : meth.locks = false) (hRf : 0 ≤ R.frames) (hRl : 64 * 0 ≤ R.locals) (hG : aGood sh rv) (hf : fX10_size i = some (vR)) : aJ p l e R s m args below meth c (MQ below (aPost D cA ad0 A (sh, i0, lo0, rv0) (some (.int vR)) (sh, i, lo, rv)) args s (sh.length - sh.length) (aSn sh - aSn sh) A) D cA A ad0 1 sh.length (aSn sh) 0 [some (.ref (100 + 1))] [] (sh, i, lo, rv) := by
  unfold fX10_size at hf
  refine j_aload_n hX dX10_size_0 rfl ?_
  refine j_getI (k := 1) hX kX10 (by decide) fk_X10_15 dX10_size_1 (sh_1 hG) rfl ?_
  cases hf
  exact j_ret hX hr hlk rfl dX10_size_4
theorem okX10_size {l : Launch} {sh : List aSh} {i : Nat → Nat → Int32} {lo : Nat → Nat → Int64} {rv : Nat → Nat → Option Nat}  {vR : Int32} (hG : aGood sh rv) (hf : fX10_size i = some (vR)) : aM l yX10_size cX10_size 1 (some .int) 0 [.ref (100 + 1)] (sh, i, lo, rv) (some (.int vR)) (sh, i, lo, rv) :=
  aM_of (by decide) (Nat.le_of_ble_eq_true rfl) (Nat.le_refl _) (Nat.le_refl _) (fun p e s m args below meth c D cA A ad0 hX hr hlk hnm => kX10_size hX hr hlk (Nat.le_refl _) (Nat.le_refl _) hG hf)
def fX10_add_49 (kh3 : Int32 → Int32 → (Nat → Nat → Int32) → Option ((Nat → Nat → Int32))) (x1 : Int32) (x2 : Int32) (i : Nat → Nat → Int32) : Option ((Nat → Nat → Int32)) := kh3 x1 (x2 + (-8)) i
theorem kX10_add_49  {iR : Nat → Nat → Int32} (hX : aX p s m args c RX10 cX10_add 4 D cA A ad0) (hr : meth.sig.returnType = none) (hlk : meth.locks = false) (hRf : 0 ≤ R.frames) (hRl : 64 * 0 ≤ R.locals) {kh3 : Int32 → Int32 → (Nat → Nat → Int32) → Option ((Nat → Nat → Int32))} (Hkh3 : ∀ (x1 : Int32) (x2 : Int32) (z3 : Option Value) (i : Nat → Nat → Int32), aGood sh rv → kh3 x1 x2 i = some (iR) → aJ p l e R s m args below meth c (MQ below (aPost D cA ad0 A (sh, i0, lo0, rv0) none (sh, iR, lo, rv)) args s (sh.length - sh.length) (aSn sh - aSn sh) A) D cA A ad0 4 sh.length (aSn sh) 3 [some (.ref (100 + 1)), some (.int x1), some (.int x2), z3] [] (sh, i, lo, rv)) {x1 : Int32} {x2 : Int32} {z3 : Option Value} (hG : aGood sh rv) (hf : fX10_add_49 kh3 x1 x2 i = some (iR)) : aJ p l e R s m args below meth c (MQ below (aPost D cA ad0 A (sh, i0, lo0, rv0) none (sh, iR, lo, rv)) args s (sh.length - sh.length) (aSn sh - aSn sh) A) D cA A ad0 4 sh.length (aSn sh) 49 [some (.ref (100 + 1)), some (.int x1), some (.int x2), z3] [] (sh, i, lo, rv) := by
  unfold fX10_add_49 at hf
  refine j_iinc hX dX10_add_49 rfl (congrArg (_ + ·) ic_m8) (by decide) rfl ?_
  refine j_goto (tgt := 3) hX dX10_add_52 (by decide) ?_
  exact Hkh3 _ _ _ _ hG  hf
def fX10_add_3 : Nat → Int32 → Int32 → (Nat → Nat → Int32) → Option ((Nat → Nat → Int32))
  | 0, _, _, _ => none
  | n + 1, x1, x2, i => if x2 < 0 then (some (i)) else (lt (((x1).toUInt32 >>> ((x2 : Int32).toUInt32 &&& Int32.toUInt32 31)).toInt32 &&& 255) fun t1 =>
    if t1 = 0 then (fX10_add_49 (fX10_add_3 n) x1 x2 i) else (if 240 ≤ (i 1 1) then (fX10_add_49 (fX10_add_3 n) x1 x2 i) else (if aIn (i 1 1) 240 = true then
    (lt (u2 i 2 ((i 1 1)).toNatClampNeg t1) fun i2 => lt (u2 i2 1 1 ((i2 1 1) + 1)) fun i3 =>
    fX10_add_49 (fX10_add_3 n) x1 x2 i3) else none)))
theorem kX10_add_3  {iR : Nat → Nat → Int32} (hX : aX p s m args c RX10 cX10_add 4 D cA A ad0) (hr : meth.sig.returnType = none) (hlk : meth.locks = false) (hRf : 0 ≤ R.frames) (hRl : 64 * 0 ≤ R.locals) : ∀ (n : Nat) (x1 : Int32) (x2 : Int32) (z3 : Option Value) (i : Nat → Nat → Int32), aGood sh rv → fX10_add_3 n x1 x2 i = some (iR) → aJ p l e R s m args below meth c (MQ below (aPost D cA ad0 A (sh, i0, lo0, rv0) none (sh, iR, lo, rv)) args s (sh.length - sh.length) (aSn sh - aSn sh) A) D cA A ad0 4 sh.length (aSn sh) 3 [some (.ref (100 + 1)), some (.int x1), some (.int x2), z3] [] (sh, i, lo, rv) := by
  intro n
  induction n with
  | zero => intros; rename_i hf; cases hf
  | succ n ih =>
    intro x1 x2 z3 i hG hf
    rw [fX10_add_3] at hf
    refine j_iload_n hX dX10_add_3 rfl ?_
    refine j_if_lt (tgt := 55) hX dX10_add_4 (by decide) (fun hc => ?_) (fun hc => ?_)
    · have hf := ifp hc hf
      cases hf
      exact j_vret hX hr hlk dX10_add_55
    · have hf := ifn hc hf
      refine j_iload_n hX dX10_add_7 rfl ?_
      refine j_iload_n hX dX10_add_8 rfl ?_
      refine j_iushr hX dX10_add_9 ?_
      refine j_sipush hX dX10_add_10 sp_255 ?_
      refine j_iand hX dX10_add_13 ?_
      have hf := ltd hf
      refine j_istore_n hX dX10_add_14 (by decide) rfl ?_
      refine j_iload_n hX dX10_add_15 rfl ?_
      refine j_if_eq (tgt := 49) hX dX10_add_16 (by decide) (fun hc => ?_) (fun hc => ?_)
      · have hf := ifp hc hf
        exact kX10_add_49 hX hr hlk hRf hRl ih hG  hf
      · have hf := ifn hc hf
        refine j_aload_n hX dX10_add_19 rfl ?_
        refine j_getI (k := 1) hX kX10 (by decide) fk_X10_15 dX10_add_20 (sh_1 hG) rfl ?_
        refine j_sipush hX dX10_add_23 sp_240 ?_
        refine j_icmp_ge (tgt := 49) hX dX10_add_26 (by decide) (fun hc => ?_) (fun hc => ?_)
        · have hf := ifp hc hf
          exact kX10_add_49 hX hr hlk hRf hRl ih hG  hf
        · have hf := ifn hc hf
          refine j_aload_n hX dX10_add_29 rfl ?_
          refine j_getR (k := 0) hX kX10 (by decide) fk_X10_11 (rf_1_0 hG) dX10_add_30 (sh_1 hG) rfl ?_
          refine j_aload_n hX dX10_add_33 rfl ?_
          refine j_getI (k := 1) hX kX10 (by decide) fk_X10_15 dX10_add_34 (sh_1 hG) rfl ?_
          refine j_iload_n hX dX10_add_37 rfl ?_
          obtain ⟨hg, hf⟩ := gd hf
          have hf := ltd hf
          refine j_iast hX (sh_2 hG) hg dX10_add_38 ?_
          refine j_aload_n hX dX10_add_39 rfl ?_
          refine j_dup hX dX10_add_40 rfl ?_
          refine j_getI (k := 1) hX kX10 (by decide) fk_X10_15 dX10_add_41 (sh_1 hG) rfl ?_
          refine j_iconst hX dX10_add_44 ic_1 ?_
          refine j_iadd hX dX10_add_45 ?_
          have hf := ltd hf
          refine j_putI (k := 1) hX kX10 (by decide) fk_X10_15 dX10_add_46 (sh_1 hG) rfl rfl rfl rfl ?_
          exact kX10_add_49 hX hr hlk hRf hRl ih hG  hf
def fX10_add (a1 : Int32) (i : Nat → Nat → Int32) : Option ((Nat → Nat → Int32)) := fX10_add_3 fuel a1 24 i
theorem kX10_add  {iR : Nat → Nat → Int32} (hX : aX p s m args c RX10 cX10_add 4 D cA A ad0) (hr : meth.sig.returnType = none) (hlk : meth.locks = false) (hRf : 0 ≤ R.frames) (hRl : 64 * 0 ≤ R.locals) {a1 : Int32} (hG : aGood sh rv) (hf : fX10_add a1 i = some (iR)) : aJ p l e R s m args below meth c (MQ below (aPost D cA ad0 A (sh, i0, lo0, rv0) none (sh, iR, lo, rv)) args s (sh.length - sh.length) (aSn sh - aSn sh) A) D cA A ad0 4 sh.length (aSn sh) 0 [some (.ref (100 + 1)), some (.int a1), none, none] [] (sh, i, lo, rv) := by
  unfold fX10_add at hf
  refine j_bipush hX dX10_add_0 bp_24 ?_
  refine j_istore_n hX dX10_add_2 (by decide) rfl ?_
  exact kX10_add_3 hX hr hlk hRf hRl fuel _ _ _ _ hG  hf
theorem okX10_add {l : Launch} {sh : List aSh} {i : Nat → Nat → Int32} {lo : Nat → Nat → Int64} {rv : Nat → Nat → Option Nat}  {a1 : Int32} {iR : Nat → Nat → Int32} (hG : aGood sh rv) (hf : fX10_add a1 i = some (iR)) : aM l yX10_add cX10_add 4 none 0 [.ref (100 + 1), .int a1] (sh, i, lo, rv) none (sh, iR, lo, rv) :=
  aM_of (by decide) (Nat.le_of_ble_eq_true rfl) (Nat.le_refl _) (Nat.le_refl _) (fun p e s m args below meth c D cA A ad0 hX hr hlk hnm => kX10_add hX hr hlk (Nat.le_refl _) (Nat.le_refl _) hG hf)
def fX10_cut (a1 : Int32) (i : Nat → Nat → Int32) : Option ((Nat → Nat → Int32)) := lt (u2 i 1 1 a1) fun i1 =>
    some (i1)
theorem kX10_cut  {iR : Nat → Nat → Int32} (hX : aX p s m args c RX10 cX10_cut 2 D cA A ad0) (hr : meth.sig.returnType = none) (hlk : meth.locks = false) (hRf : 0 ≤ R.frames) (hRl : 64 * 0 ≤ R.locals) {a1 : Int32} (hG : aGood sh rv) (hf : fX10_cut a1 i = some (iR)) : aJ p l e R s m args below meth c (MQ below (aPost D cA ad0 A (sh, i0, lo0, rv0) none (sh, iR, lo, rv)) args s (sh.length - sh.length) (aSn sh - aSn sh) A) D cA A ad0 2 sh.length (aSn sh) 0 [some (.ref (100 + 1)), some (.int a1)] [] (sh, i, lo, rv) := by
  unfold fX10_cut at hf
  refine j_aload_n hX dX10_cut_0 rfl ?_
  refine j_iload_n hX dX10_cut_1 rfl ?_
  have hf := ltd hf
  refine j_putI (k := 1) hX kX10 (by decide) fk_X10_15 dX10_cut_2 (sh_1 hG) rfl rfl rfl rfl ?_
  cases hf
  exact j_vret hX hr hlk dX10_cut_5
theorem okX10_cut {l : Launch} {sh : List aSh} {i : Nat → Nat → Int32} {lo : Nat → Nat → Int64} {rv : Nat → Nat → Option Nat}  {a1 : Int32} {iR : Nat → Nat → Int32} (hG : aGood sh rv) (hf : fX10_cut a1 i = some (iR)) : aM l yX10_cut cX10_cut 2 none 0 [.ref (100 + 1), .int a1] (sh, i, lo, rv) none (sh, iR, lo, rv) :=
  aM_of (by decide) (Nat.le_of_ble_eq_true rfl) (Nat.le_refl _) (Nat.le_refl _) (fun p e s m args below meth c D cA A ad0 hX hr hlk hnm => kX10_cut hX hr hlk (Nat.le_refl _) (Nat.le_refl _) hG hf)
def fX10_rewind (i : Nat → Nat → Int32) : Option ((Nat → Nat → Int32)) := lt (u2 i 1 2 0) fun i1 =>
    some (i1)
theorem kX10_rewind  {iR : Nat → Nat → Int32} (hX : aX p s m args c RX10 cX10_rewind 1 D cA A ad0) (hr : meth.sig.returnType = none) (hlk : meth.locks = false) (hRf : 0 ≤ R.frames) (hRl : 64 * 0 ≤ R.locals) (hG : aGood sh rv) (hf : fX10_rewind i = some (iR)) : aJ p l e R s m args below meth c (MQ below (aPost D cA ad0 A (sh, i0, lo0, rv0) none (sh, iR, lo, rv)) args s (sh.length - sh.length) (aSn sh - aSn sh) A) D cA A ad0 1 sh.length (aSn sh) 0 [some (.ref (100 + 1))] [] (sh, i, lo, rv) := by
  unfold fX10_rewind at hf
  refine j_aload_n hX dX10_rewind_0 rfl ?_
  refine j_iconst hX dX10_rewind_1 ic_0 ?_
  have hf := ltd hf
  refine j_putI (k := 2) hX kX10 (by decide) fk_X10_19 dX10_rewind_2 (sh_1 hG) rfl rfl rfl rfl ?_
  cases hf
  exact j_vret hX hr hlk dX10_rewind_5
theorem okX10_rewind {l : Launch} {sh : List aSh} {i : Nat → Nat → Int32} {lo : Nat → Nat → Int64} {rv : Nat → Nat → Option Nat}  {iR : Nat → Nat → Int32} (hG : aGood sh rv) (hf : fX10_rewind i = some (iR)) : aM l yX10_rewind cX10_rewind 1 none 0 [.ref (100 + 1)] (sh, i, lo, rv) none (sh, iR, lo, rv) :=
  aM_of (by decide) (Nat.le_of_ble_eq_true rfl) (Nat.le_refl _) (Nat.le_refl _) (fun p e s m args below meth c D cA A ad0 hX hr hlk hnm => kX10_rewind hX hr hlk (Nat.le_refl _) (Nat.le_refl _) hG hf)
def fX10_ahead_38 (i : Nat → Nat → Int32) : Option ((Int32) × (Nat → Nat → Int32)) := if (i 1 1) ≤ (i 1 2) then (some ((-1), i)) else (if aIn (i 1 2) 240 = true then
    (some ((i 2 ((i 1 2)).toNatClampNeg), i)) else none)
theorem kX10_ahead_38  {vR : Int32} {iR : Nat → Nat → Int32} (hX : aX p s m args c RX10 cX10_ahead 1 D cA A ad0) (hr : meth.sig.returnType = (some .int)) (hlk : meth.locks = false) (hRf : 0 ≤ R.frames) (hRl : 64 * 0 ≤ R.locals) (hG : aGood sh rv) (hf : fX10_ahead_38 i = some (vR, iR)) : aJ p l e R s m args below meth c (MQ below (aPost D cA ad0 A (sh, i0, lo0, rv0) (some (.int vR)) (sh, iR, lo, rv)) args s (sh.length - sh.length) (aSn sh - aSn sh) A) D cA A ad0 1 sh.length (aSn sh) 38 [some (.ref (100 + 1))] [] (sh, i, lo, rv) := by
  unfold fX10_ahead_38 at hf
  refine j_aload_n hX dX10_ahead_38 rfl ?_
  refine j_getI (k := 2) hX kX10 (by decide) fk_X10_19 dX10_ahead_39 (sh_1 hG) rfl ?_
  refine j_aload_n hX dX10_ahead_42 rfl ?_
  refine j_getI (k := 1) hX kX10 (by decide) fk_X10_15 dX10_ahead_43 (sh_1 hG) rfl ?_
  refine j_icmp_ge (tgt := 61) hX dX10_ahead_46 (by decide) (fun hc => ?_) (fun hc => ?_)
  · have hf := ifp hc hf
    refine j_iconst hX dX10_ahead_61 ic_m1 ?_
    cases hf
    exact j_ret hX hr hlk rfl dX10_ahead_62
  · have hf := ifn hc hf
    refine j_aload_n hX dX10_ahead_49 rfl ?_
    refine j_getR (k := 0) hX kX10 (by decide) fk_X10_11 (rf_1_0 hG) dX10_ahead_50 (sh_1 hG) rfl ?_
    refine j_aload_n hX dX10_ahead_53 rfl ?_
    refine j_getI (k := 2) hX kX10 (by decide) fk_X10_19 dX10_ahead_54 (sh_1 hG) rfl ?_
    obtain ⟨hg, hf⟩ := gd hf
    refine j_iald hX (sh_2 hG) hg dX10_ahead_57 ?_
    refine j_goto (tgt := 62) hX dX10_ahead_58 (by decide) ?_
    cases hf
    exact j_ret hX hr hlk rfl dX10_ahead_62
def fX10_ahead_0 : Nat → (Nat → Nat → Int32) → Option ((Int32) × (Nat → Nat → Int32))
  | 0, _ => none
  | n + 1, i => if (i 1 1) ≤ (i 1 2) then (fX10_ahead_38 i) else (if aIn (i 1 2) 240 = true then
    (if (i 2 ((i 1 2)).toNatClampNeg) = 32 then (lt (u2 i 1 2 ((i 1 2) + 1)) fun i1 =>
    fX10_ahead_0 n i1) else (fX10_ahead_38 i)) else none)
theorem kX10_ahead_0  {vR : Int32} {iR : Nat → Nat → Int32} (hX : aX p s m args c RX10 cX10_ahead 1 D cA A ad0) (hr : meth.sig.returnType = (some .int)) (hlk : meth.locks = false) (hRf : 0 ≤ R.frames) (hRl : 64 * 0 ≤ R.locals) : ∀ (n : Nat) (i : Nat → Nat → Int32), aGood sh rv → fX10_ahead_0 n i = some (vR, iR) → aJ p l e R s m args below meth c (MQ below (aPost D cA ad0 A (sh, i0, lo0, rv0) (some (.int vR)) (sh, iR, lo, rv)) args s (sh.length - sh.length) (aSn sh - aSn sh) A) D cA A ad0 1 sh.length (aSn sh) 0 [some (.ref (100 + 1))] [] (sh, i, lo, rv) := by
  intro n
  induction n with
  | zero => intros; rename_i hf; cases hf
  | succ n ih =>
    intro i hG hf
    rw [fX10_ahead_0] at hf
    refine j_aload_n hX dX10_ahead_0 rfl ?_
    refine j_getI (k := 2) hX kX10 (by decide) fk_X10_19 dX10_ahead_1 (sh_1 hG) rfl ?_
    refine j_aload_n hX dX10_ahead_4 rfl ?_
    refine j_getI (k := 1) hX kX10 (by decide) fk_X10_15 dX10_ahead_5 (sh_1 hG) rfl ?_
    refine j_icmp_ge (tgt := 38) hX dX10_ahead_8 (by decide) (fun hc => ?_) (fun hc => ?_)
    · have hf := ifp hc hf
      exact kX10_ahead_38 hX hr hlk hRf hRl hG  hf
    · have hf := ifn hc hf
      refine j_aload_n hX dX10_ahead_11 rfl ?_
      refine j_getR (k := 0) hX kX10 (by decide) fk_X10_11 (rf_1_0 hG) dX10_ahead_12 (sh_1 hG) rfl ?_
      refine j_aload_n hX dX10_ahead_15 rfl ?_
      refine j_getI (k := 2) hX kX10 (by decide) fk_X10_19 dX10_ahead_16 (sh_1 hG) rfl ?_
      obtain ⟨hg, hf⟩ := gd hf
      refine j_iald hX (sh_2 hG) hg dX10_ahead_19 ?_
      refine j_bipush hX dX10_ahead_20 bp_32 ?_
      refine j_icmp_ne (tgt := 38) hX dX10_ahead_22 (by decide) (fun hc => ?_) (fun hc => ?_)
      · have hf := ifn hc hf
        exact kX10_ahead_38 hX hr hlk hRf hRl hG  hf
      · have hf := ifp hc hf
        refine j_aload_n hX dX10_ahead_25 rfl ?_
        refine j_dup hX dX10_ahead_26 rfl ?_
        refine j_getI (k := 2) hX kX10 (by decide) fk_X10_19 dX10_ahead_27 (sh_1 hG) rfl ?_
        refine j_iconst hX dX10_ahead_30 ic_1 ?_
        refine j_iadd hX dX10_ahead_31 ?_
        have hf := ltd hf
        refine j_putI (k := 2) hX kX10 (by decide) fk_X10_19 dX10_ahead_32 (sh_1 hG) rfl rfl rfl rfl ?_
        refine j_goto (tgt := 0) hX dX10_ahead_35 (by decide) ?_
        exact ih  _ hG  hf
def fX10_ahead (i : Nat → Nat → Int32) : Option ((Int32) × (Nat → Nat → Int32)) := fX10_ahead_0 fuel i
theorem kX10_ahead  {vR : Int32} {iR : Nat → Nat → Int32} (hX : aX p s m args c RX10 cX10_ahead 1 D cA A ad0) (hr : meth.sig.returnType = (some .int)) (hlk : meth.locks = false) (hRf : 0 ≤ R.frames) (hRl : 64 * 0 ≤ R.locals) (hG : aGood sh rv) (hf : fX10_ahead i = some (vR, iR)) : aJ p l e R s m args below meth c (MQ below (aPost D cA ad0 A (sh, i0, lo0, rv0) (some (.int vR)) (sh, iR, lo, rv)) args s (sh.length - sh.length) (aSn sh - aSn sh) A) D cA A ad0 1 sh.length (aSn sh) 0 [some (.ref (100 + 1))] [] (sh, i, lo, rv) := by
  unfold fX10_ahead at hf
  exact kX10_ahead_0 hX hr hlk hRf hRl fuel  _ hG  hf
theorem okX10_ahead {l : Launch} {sh : List aSh} {i : Nat → Nat → Int32} {lo : Nat → Nat → Int64} {rv : Nat → Nat → Option Nat}  {vR : Int32} {iR : Nat → Nat → Int32} (hG : aGood sh rv) (hf : fX10_ahead i = some (vR, iR)) : aM l yX10_ahead cX10_ahead 1 (some .int) 0 [.ref (100 + 1)] (sh, i, lo, rv) (some (.int vR)) (sh, iR, lo, rv) :=
  aM_of (by decide) (Nat.le_of_ble_eq_true rfl) (Nat.le_refl _) (Nat.le_refl _) (fun p e s m args below meth c D cA A ad0 hX hr hlk hnm => kX10_ahead hX hr hlk (Nat.le_refl _) (Nat.le_refl _) hG hf)
def fX10_pass (i : Nat → Nat → Int32) : Option ((Nat → Nat → Int32)) := if (i 1 1) ≤ (i 1 2) then (some (i)) else (lt (u2 i 1 2 ((i 1 2) + 1)) fun i1 =>
    some (i1))
theorem kX10_pass  {iR : Nat → Nat → Int32} (hX : aX p s m args c RX10 cX10_pass 1 D cA A ad0) (hr : meth.sig.returnType = none) (hlk : meth.locks = false) (hRf : 0 ≤ R.frames) (hRl : 64 * 0 ≤ R.locals) (hG : aGood sh rv) (hf : fX10_pass i = some (iR)) : aJ p l e R s m args below meth c (MQ below (aPost D cA ad0 A (sh, i0, lo0, rv0) none (sh, iR, lo, rv)) args s (sh.length - sh.length) (aSn sh - aSn sh) A) D cA A ad0 1 sh.length (aSn sh) 0 [some (.ref (100 + 1))] [] (sh, i, lo, rv) := by
  unfold fX10_pass at hf
  refine j_aload_n hX dX10_pass_0 rfl ?_
  refine j_getI (k := 2) hX kX10 (by decide) fk_X10_19 dX10_pass_1 (sh_1 hG) rfl ?_
  refine j_aload_n hX dX10_pass_4 rfl ?_
  refine j_getI (k := 1) hX kX10 (by decide) fk_X10_15 dX10_pass_5 (sh_1 hG) rfl ?_
  refine j_icmp_ge (tgt := 21) hX dX10_pass_8 (by decide) (fun hc => ?_) (fun hc => ?_)
  · have hf := ifp hc hf
    cases hf
    exact j_vret hX hr hlk dX10_pass_21
  · have hf := ifn hc hf
    refine j_aload_n hX dX10_pass_11 rfl ?_
    refine j_dup hX dX10_pass_12 rfl ?_
    refine j_getI (k := 2) hX kX10 (by decide) fk_X10_19 dX10_pass_13 (sh_1 hG) rfl ?_
    refine j_iconst hX dX10_pass_16 ic_1 ?_
    refine j_iadd hX dX10_pass_17 ?_
    have hf := ltd hf
    refine j_putI (k := 2) hX kX10 (by decide) fk_X10_19 dX10_pass_18 (sh_1 hG) rfl rfl rfl rfl ?_
    cases hf
    exact j_vret hX hr hlk dX10_pass_21
theorem okX10_pass {l : Launch} {sh : List aSh} {i : Nat → Nat → Int32} {lo : Nat → Nat → Int64} {rv : Nat → Nat → Option Nat}  {iR : Nat → Nat → Int32} (hG : aGood sh rv) (hf : fX10_pass i = some (iR)) : aM l yX10_pass cX10_pass 1 none 0 [.ref (100 + 1)] (sh, i, lo, rv) none (sh, iR, lo, rv) :=
  aM_of (by decide) (Nat.le_of_ble_eq_true rfl) (Nat.le_refl _) (Nat.le_refl _) (fun p e s m args below meth c D cA A ad0 hX hr hlk hnm => kX10_pass hX hr hlk (Nat.le_refl _) (Nat.le_refl _) hG hf)
def fX10_atDigit (i : Nat → Nat → Int32) : Option ((Int32)) := if (i 1 1) ≤ (i 1 2) then (some (0)) else (if aIn (i 1 2) 240 = true then
    (if (i 2 ((i 1 2)).toNatClampNeg) < 48 then (some (0)) else (if aIn (i 1 2) 240 = true then
    (if 57 < (i 2 ((i 1 2)).toNatClampNeg) then (some (0)) else (some (1))) else none)) else none)
theorem kX10_atDigit  {vR : Int32} (hX : aX p s m args c RX10 cX10_atDigit 1 D cA A ad0) (hr : meth.sig.returnType = (some .boolean)) (hlk : meth.locks = false) (hRf : 0 ≤ R.frames) (hRl : 64 * 0 ≤ R.locals) (hG : aGood sh rv) (hf : fX10_atDigit i = some (vR)) : aJ p l e R s m args below meth c (MQ below (aPost D cA ad0 A (sh, i0, lo0, rv0) (some (.int vR)) (sh, i, lo, rv)) args s (sh.length - sh.length) (aSn sh - aSn sh) A) D cA A ad0 1 sh.length (aSn sh) 0 [some (.ref (100 + 1))] [] (sh, i, lo, rv) := by
  unfold fX10_atDigit at hf
  refine j_aload_n hX dX10_atDigit_0 rfl ?_
  refine j_getI (k := 2) hX kX10 (by decide) fk_X10_19 dX10_atDigit_1 (sh_1 hG) rfl ?_
  refine j_aload_n hX dX10_atDigit_4 rfl ?_
  refine j_getI (k := 1) hX kX10 (by decide) fk_X10_15 dX10_atDigit_5 (sh_1 hG) rfl ?_
  refine j_icmp_ge (tgt := 43) hX dX10_atDigit_8 (by decide) (fun hc => ?_) (fun hc => ?_)
  · have hf := ifp hc hf
    refine j_iconst hX dX10_atDigit_43 ic_0 ?_
    cases hf
    exact j_ret hX hr hlk rfl dX10_atDigit_44
  · have hf := ifn hc hf
    refine j_aload_n hX dX10_atDigit_11 rfl ?_
    refine j_getR (k := 0) hX kX10 (by decide) fk_X10_11 (rf_1_0 hG) dX10_atDigit_12 (sh_1 hG) rfl ?_
    refine j_aload_n hX dX10_atDigit_15 rfl ?_
    refine j_getI (k := 2) hX kX10 (by decide) fk_X10_19 dX10_atDigit_16 (sh_1 hG) rfl ?_
    obtain ⟨hg, hf⟩ := gd hf
    refine j_iald hX (sh_2 hG) hg dX10_atDigit_19 ?_
    refine j_bipush hX dX10_atDigit_20 bp_48 ?_
    refine j_icmp_lt (tgt := 43) hX dX10_atDigit_22 (by decide) (fun hc => ?_) (fun hc => ?_)
    · have hf := ifp hc hf
      refine j_iconst hX dX10_atDigit_43 ic_0 ?_
      cases hf
      exact j_ret hX hr hlk rfl dX10_atDigit_44
    · have hf := ifn hc hf
      refine j_aload_n hX dX10_atDigit_25 rfl ?_
      refine j_getR (k := 0) hX kX10 (by decide) fk_X10_11 (rf_1_0 hG) dX10_atDigit_26 (sh_1 hG) rfl ?_
      refine j_aload_n hX dX10_atDigit_29 rfl ?_
      refine j_getI (k := 2) hX kX10 (by decide) fk_X10_19 dX10_atDigit_30 (sh_1 hG) rfl ?_
      obtain ⟨hg, hf⟩ := gd hf
      refine j_iald hX (sh_2 hG) hg dX10_atDigit_33 ?_
      refine j_bipush hX dX10_atDigit_34 bp_57 ?_
      refine j_icmp_gt (tgt := 43) hX dX10_atDigit_36 (by decide) (fun hc => ?_) (fun hc => ?_)
      · have hf := ifp hc hf
        refine j_iconst hX dX10_atDigit_43 ic_0 ?_
        cases hf
        exact j_ret hX hr hlk rfl dX10_atDigit_44
      · have hf := ifn hc hf
        refine j_iconst hX dX10_atDigit_39 ic_1 ?_
        refine j_goto (tgt := 44) hX dX10_atDigit_40 (by decide) ?_
        cases hf
        exact j_ret hX hr hlk rfl dX10_atDigit_44
theorem okX10_atDigit {l : Launch} {sh : List aSh} {i : Nat → Nat → Int32} {lo : Nat → Nat → Int64} {rv : Nat → Nat → Option Nat}  {vR : Int32} (hG : aGood sh rv) (hf : fX10_atDigit i = some (vR)) : aM l yX10_atDigit cX10_atDigit 1 (some .boolean) 0 [.ref (100 + 1)] (sh, i, lo, rv) (some (.int vR)) (sh, i, lo, rv) :=
  aM_of (by decide) (Nat.le_of_ble_eq_true rfl) (Nat.le_refl _) (Nat.le_refl _) (fun p e s m args below meth c D cA A ad0 hX hr hlk hnm => kX10_atDigit hX hr hlk (Nat.le_refl _) (Nat.le_refl _) hG hf)
def fX10_number_66 (x2 : Int32) (i : Nat → Nat → Int32) : Option ((Int32) × (Nat → Nat → Int32)) := bn1 (fX10_atDigit i) fun v10 =>
    if v10 = 0 then (some (x2, i)) else (some ((-1), i))
theorem kX10_number_66  {vR : Int32} {iR : Nat → Nat → Int32} (hX : aX p s m args c RX10 cX10_number 4 D cA A ad0) (hr : meth.sig.returnType = (some .int)) (hlk : meth.locks = false) (hRf : 1 ≤ R.frames) (hRl : 64 * 1 ≤ R.locals) {x2 : Int32} {z1 : Option Value} {z3 : Option Value} (hG : aGood sh rv) (hf : fX10_number_66 x2 i = some (vR, iR)) : aJ p l e R s m args below meth c (MQ below (aPost D cA ad0 A (sh, i0, lo0, rv0) (some (.int vR)) (sh, iR, lo, rv)) args s (sh.length - sh.length) (aSn sh - aSn sh) A) D cA A ad0 4 sh.length (aSn sh) 66 [some (.ref (100 + 1)), z1, some (.int x2), z3] [] (sh, i, lo, rv) := by
  unfold fX10_number_66 at hf
  refine j_aload_n hX dX10_number_66 rfl ?_
  obtain ⟨v10, hh11, hf⟩ := bd1 hf
  refine j_cV0i hX lk_X10_29 kX10 dX10_number_67 (sh_1 hG) (okX10_atDigit hG hh11) rfl rfl ⟨by omega, by omega⟩ (Nat.le_of_ble_eq_true rfl) (Nat.le_add_right _ _) (Nat.le_add_right _ _) ?_
  refine j_if_eq (tgt := 77) hX dX10_number_70 (by decide) (fun hc => ?_) (fun hc => ?_)
  · have hf := ifp hc hf
    refine j_iload_n hX dX10_number_77 rfl ?_
    cases hf
    exact j_ret hX hr hlk rfl dX10_number_78
  · have hf := ifn hc hf
    refine j_iconst hX dX10_number_73 ic_m1 ?_
    refine j_goto (tgt := 78) hX dX10_number_74 (by decide) ?_
    cases hf
    exact j_ret hX hr hlk rfl dX10_number_78
def fX10_number_20 : Nat → Int32 → Int32 → Int32 → (Nat → Nat → Int32) → Option ((Int32) × (Nat → Nat → Int32))
  | 0, _, _, _, _ => none
  | n + 1, x1, x2, x3, i => if x1 ≤ x3 then (fX10_number_66 x2 i) else (bn1 (fX10_atDigit i) fun v6 =>
    if v6 = 0 then (fX10_number_66 x2 i) else (if aIn (i 1 2) 240 = true then
    (lt (((10 * x2) + (i 2 ((i 1 2)).toNatClampNeg)) - 48) fun t8 =>
    lt (u2 i 1 2 ((i 1 2) + 1)) fun i9 =>
    fX10_number_20 n x1 t8 (x3 + 1) i9) else none))
theorem kX10_number_20  {vR : Int32} {iR : Nat → Nat → Int32} (hX : aX p s m args c RX10 cX10_number 4 D cA A ad0) (hr : meth.sig.returnType = (some .int)) (hlk : meth.locks = false) (hRf : 1 ≤ R.frames) (hRl : 64 * 1 ≤ R.locals) : ∀ (n : Nat) (x1 : Int32) (x2 : Int32) (x3 : Int32) (i : Nat → Nat → Int32), aGood sh rv → fX10_number_20 n x1 x2 x3 i = some (vR, iR) → aJ p l e R s m args below meth c (MQ below (aPost D cA ad0 A (sh, i0, lo0, rv0) (some (.int vR)) (sh, iR, lo, rv)) args s (sh.length - sh.length) (aSn sh - aSn sh) A) D cA A ad0 4 sh.length (aSn sh) 20 [some (.ref (100 + 1)), some (.int x1), some (.int x2), some (.int x3)] [] (sh, i, lo, rv) := by
  intro n
  induction n with
  | zero => intros; rename_i hf; cases hf
  | succ n ih =>
    intro x1 x2 x3 i hG hf
    rw [fX10_number_20] at hf
    refine j_iload_n hX dX10_number_20 rfl ?_
    refine j_iload_n hX dX10_number_21 rfl ?_
    refine j_icmp_ge (tgt := 66) hX dX10_number_22 (by decide) (fun hc => ?_) (fun hc => ?_)
    · have hf := ifp hc hf
      exact kX10_number_66 hX hr hlk hRf hRl hG  hf
    · have hf := ifn hc hf
      refine j_aload_n hX dX10_number_25 rfl ?_
      obtain ⟨v6, hh7, hf⟩ := bd1 hf
      refine j_cV0i hX lk_X10_29 kX10 dX10_number_26 (sh_1 hG) (okX10_atDigit hG hh7) rfl rfl ⟨by omega, by omega⟩ (Nat.le_of_ble_eq_true rfl) (Nat.le_add_right _ _) (Nat.le_add_right _ _) ?_
      refine j_if_eq (tgt := 66) hX dX10_number_29 (by decide) (fun hc => ?_) (fun hc => ?_)
      · have hf := ifp hc hf
        exact kX10_number_66 hX hr hlk hRf hRl hG  hf
      · have hf := ifn hc hf
        refine j_bipush hX dX10_number_32 bp_10 ?_
        refine j_iload_n hX dX10_number_34 rfl ?_
        refine j_imul hX dX10_number_35 ?_
        refine j_aload_n hX dX10_number_36 rfl ?_
        refine j_getR (k := 0) hX kX10 (by decide) fk_X10_11 (rf_1_0 hG) dX10_number_37 (sh_1 hG) rfl ?_
        refine j_aload_n hX dX10_number_40 rfl ?_
        refine j_getI (k := 2) hX kX10 (by decide) fk_X10_19 dX10_number_41 (sh_1 hG) rfl ?_
        obtain ⟨hg, hf⟩ := gd hf
        refine j_iald hX (sh_2 hG) hg dX10_number_44 ?_
        refine j_iadd hX dX10_number_45 ?_
        refine j_bipush hX dX10_number_46 bp_48 ?_
        refine j_isub hX dX10_number_48 ?_
        have hf := ltd hf
        refine j_istore_n hX dX10_number_49 (by decide) rfl ?_
        refine j_aload_n hX dX10_number_50 rfl ?_
        refine j_dup hX dX10_number_51 rfl ?_
        refine j_getI (k := 2) hX kX10 (by decide) fk_X10_19 dX10_number_52 (sh_1 hG) rfl ?_
        refine j_iconst hX dX10_number_55 ic_1 ?_
        refine j_iadd hX dX10_number_56 ?_
        have hf := ltd hf
        refine j_putI (k := 2) hX kX10 (by decide) fk_X10_19 dX10_number_57 (sh_1 hG) rfl rfl rfl rfl ?_
        refine j_iinc hX dX10_number_60 rfl (congrArg (_ + ·) ic_1) (by decide) rfl ?_
        refine j_goto (tgt := 20) hX dX10_number_63 (by decide) ?_
        exact ih _ _ _ _ hG  hf
def fX10_number_17 (x1 : Int32) (s0 : Int32) (i : Nat → Nat → Int32) : Option ((Int32) × (Nat → Nat → Int32)) := fX10_number_20 fuel x1 s0 0 i
theorem kX10_number_17  {vR : Int32} {iR : Nat → Nat → Int32} (hX : aX p s m args c RX10 cX10_number 4 D cA A ad0) (hr : meth.sig.returnType = (some .int)) (hlk : meth.locks = false) (hRf : 1 ≤ R.frames) (hRl : 64 * 1 ≤ R.locals) {x1 : Int32} {s0 : Int32} {z2 : Option Value} {z3 : Option Value} (hG : aGood sh rv) (hf : fX10_number_17 x1 s0 i = some (vR, iR)) : aJ p l e R s m args below meth c (MQ below (aPost D cA ad0 A (sh, i0, lo0, rv0) (some (.int vR)) (sh, iR, lo, rv)) args s (sh.length - sh.length) (aSn sh - aSn sh) A) D cA A ad0 4 sh.length (aSn sh) 17 [some (.ref (100 + 1)), some (.int x1), z2, z3] [.int s0] (sh, i, lo, rv) := by
  unfold fX10_number_17 at hf
  refine j_istore_n hX dX10_number_17 (by decide) rfl ?_
  refine j_iconst hX dX10_number_18 ic_0 ?_
  refine j_istore_n hX dX10_number_19 (by decide) rfl ?_
  exact kX10_number_20 hX hr hlk hRf hRl fuel _ _ _ _ hG  hf
def fX10_number (a1 : Int32) (i : Nat → Nat → Int32) : Option ((Int32) × (Nat → Nat → Int32)) := bn2 (fX10_ahead i) fun v1 i2 =>
    bn1 (fX10_atDigit i2) fun v4 =>
    if v4 = 0 then (fX10_number_17 a1 (-1) i2) else (fX10_number_17 a1 0 i2)
theorem kX10_number  {vR : Int32} {iR : Nat → Nat → Int32} (hX : aX p s m args c RX10 cX10_number 4 D cA A ad0) (hr : meth.sig.returnType = (some .int)) (hlk : meth.locks = false) (hRf : 1 ≤ R.frames) (hRl : 64 * 1 ≤ R.locals) {a1 : Int32} (hG : aGood sh rv) (hf : fX10_number a1 i = some (vR, iR)) : aJ p l e R s m args below meth c (MQ below (aPost D cA ad0 A (sh, i0, lo0, rv0) (some (.int vR)) (sh, iR, lo, rv)) args s (sh.length - sh.length) (aSn sh - aSn sh) A) D cA A ad0 4 sh.length (aSn sh) 0 [some (.ref (100 + 1)), some (.int a1), none, none] [] (sh, i, lo, rv) := by
  unfold fX10_number at hf
  refine j_aload_n hX dX10_number_0 rfl ?_
  obtain ⟨v1, i2, hh3, hf⟩ := bd2 hf
  refine j_cV0i hX lk_X10_22 kX10 dX10_number_1 (sh_1 hG) (okX10_ahead hG hh3) rfl rfl ⟨by omega, by omega⟩ (Nat.le_of_ble_eq_true rfl) (Nat.le_add_right _ _) (Nat.le_add_right _ _) ?_
  refine j_pop hX dX10_number_4 rfl ?_
  refine j_aload_n hX dX10_number_5 rfl ?_
  obtain ⟨v4, hh5, hf⟩ := bd1 hf
  refine j_cV0i hX lk_X10_29 kX10 dX10_number_6 (sh_1 hG) (okX10_atDigit hG hh5) rfl rfl ⟨by omega, by omega⟩ (Nat.le_of_ble_eq_true rfl) (Nat.le_add_right _ _) (Nat.le_add_right _ _) ?_
  refine j_if_eq (tgt := 16) hX dX10_number_9 (by decide) (fun hc => ?_) (fun hc => ?_)
  · have hf := ifp hc hf
    refine j_iconst hX dX10_number_16 ic_m1 ?_
    exact kX10_number_17 hX hr hlk hRf hRl hG  hf
  · have hf := ifn hc hf
    refine j_iconst hX dX10_number_12 ic_0 ?_
    refine j_goto (tgt := 17) hX dX10_number_13 (by decide) ?_
    exact kX10_number_17 hX hr hlk hRf hRl hG  hf
theorem okX10_number {l : Launch} {sh : List aSh} {i : Nat → Nat → Int32} {lo : Nat → Nat → Int64} {rv : Nat → Nat → Option Nat}  {a1 : Int32} {vR : Int32} {iR : Nat → Nat → Int32} (hG : aGood sh rv) (hf : fX10_number a1 i = some (vR, iR)) : aM l yX10_number cX10_number 4 (some .int) 1 [.ref (100 + 1), .int a1] (sh, i, lo, rv) (some (.int vR)) (sh, iR, lo, rv) :=
  aM_of (by decide) (Nat.le_of_ble_eq_true rfl) (Nat.le_refl _) (Nat.le_refl _) (fun p e s m args below meth c D cA A ad0 hX hr hlk hnm => kX10_number hX hr hlk (Nat.le_refl _) (Nat.le_refl _) hG hf)
def fX10_stayAtLastDigit (i : Nat → Nat → Int32) : Option ((Nat → Nat → Int32)) := if (i 1 2) ≤ 0 then (some (i)) else (lt (u2 i 1 2 ((i 1 2) - 1)) fun i1 =>
    some (i1))
theorem kX10_stayAtLastDigit  {iR : Nat → Nat → Int32} (hX : aX p s m args c RX10 cX10_stayAtLastDigit 1 D cA A ad0) (hr : meth.sig.returnType = none) (hlk : meth.locks = false) (hRf : 0 ≤ R.frames) (hRl : 64 * 0 ≤ R.locals) (hG : aGood sh rv) (hf : fX10_stayAtLastDigit i = some (iR)) : aJ p l e R s m args below meth c (MQ below (aPost D cA ad0 A (sh, i0, lo0, rv0) none (sh, iR, lo, rv)) args s (sh.length - sh.length) (aSn sh - aSn sh) A) D cA A ad0 1 sh.length (aSn sh) 0 [some (.ref (100 + 1))] [] (sh, i, lo, rv) := by
  unfold fX10_stayAtLastDigit at hf
  refine j_aload_n hX dX10_stayAtLastDigit_0 rfl ?_
  refine j_getI (k := 2) hX kX10 (by decide) fk_X10_19 dX10_stayAtLastDigit_1 (sh_1 hG) rfl ?_
  refine j_if_le (tgt := 17) hX dX10_stayAtLastDigit_4 (by decide) (fun hc => ?_) (fun hc => ?_)
  · have hf := ifp hc hf
    cases hf
    exact j_vret hX hr hlk dX10_stayAtLastDigit_17
  · have hf := ifn hc hf
    refine j_aload_n hX dX10_stayAtLastDigit_7 rfl ?_
    refine j_dup hX dX10_stayAtLastDigit_8 rfl ?_
    refine j_getI (k := 2) hX kX10 (by decide) fk_X10_19 dX10_stayAtLastDigit_9 (sh_1 hG) rfl ?_
    refine j_iconst hX dX10_stayAtLastDigit_12 ic_1 ?_
    refine j_isub hX dX10_stayAtLastDigit_13 ?_
    have hf := ltd hf
    refine j_putI (k := 2) hX kX10 (by decide) fk_X10_19 dX10_stayAtLastDigit_14 (sh_1 hG) rfl rfl rfl rfl ?_
    cases hf
    exact j_vret hX hr hlk dX10_stayAtLastDigit_17
theorem okX10_stayAtLastDigit {l : Launch} {sh : List aSh} {i : Nat → Nat → Int32} {lo : Nat → Nat → Int64} {rv : Nat → Nat → Option Nat}  {iR : Nat → Nat → Int32} (hG : aGood sh rv) (hf : fX10_stayAtLastDigit i = some (iR)) : aM l yX10_stayAtLastDigit cX10_stayAtLastDigit 1 none 0 [.ref (100 + 1)] (sh, i, lo, rv) none (sh, iR, lo, rv) :=
  aM_of (by decide) (Nat.le_of_ble_eq_true rfl) (Nat.le_refl _) (Nat.le_refl _) (fun p e s m args below meth c D cA A ad0 hX hr hlk hnm => kX10_stayAtLastDigit hX hr hlk (Nat.le_refl _) (Nat.le_refl _) hG hf)
def fX10_takes (a1 : Int32) (i : Nat → Nat → Int32) : Option ((Int32) × (Nat → Nat → Int32)) := bn2 (fX10_ahead i) fun v1 i2 =>
    if v1 = a1 then (bn1 (fX10_pass i2) fun i4 =>
    some (1, i4)) else (some (0, i2))
theorem kX10_takes  {vR : Int32} {iR : Nat → Nat → Int32} (hX : aX p s m args c RX10 cX10_takes 2 D cA A ad0) (hr : meth.sig.returnType = (some .boolean)) (hlk : meth.locks = false) (hRf : 1 ≤ R.frames) (hRl : 64 * 1 ≤ R.locals) {a1 : Int32} (hG : aGood sh rv) (hf : fX10_takes a1 i = some (vR, iR)) : aJ p l e R s m args below meth c (MQ below (aPost D cA ad0 A (sh, i0, lo0, rv0) (some (.int vR)) (sh, iR, lo, rv)) args s (sh.length - sh.length) (aSn sh - aSn sh) A) D cA A ad0 2 sh.length (aSn sh) 0 [some (.ref (100 + 1)), some (.int a1)] [] (sh, i, lo, rv) := by
  unfold fX10_takes at hf
  refine j_aload_n hX dX10_takes_0 rfl ?_
  obtain ⟨v1, i2, hh3, hf⟩ := bd2 hf
  refine j_cV0i hX lk_X10_22 kX10 dX10_takes_1 (sh_1 hG) (okX10_ahead hG hh3) rfl rfl ⟨by omega, by omega⟩ (Nat.le_of_ble_eq_true rfl) (Nat.le_add_right _ _) (Nat.le_add_right _ _) ?_
  refine j_iload_n hX dX10_takes_4 rfl ?_
  refine j_icmp_eq (tgt := 10) hX dX10_takes_5 (by decide) (fun hc => ?_) (fun hc => ?_)
  · have hf := ifp hc hf
    refine j_aload_n hX dX10_takes_10 rfl ?_
    obtain ⟨i4, hh5, hf⟩ := bd1 hf
    refine j_cV0v hX lk_X10_26 kX10 dX10_takes_11 (sh_1 hG) (okX10_pass hG hh5) rfl rfl ⟨by omega, by omega⟩ (Nat.le_of_ble_eq_true rfl) (Nat.le_add_right _ _) (Nat.le_add_right _ _) ?_
    refine j_iconst hX dX10_takes_14 ic_1 ?_
    cases hf
    exact j_ret hX hr hlk rfl dX10_takes_15
  · have hf := ifn hc hf
    refine j_iconst hX dX10_takes_8 ic_0 ?_
    cases hf
    exact j_ret hX hr hlk rfl dX10_takes_9
theorem okX10_takes {l : Launch} {sh : List aSh} {i : Nat → Nat → Int32} {lo : Nat → Nat → Int64} {rv : Nat → Nat → Option Nat}  {a1 : Int32} {vR : Int32} {iR : Nat → Nat → Int32} (hG : aGood sh rv) (hf : fX10_takes a1 i = some (vR, iR)) : aM l yX10_takes cX10_takes 2 (some .boolean) 1 [.ref (100 + 1), .int a1] (sh, i, lo, rv) (some (.int vR)) (sh, iR, lo, rv) :=
  aM_of (by decide) (Nat.le_of_ble_eq_true rfl) (Nat.le_refl _) (Nat.le_refl _) (fun p e s m args below meth c D cA A ad0 hX hr hlk hnm => kX10_takes hX hr hlk (Nat.le_refl _) (Nat.le_refl _) hG hf)
def fX10_digit (i : Nat → Nat → Int32) : Option ((Int32) × (Nat → Nat → Int32)) := bn2 (fX10_ahead i) fun v1 i2 =>
    bn1 (fX10_atDigit i2) fun v4 =>
    if v4 = 0 then (some ((-1), i2)) else (if aIn (i2 1 2) 240 = true then
    (lt ((i2 2 ((i2 1 2)).toNatClampNeg) - 48) fun t6 =>
    lt (u2 i2 1 2 ((i2 1 2) + 1)) fun i7 =>
    some (t6, i7)) else none)
theorem kX10_digit  {vR : Int32} {iR : Nat → Nat → Int32} (hX : aX p s m args c RX10 cX10_digit 2 D cA A ad0) (hr : meth.sig.returnType = (some .int)) (hlk : meth.locks = false) (hRf : 1 ≤ R.frames) (hRl : 64 * 1 ≤ R.locals) (hG : aGood sh rv) (hf : fX10_digit i = some (vR, iR)) : aJ p l e R s m args below meth c (MQ below (aPost D cA ad0 A (sh, i0, lo0, rv0) (some (.int vR)) (sh, iR, lo, rv)) args s (sh.length - sh.length) (aSn sh - aSn sh) A) D cA A ad0 2 sh.length (aSn sh) 0 [some (.ref (100 + 1)), none] [] (sh, i, lo, rv) := by
  unfold fX10_digit at hf
  refine j_aload_n hX dX10_digit_0 rfl ?_
  obtain ⟨v1, i2, hh3, hf⟩ := bd2 hf
  refine j_cV0i hX lk_X10_22 kX10 dX10_digit_1 (sh_1 hG) (okX10_ahead hG hh3) rfl rfl ⟨by omega, by omega⟩ (Nat.le_of_ble_eq_true rfl) (Nat.le_add_right _ _) (Nat.le_add_right _ _) ?_
  refine j_pop hX dX10_digit_4 rfl ?_
  refine j_aload_n hX dX10_digit_5 rfl ?_
  obtain ⟨v4, hh5, hf⟩ := bd1 hf
  refine j_cV0i hX lk_X10_29 kX10 dX10_digit_6 (sh_1 hG) (okX10_atDigit hG hh5) rfl rfl ⟨by omega, by omega⟩ (Nat.le_of_ble_eq_true rfl) (Nat.le_add_right _ _) (Nat.le_add_right _ _) ?_
  refine j_if_ne (tgt := 14) hX dX10_digit_9 (by decide) (fun hc => ?_) (fun hc => ?_)
  · have hf := ifn hc hf
    refine j_aload_n hX dX10_digit_14 rfl ?_
    refine j_getR (k := 0) hX kX10 (by decide) fk_X10_11 (rf_1_0 hG) dX10_digit_15 (sh_1 hG) rfl ?_
    refine j_aload_n hX dX10_digit_18 rfl ?_
    refine j_getI (k := 2) hX kX10 (by decide) fk_X10_19 dX10_digit_19 (sh_1 hG) rfl ?_
    obtain ⟨hg, hf⟩ := gd hf
    refine j_iald hX (sh_2 hG) hg dX10_digit_22 ?_
    refine j_bipush hX dX10_digit_23 bp_48 ?_
    refine j_isub hX dX10_digit_25 ?_
    have hf := ltd hf
    refine j_istore_n hX dX10_digit_26 (by decide) rfl ?_
    refine j_aload_n hX dX10_digit_27 rfl ?_
    refine j_dup hX dX10_digit_28 rfl ?_
    refine j_getI (k := 2) hX kX10 (by decide) fk_X10_19 dX10_digit_29 (sh_1 hG) rfl ?_
    refine j_iconst hX dX10_digit_32 ic_1 ?_
    refine j_iadd hX dX10_digit_33 ?_
    have hf := ltd hf
    refine j_putI (k := 2) hX kX10 (by decide) fk_X10_19 dX10_digit_34 (sh_1 hG) rfl rfl rfl rfl ?_
    refine j_iload_n hX dX10_digit_37 rfl ?_
    cases hf
    exact j_ret hX hr hlk rfl dX10_digit_38
  · have hf := ifp hc hf
    refine j_iconst hX dX10_digit_12 ic_m1 ?_
    cases hf
    exact j_ret hX hr hlk rfl dX10_digit_13
theorem okX10_digit {l : Launch} {sh : List aSh} {i : Nat → Nat → Int32} {lo : Nat → Nat → Int64} {rv : Nat → Nat → Option Nat}  {vR : Int32} {iR : Nat → Nat → Int32} (hG : aGood sh rv) (hf : fX10_digit i = some (vR, iR)) : aM l yX10_digit cX10_digit 2 (some .int) 1 [.ref (100 + 1)] (sh, i, lo, rv) (some (.int vR)) (sh, iR, lo, rv) :=
  aM_of (by decide) (Nat.le_of_ble_eq_true rfl) (Nat.le_refl _) (Nat.le_refl _) (fun p e s m args below meth c D cA A ad0 hX hr hlk hnm => kX10_digit hX hr hlk (Nat.le_refl _) (Nat.le_refl _) hG hf)
def fX10_at (i : Nat → Nat → Int32) : Option ((Int32)) := some ((i 1 2))
theorem kX10_at  {vR : Int32} (hX : aX p s m args c RX10 cX10_at 1 D cA A ad0) (hr : meth.sig.returnType = (some .int)) (hlk : meth.locks = false) (hRf : 0 ≤ R.frames) (hRl : 64 * 0 ≤ R.locals) (hG : aGood sh rv) (hf : fX10_at i = some (vR)) : aJ p l e R s m args below meth c (MQ below (aPost D cA ad0 A (sh, i0, lo0, rv0) (some (.int vR)) (sh, i, lo, rv)) args s (sh.length - sh.length) (aSn sh - aSn sh) A) D cA A ad0 1 sh.length (aSn sh) 0 [some (.ref (100 + 1))] [] (sh, i, lo, rv) := by
  unfold fX10_at at hf
  refine j_aload_n hX dX10_at_0 rfl ?_
  refine j_getI (k := 2) hX kX10 (by decide) fk_X10_19 dX10_at_1 (sh_1 hG) rfl ?_
  cases hf
  exact j_ret hX hr hlk rfl dX10_at_4
theorem okX10_at {l : Launch} {sh : List aSh} {i : Nat → Nat → Int32} {lo : Nat → Nat → Int64} {rv : Nat → Nat → Option Nat}  {vR : Int32} (hG : aGood sh rv) (hf : fX10_at i = some (vR)) : aM l yX10_at cX10_at 1 (some .int) 0 [.ref (100 + 1)] (sh, i, lo, rv) (some (.int vR)) (sh, i, lo, rv) :=
  aM_of (by decide) (Nat.le_of_ble_eq_true rfl) (Nat.le_refl _) (Nat.le_refl _) (fun p e s m args below meth c D cA A ad0 hX hr hlk hnm => kX10_at hX hr hlk (Nat.le_refl _) (Nat.le_refl _) hG hf)
end DC
