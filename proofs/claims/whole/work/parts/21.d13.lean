/-! decompiled: X12_tonight X12_lookAt X12_areSo X12_wayOf X12_fit X12_best X12_heads X12_troubleOf X12_goGive X12_give X12_between X12_favourOf X12_favour -/
section DC
variable {p : Program} {l : Launch} {e : Env} {R : Room} {s : State} {m : MethodId} {args : Array Value} {below : List Frame} {meth : Method} {c : Code} {D : va_G} {cA : FieldType → ClassId} {A : Nat → Prop} {ad0 : Nat → Nat} {sh : List aSh} {i i0 : Nat → Nat → Int32} {lo lo0 : Nat → Nat → Int64} {rv rv0 : Nat → Nat → Option Nat}
def fX12_tonight_48 (kh19 : Int32 → Int32 → Int32 → (Nat → Nat → Int32) → (Nat → Nat → Option Nat) → Option ((Int32) × (Nat → Nat → Int32) × (Nat → Nat → Option Nat))) (x1 : Int32) (x3 : Int32) (s0 : Int32) (s1 : Int32) (i : Nat → Nat → Int32) (rv : Nat → Nat → Option Nat) : Option ((Int32) × (Nat → Nat → Int32) × (Nat → Nat → Option Nat)) := kh19 x1 (s0 + s1) (x3 + 1) i rv
theorem kX12_tonight_48  {vR : Int32} {iR : Nat → Nat → Int32} {rvR : Nat → Nat → Option Nat} (hX : aX p s m args c RX12 cX12_tonight 4 D cA A ad0) (hr : meth.sig.returnType = (some .int)) (hlk : meth.locks = false) (hRf : 1151 ≤ R.frames) (hRl : 64 * 1151 ≤ R.locals) {kh19 : Int32 → Int32 → Int32 → (Nat → Nat → Int32) → (Nat → Nat → Option Nat) → Option ((Int32) × (Nat → Nat → Int32) × (Nat → Nat → Option Nat))} (Hkh19 : ∀ (x1 : Int32) (x2 : Int32) (x3 : Int32) (i : Nat → Nat → Int32) (rv : Nat → Nat → Option Nat), aGood sh rv → kh19 x1 x2 x3 i rv = some (vR, iR, rvR) → aJ p l e R s m args below meth c (MQ below (aPost D cA ad0 A (sh, i0, lo0, rv0) (some (.int vR)) (sh, iR, lo, rvR)) args s (sh.length - sh.length) (aSn sh - aSn sh) A) D cA A ad0 4 sh.length (aSn sh) 19 [some (.ref (100 + 50)), some (.int x1), some (.int x2), some (.int x3)] [] (sh, i, lo, rv)) {x1 : Int32} {x3 : Int32} {s0 : Int32} {s1 : Int32} (hG : aGood sh rv) (hf : fX12_tonight_48 kh19 x1 x3 s0 s1 i rv = some (vR, iR, rvR)) : aJ p l e R s m args below meth c (MQ below (aPost D cA ad0 A (sh, i0, lo0, rv0) (some (.int vR)) (sh, iR, lo, rvR)) args s (sh.length - sh.length) (aSn sh - aSn sh) A) D cA A ad0 4 sh.length (aSn sh) 48 [some (.ref (100 + 50)), some (.int x1), none, some (.int x3)] [.int s1, .int s0] (sh, i, lo, rv) := by
  unfold fX12_tonight_48 at hf
  refine j_iadd hX dX12_tonight_48 ?_
  refine j_istore_n hX dX12_tonight_49 (by decide) rfl ?_
  refine j_iinc hX dX12_tonight_50 rfl (congrArg (_ + ·) ic_1) (by decide) rfl ?_
  refine j_goto (tgt := 19) hX dX12_tonight_53 (by decide) ?_
  exact aJx (Hkh19 _ _ _ _ _ hG  hf) (And.intro rfl (And.intro rfl (And.intro rfl (And.intro rfl (rfl)))))
theorem gX12_tonight_48 {vR : Int32} {iR : Nat → Nat → Int32} {rvR : Nat → Nat → Option Nat} {kh19 : Int32 → Int32 → Int32 → (Nat → Nat → Int32) → (Nat → Nat → Option Nat) → Option ((Int32) × (Nat → Nat → Int32) × (Nat → Nat → Option Nat))} (Hkh19 : ∀ (x1 : Int32) (x2 : Int32) (x3 : Int32) (i : Nat → Nat → Int32) (rv : Nat → Nat → Option Nat), aGood sh rv → kh19 x1 x2 x3 i rv = some (vR, iR, rvR) → aGood sh rvR) {x1 : Int32} {x3 : Int32} {s0 : Int32} {s1 : Int32} (hG : aGood sh rv) (hf : fX12_tonight_48 kh19 x1 x3 s0 s1 i rv = some (vR, iR, rvR)) : aGood sh rvR := by
  unfold fX12_tonight_48 at hf
  exact Hkh19 _ _ _ _ _ hG  hf
def fX12_tonight_68 (i : Nat → Nat → Int32) (rv : Nat → Nat → Option Nat) : Option ((Int32) × (Nat → Nat → Int32) × (Nat → Nat → Option Nat)) := some (0, i, rv)
theorem kX12_tonight_68  {vR : Int32} {iR : Nat → Nat → Int32} {rvR : Nat → Nat → Option Nat} (hX : aX p s m args c RX12 cX12_tonight 4 D cA A ad0) (hr : meth.sig.returnType = (some .int)) (hlk : meth.locks = false) (hRf : 1151 ≤ R.frames) (hRl : 64 * 1151 ≤ R.locals) (hG : aGood sh rv) (hf : fX12_tonight_68 i rv = some (vR, iR, rvR)) : aJ p l e R s m args below meth c (MQ below (aPost D cA ad0 A (sh, i0, lo0, rv0) (some (.int vR)) (sh, iR, lo, rvR)) args s (sh.length - sh.length) (aSn sh - aSn sh) A) D cA A ad0 4 sh.length (aSn sh) 68 [none, none, none, none] [] (sh, i, lo, rv) := by
  unfold fX12_tonight_68 at hf
  refine j_iconst hX dX12_tonight_68 ic_0 ?_
  refine j_goto (tgt := 86) hX dX12_tonight_69 (by decide) ?_
  cases hf
  exact j_ret hX hr hlk rfl dX12_tonight_86
theorem gX12_tonight_68 {vR : Int32} {iR : Nat → Nat → Int32} {rvR : Nat → Nat → Option Nat} (hG : aGood sh rv) (hf : fX12_tonight_68 i rv = some (vR, iR, rvR)) : aGood sh rvR := by
  unfold fX12_tonight_68 at hf
  cases hf
  exact hG
def fX12_tonight_19 : Nat → Int32 → Int32 → Int32 → (Nat → Nat → Int32) → (Nat → Nat → Option Nat) → Option ((Int32) × (Nat → Nat → Int32) × (Nat → Nat → Option Nat))
  | 0, _, _, _, _, _ => none
  | n + 1, x1, x2, x3, i, rv => if (i 50 27) ≤ x3 then (if x2 = 0 then (fX12_tonight_68 i rv) else (bn3 (fX12_couldBe x1 i rv) fun v4 i5 rv6 =>
    if v4 = 0 then (fX12_tonight_68 i5 rv6) else (if aIn ((4 : Int32) * x1) 16 = true then
    (if x2 = 0 then none else
    some ((((1000000 : Int32) * (i5 59 (((4 : Int32) * x1) : Int32).toNatClampNeg)) / x2), i5, rv6)) else none))) else (bn3 (fX12_couldBe x3 i rv) fun v8 i9 rv10 =>
    if v8 = 0 then (fX12_tonight_48 (fX12_tonight_19 n) x1 x3 x2 0 i9 rv10) else (if aIn ((4 : Int32) * x3) 16 = true then
    (fX12_tonight_48 (fX12_tonight_19 n) x1 x3 x2 (i9 59 (((4 : Int32) * x3) : Int32).toNatClampNeg) i9 rv10) else none))
theorem kX12_tonight_19  {vR : Int32} {iR : Nat → Nat → Int32} {rvR : Nat → Nat → Option Nat} (hX : aX p s m args c RX12 cX12_tonight 4 D cA A ad0) (hr : meth.sig.returnType = (some .int)) (hlk : meth.locks = false) (hRf : 1151 ≤ R.frames) (hRl : 64 * 1151 ≤ R.locals) : ∀ (n : Nat) (x1 : Int32) (x2 : Int32) (x3 : Int32) (i : Nat → Nat → Int32) (rv : Nat → Nat → Option Nat), aGood sh rv → fX12_tonight_19 n x1 x2 x3 i rv = some (vR, iR, rvR) → aJ p l e R s m args below meth c (MQ below (aPost D cA ad0 A (sh, i0, lo0, rv0) (some (.int vR)) (sh, iR, lo, rvR)) args s (sh.length - sh.length) (aSn sh - aSn sh) A) D cA A ad0 4 sh.length (aSn sh) 19 [some (.ref (100 + 50)), some (.int x1), some (.int x2), some (.int x3)] [] (sh, i, lo, rv) := by
  intro n
  induction n with
  | zero => intros; rename_i hf; cases hf
  | succ n ih =>
    intro x1 x2 x3 i rv hG hf
    rw [fX12_tonight_19] at hf
    refine j_iload_n hX dX12_tonight_19 rfl ?_
    refine j_aload_n hX dX12_tonight_20 rfl ?_
    refine j_getI (k := 27) hX kX12 (by decide) fk_X12_300 dX12_tonight_21 (sh_50 hG) rfl ?_
    refine j_icmp_ge (tgt := 56) hX dX12_tonight_24 (by decide) (fun hc => ?_) (fun hc => ?_)
    · have hf := ifp hc hf
      refine j_iload_n hX dX12_tonight_56 rfl ?_
      refine j_if_eq (tgt := 68) hX dX12_tonight_57 (by decide) (fun hc => ?_) (fun hc => ?_)
      · have hf := ifp hc hf
        exact aJx (kX12_tonight_68 hX hr hlk hRf hRl hG  hf) (rfl)
      · have hf := ifn hc hf
        refine j_aload_n hX dX12_tonight_60 rfl ?_
        refine j_iload_n hX dX12_tonight_61 rfl ?_
        obtain ⟨v4, i5, rv6, hh7, hf⟩ := bd3 hf
        refine j_cV1i hX lk_X12_472 kX12 dX12_tonight_62 (sh_50 hG) (okX12_couldBe hG hh7) rfl rfl (rmm (by omega) hRf hRl (by decide)) (Nat.le_of_ble_eq_true rfl) (Nat.le_add_right _ _) (Nat.le_add_right _ _) ?_
        have hG := gdX12_couldBe hG hh7
        refine j_if_ne (tgt := 72) hX dX12_tonight_65 (by decide) (fun hc => ?_) (fun hc => ?_)
        · have hf := ifn hc hf
          refine j_ldc_w hX kc_X12_475 dX12_tonight_72 ?_
          refine j_aload_n hX dX12_tonight_75 rfl ?_
          refine j_getR (k := 22) hX kX12 (by decide) fk_X12_49 (rf_50_22 hG) dX12_tonight_76 (sh_50 hG) rfl ?_
          refine j_iconst hX dX12_tonight_79 ic_4 ?_
          refine j_iload_n hX dX12_tonight_80 rfl ?_
          refine jpc (b := 81) rfl ?_
          refine j_imul hX dX12_tonight_81 ?_
          obtain ⟨hg, hf⟩ := gd hf
          refine j_iald hX (sh_59 hG) hg dX12_tonight_82 ?_
          refine j_imul hX dX12_tonight_83 ?_
          refine j_iload_n hX dX12_tonight_84 rfl ?_
          obtain ⟨hz, hf⟩ := gdn hf
          refine j_idiv hX dX12_tonight_85 hz ?_
          cases hf
          exact j_ret hX hr hlk rfl dX12_tonight_86
        · have hf := ifp hc hf
          exact aJx (kX12_tonight_68 hX hr hlk hRf hRl hG  hf) (rfl)
    · have hf := ifn hc hf
      refine j_iload_n hX dX12_tonight_27 rfl ?_
      refine j_aload_n hX dX12_tonight_28 rfl ?_
      refine j_iload_n hX dX12_tonight_29 rfl ?_
      obtain ⟨v8, i9, rv10, hh11, hf⟩ := bd3 hf
      refine j_cV1i hX lk_X12_472 kX12 dX12_tonight_30 (sh_50 hG) (okX12_couldBe hG hh11) rfl rfl (rmm (by omega) hRf hRl (by decide)) (Nat.le_of_ble_eq_true rfl) (Nat.le_add_right _ _) (Nat.le_add_right _ _) ?_
      have hG := gdX12_couldBe hG hh11
      refine j_if_eq (tgt := 47) hX dX12_tonight_33 (by decide) (fun hc => ?_) (fun hc => ?_)
      · have hf := ifp hc hf
        refine j_iconst hX dX12_tonight_47 ic_0 ?_
        exact aJx (kX12_tonight_48 hX hr hlk hRf hRl ih hG  hf) (And.intro rfl (And.intro rfl (And.intro rfl (rfl))))
      · have hf := ifn hc hf
        refine j_aload_n hX dX12_tonight_36 rfl ?_
        refine j_getR (k := 22) hX kX12 (by decide) fk_X12_49 (rf_50_22 hG) dX12_tonight_37 (sh_50 hG) rfl ?_
        refine j_iconst hX dX12_tonight_40 ic_4 ?_
        refine j_iload_n hX dX12_tonight_41 rfl ?_
        refine j_imul hX dX12_tonight_42 ?_
        refine jpc (b := 43) rfl ?_
        obtain ⟨hg, hf⟩ := gd hf
        refine j_iald hX (sh_59 hG) hg dX12_tonight_43 ?_
        refine j_goto (tgt := 48) hX dX12_tonight_44 (by decide) ?_
        exact aJx (kX12_tonight_48 hX hr hlk hRf hRl ih hG  hf) (And.intro rfl (And.intro rfl (And.intro rfl (rfl))))
theorem gX12_tonight_19 {vR : Int32} {iR : Nat → Nat → Int32} {rvR : Nat → Nat → Option Nat} : ∀ (n : Nat) (x1 : Int32) (x2 : Int32) (x3 : Int32) (i : Nat → Nat → Int32) (rv : Nat → Nat → Option Nat), aGood sh rv → fX12_tonight_19 n x1 x2 x3 i rv = some (vR, iR, rvR) → aGood sh rvR := by
  intro n
  induction n with
  | zero => intros; rename_i hf; cases hf
  | succ n ih =>
    intro x1 x2 x3 i rv hG hf
    rw [fX12_tonight_19] at hf
    refine ifs hf (fun hc hf => ?_) (fun hc hf => ?_)
    · have hf := hf
      refine ifs hf (fun hc hf => ?_) (fun hc hf => ?_)
      · have hf := hf
        exact gX12_tonight_68 hG  hf
      · have hf := hf
        obtain ⟨v4, i5, rv6, hh7, hf⟩ := bd3 hf
        have hG := gdX12_couldBe hG hh7
        refine ifs2 hf (fun hc hf => ?_) (fun hc hf => ?_)
        · have hf := hf
          obtain ⟨hg, hf⟩ := gd hf
          obtain ⟨hz, hf⟩ := gdn hf
          cases hf
          exact hG
        · have hf := hf
          exact gX12_tonight_68 hG  hf
    · have hf := hf
      obtain ⟨v8, i9, rv10, hh11, hf⟩ := bd3 hf
      have hG := gdX12_couldBe hG hh11
      refine ifs hf (fun hc hf => ?_) (fun hc hf => ?_)
      · have hf := hf
        exact gX12_tonight_48 ih hG  hf
      · have hf := hf
        obtain ⟨hg, hf⟩ := gd hf
        exact gX12_tonight_48 ih hG  hf
def fX12_tonight (a1 : Int32) (i : Nat → Nat → Int32) (rv : Nat → Nat → Option Nat) : Option ((Int32) × (Nat → Nat → Int32) × (Nat → Nat → Option Nat)) := lt (u2 i 50 0 0) fun i1 =>
    bn1 (fX12_isOfficer a1 i1) fun v2 =>
    if v2 = 0 then (some ((-1), i1, rv)) else (fX12_tonight_19 fuel a1 0 0 i1 rv)
theorem kX12_tonight  {vR : Int32} {iR : Nat → Nat → Int32} {rvR : Nat → Nat → Option Nat} (hX : aX p s m args c RX12 cX12_tonight 4 D cA A ad0) (hr : meth.sig.returnType = (some .int)) (hlk : meth.locks = false) (hRf : 1151 ≤ R.frames) (hRl : 64 * 1151 ≤ R.locals) {a1 : Int32} (hG : aGood sh rv) (hf : fX12_tonight a1 i rv = some (vR, iR, rvR)) : aJ p l e R s m args below meth c (MQ below (aPost D cA ad0 A (sh, i0, lo0, rv0) (some (.int vR)) (sh, iR, lo, rvR)) args s (sh.length - sh.length) (aSn sh - aSn sh) A) D cA A ad0 4 sh.length (aSn sh) 0 [some (.ref (100 + 50)), some (.int a1), none, none] [] (sh, i, lo, rv) := by
  unfold fX12_tonight at hf
  refine j_aload_n hX dX12_tonight_0 rfl ?_
  refine j_iconst hX dX12_tonight_1 ic_0 ?_
  have hf := ltd hf
  refine j_putI (k := 0) hX kX12 (by decide) fk_X12_99 dX12_tonight_2 (sh_50 hG) rfl rfl rfl rfl ?_
  refine j_aload_n hX dX12_tonight_5 rfl ?_
  refine j_iload_n hX dX12_tonight_6 rfl ?_
  refine jpc (b := 7) rfl ?_
  obtain ⟨v2, hh3, hf⟩ := bd1 hf
  refine j_cV1i hX lk_X12_374 kX12 dX12_tonight_7 (sh_50 hG) (okX12_isOfficer hG hh3) rfl rfl (rmm (by omega) hRf hRl (by decide)) (Nat.le_of_ble_eq_true rfl) (Nat.le_add_right _ _) (Nat.le_add_right _ _) ?_
  refine j_if_ne (tgt := 15) hX dX12_tonight_10 (by decide) (fun hc => ?_) (fun hc => ?_)
  · have hf := ifn hc hf
    refine j_iconst hX dX12_tonight_15 ic_0 ?_
    refine j_istore_n hX dX12_tonight_16 (by decide) rfl ?_
    refine j_iconst hX dX12_tonight_17 ic_0 ?_
    refine j_istore_n hX dX12_tonight_18 (by decide) rfl ?_
    exact aJx (kX12_tonight_19 hX hr hlk hRf hRl fuel _ _ _ _ _ hG  hf) (And.intro rfl (And.intro rfl (And.intro rfl (And.intro rfl (rfl)))))
  · have hf := ifp hc hf
    refine j_iconst hX dX12_tonight_13 ic_m1 ?_
    cases hf
    exact j_ret hX hr hlk rfl dX12_tonight_14
theorem gdX12_tonight {vR : Int32} {iR : Nat → Nat → Int32} {rvR : Nat → Nat → Option Nat} {a1 : Int32} (hG : aGood sh rv) (hf : fX12_tonight a1 i rv = some (vR, iR, rvR)) : aGood sh rvR := by
  unfold fX12_tonight at hf
  have hf := ltd hf
  obtain ⟨v2, hh3, hf⟩ := bd1 hf
  refine ifs2 hf (fun hc hf => ?_) (fun hc hf => ?_)
  · have hf := hf
    exact gX12_tonight_19 fuel _ _ _ _ _ hG  hf
  · have hf := hf
    cases hf
    exact hG
theorem okX12_tonight {l : Launch} {sh : List aSh} {i : Nat → Nat → Int32} {lo : Nat → Nat → Int64} {rv : Nat → Nat → Option Nat}  {a1 : Int32} {vR : Int32} {iR : Nat → Nat → Int32} {rvR : Nat → Nat → Option Nat} (hG : aGood sh rv) (hf : fX12_tonight a1 i rv = some (vR, iR, rvR)) : aM l yX12_tonight cX12_tonight 4 (some .int) 1151 [.ref (100 + 50), .int a1] (sh, i, lo, rv) (some (.int vR)) (sh, iR, lo, rvR) :=
  aM_of (by decide) (Nat.le_of_ble_eq_true rfl) (Nat.le_refl _) (Nat.le_refl _) (fun p e s m args below meth c D cA A ad0 hX hr hlk hnm => kX12_tonight hX hr hlk (Nat.le_refl _) (Nat.le_refl _) hG hf)
def fX12_lookAt (a1 : Int32) (a2 : Int32) (i : Nat → Nat → Int32) : Option ((Int32) × (Nat → Nat → Int32)) := lt (u2 i 50 0 0) fun i1 =>
    bn1 (fX12_isSleeper a1 i1) fun v2 =>
    if v2 = 0 then (some ((-1), i1)) else (if (i1 50 52) = 10 then (some ((-1), i1)) else (if aIn (i1 50 52) 10 = true then
    (lt (u2 i1 69 ((i1 50 52) : Int32).toNatClampNeg a1) fun i4 => if aIn (i4 50 52) 10 = true then
    (lt (u2 i4 70 ((i4 50 52) : Int32).toNatClampNeg (vp_nar .boolean a2)) fun i5 => lt (u2 i5 50 52 ((i5 50 52) + (1 : Int32))) fun i6 =>
    some ((i6 50 52), i6)) else none) else none))
theorem kX12_lookAt  {vR : Int32} {iR : Nat → Nat → Int32} (hX : aX p s m args c RX12 cX12_lookAt 3 D cA A ad0) (hr : meth.sig.returnType = (some .int)) (hlk : meth.locks = false) (hRf : 1 ≤ R.frames) (hRl : 64 * 1 ≤ R.locals) {a1 : Int32} {a2 : Int32} (hG : aGood sh rv) (hf : fX12_lookAt a1 a2 i = some (vR, iR)) : aJ p l e R s m args below meth c (MQ below (aPost D cA ad0 A (sh, i0, lo0, rv0) (some (.int vR)) (sh, iR, lo, rv)) args s (sh.length - sh.length) (aSn sh - aSn sh) A) D cA A ad0 3 sh.length (aSn sh) 0 [some (.ref (100 + 50)), some (.int a1), some (.int a2)] [] (sh, i, lo, rv) := by
  unfold fX12_lookAt at hf
  refine j_aload_n hX dX12_lookAt_0 rfl ?_
  refine j_iconst hX dX12_lookAt_1 ic_0 ?_
  have hf := ltd hf
  refine j_putI (k := 0) hX kX12 (by decide) fk_X12_99 dX12_lookAt_2 (sh_50 hG) rfl rfl rfl rfl ?_
  refine j_aload_n hX dX12_lookAt_5 rfl ?_
  refine j_iload_n hX dX12_lookAt_6 rfl ?_
  refine jpc (b := 7) rfl ?_
  obtain ⟨v2, hh3, hf⟩ := bd1 hf
  refine j_cV1i hX lk_X12_369 kX12 dX12_lookAt_7 (sh_50 hG) (okX12_isSleeper hG hh3) rfl rfl (rmm (by omega) hRf hRl (by decide)) (Nat.le_of_ble_eq_true rfl) (Nat.le_add_right _ _) (Nat.le_add_right _ _) ?_
  refine j_if_eq (tgt := 22) hX dX12_lookAt_10 (by decide) (fun hc => ?_) (fun hc => ?_)
  · have hf := ifp hc hf
    refine j_iconst hX dX12_lookAt_22 ic_m1 ?_
    cases hf
    exact j_ret hX hr hlk rfl dX12_lookAt_23
  · have hf := ifn hc hf
    refine j_aload_n hX dX12_lookAt_13 rfl ?_
    refine j_getI (k := 52) hX kX12 (by decide) fk_X12_309 dX12_lookAt_14 (sh_50 hG) rfl ?_
    refine j_bipush hX dX12_lookAt_17 bp_10 ?_
    refine j_icmp_ne (tgt := 24) hX dX12_lookAt_19 (by decide) (fun hc => ?_) (fun hc => ?_)
    · have hf := ifn hc hf
      refine j_aload_n hX dX12_lookAt_24 rfl ?_
      refine j_getR (k := 50) hX kX12 (by decide) fk_X12_87 (rf_50_50 hG) dX12_lookAt_25 (sh_50 hG) rfl ?_
      refine j_aload_n hX dX12_lookAt_28 rfl ?_
      refine j_getI (k := 52) hX kX12 (by decide) fk_X12_309 dX12_lookAt_29 (sh_50 hG) rfl ?_
      refine j_iload_n hX dX12_lookAt_32 rfl ?_
      refine jpc (b := 33) rfl ?_
      obtain ⟨hg, hf⟩ := gd hf
      have hf := ltd hf
      refine j_iast hX (sh_69 hG) hg dX12_lookAt_33 ?_
      refine j_aload_n hX dX12_lookAt_34 rfl ?_
      refine j_getR (k := 51) hX kX12 (by decide) fk_X12_90 (rf_50_51 hG) dX12_lookAt_35 (sh_50 hG) rfl ?_
      refine j_aload_n hX dX12_lookAt_38 rfl ?_
      refine j_getI (k := 52) hX kX12 (by decide) fk_X12_309 dX12_lookAt_39 (sh_50 hG) rfl ?_
      refine j_iload_n hX dX12_lookAt_42 rfl ?_
      refine jpc (b := 43) rfl ?_
      obtain ⟨hg, hf⟩ := gd hf
      have hf := ltd hf
      refine j_zast hX (sh_70 hG) hg dX12_lookAt_43 ?_
      refine j_aload_n hX dX12_lookAt_44 rfl ?_
      refine j_dup hX dX12_lookAt_45 rfl ?_
      refine j_getI (k := 52) hX kX12 (by decide) fk_X12_309 dX12_lookAt_46 (sh_50 hG) rfl ?_
      refine j_iconst hX dX12_lookAt_49 ic_1 ?_
      refine j_iadd hX dX12_lookAt_50 ?_
      refine jpc (b := 51) rfl ?_
      have hf := ltd hf
      refine j_putI (k := 52) hX kX12 (by decide) fk_X12_309 dX12_lookAt_51 (sh_50 hG) rfl rfl rfl rfl ?_
      refine j_aload_n hX dX12_lookAt_54 rfl ?_
      refine j_getI (k := 52) hX kX12 (by decide) fk_X12_309 dX12_lookAt_55 (sh_50 hG) rfl ?_
      cases hf
      exact j_ret hX hr hlk rfl dX12_lookAt_58
    · have hf := ifp hc hf
      refine j_iconst hX dX12_lookAt_22 ic_m1 ?_
      cases hf
      exact j_ret hX hr hlk rfl dX12_lookAt_23
theorem okX12_lookAt {l : Launch} {sh : List aSh} {i : Nat → Nat → Int32} {lo : Nat → Nat → Int64} {rv : Nat → Nat → Option Nat}  {a1 : Int32} {a2 : Int32} {vR : Int32} {iR : Nat → Nat → Int32} (hG : aGood sh rv) (hf : fX12_lookAt a1 a2 i = some (vR, iR)) : aM l yX12_lookAt cX12_lookAt 3 (some .int) 1 [.ref (100 + 50), .int a1, .int a2] (sh, i, lo, rv) (some (.int vR)) (sh, iR, lo, rv) :=
  aM_of (by decide) (Nat.le_of_ble_eq_true rfl) (Nat.le_refl _) (Nat.le_refl _) (fun p e s m args below meth c D cA A ad0 hX hr hlk hnm => kX12_lookAt hX hr hlk (Nat.le_refl _) (Nat.le_refl _) hG hf)
def fX12_areSo_41 (kh2 : Int32 → Int32 → Int32 → (Nat → Nat → Int32) → Option ((Int32))) (x1 : Int32) (x2 : Int32) (x3 : Int32) (s0 : Int32) (s1 : Int32) (i : Nat → Nat → Int32) : Option ((Int32)) := if s0 = s1 then (some (0)) else (kh2 x1 x2 (x3 + 1) i)
theorem kX12_areSo_41  {vR : Int32} (hX : aX p s m args c RX12 cX12_areSo 4 D cA A ad0) (hr : meth.sig.returnType = (some .boolean)) (hlk : meth.locks = false) (hRf : 0 ≤ R.frames) (hRl : 64 * 0 ≤ R.locals) {kh2 : Int32 → Int32 → Int32 → (Nat → Nat → Int32) → Option ((Int32))} (Hkh2 : ∀ (x1 : Int32) (x2 : Int32) (x3 : Int32), aGood sh rv → kh2 x1 x2 x3 i = some (vR) → aJ p l e R s m args below meth c (MQ below (aPost D cA ad0 A (sh, i0, lo0, rv0) (some (.int vR)) (sh, i, lo, rv)) args s (sh.length - sh.length) (aSn sh - aSn sh) A) D cA A ad0 4 sh.length (aSn sh) 2 [some (.ref (100 + 50)), some (.int x1), some (.int x2), some (.int x3)] [] (sh, i, lo, rv)) {x1 : Int32} {x2 : Int32} {x3 : Int32} {s0 : Int32} {s1 : Int32} (hG : aGood sh rv) (hf : fX12_areSo_41 kh2 x1 x2 x3 s0 s1 i = some (vR)) : aJ p l e R s m args below meth c (MQ below (aPost D cA ad0 A (sh, i0, lo0, rv0) (some (.int vR)) (sh, i, lo, rv)) args s (sh.length - sh.length) (aSn sh - aSn sh) A) D cA A ad0 4 sh.length (aSn sh) 41 [some (.ref (100 + 50)), some (.int x1), some (.int x2), some (.int x3)] [.int s1, .int s0] (sh, i, lo, rv) := by
  unfold fX12_areSo_41 at hf
  refine j_icmp_ne (tgt := 46) hX dX12_areSo_41 (by decide) (fun hc => ?_) (fun hc => ?_)
  · have hf := ifn hc hf
    refine j_iinc hX dX12_areSo_46 rfl (congrArg (_ + ·) ic_1) (by decide) rfl ?_
    refine j_goto (tgt := 2) hX dX12_areSo_49 (by decide) ?_
    exact aJx (Hkh2 _ _ _ hG  hf) (And.intro rfl (And.intro rfl (And.intro rfl (And.intro rfl (rfl)))))
  · have hf := ifp hc hf
    refine j_iconst hX dX12_areSo_44 ic_0 ?_
    cases hf
    exact j_ret hX hr hlk rfl dX12_areSo_45
def fX12_areSo_36 (kh2 : Int32 → Int32 → Int32 → (Nat → Nat → Int32) → Option ((Int32))) (x1 : Int32) (x2 : Int32) (x3 : Int32) (s0 : Int32) (i : Nat → Nat → Int32) : Option ((Int32)) := fX12_areSo_41 kh2 x1 x2 x3 s0 1 i
theorem kX12_areSo_36  {vR : Int32} (hX : aX p s m args c RX12 cX12_areSo 4 D cA A ad0) (hr : meth.sig.returnType = (some .boolean)) (hlk : meth.locks = false) (hRf : 0 ≤ R.frames) (hRl : 64 * 0 ≤ R.locals) {kh2 : Int32 → Int32 → Int32 → (Nat → Nat → Int32) → Option ((Int32))} (Hkh2 : ∀ (x1 : Int32) (x2 : Int32) (x3 : Int32), aGood sh rv → kh2 x1 x2 x3 i = some (vR) → aJ p l e R s m args below meth c (MQ below (aPost D cA ad0 A (sh, i0, lo0, rv0) (some (.int vR)) (sh, i, lo, rv)) args s (sh.length - sh.length) (aSn sh - aSn sh) A) D cA A ad0 4 sh.length (aSn sh) 2 [some (.ref (100 + 50)), some (.int x1), some (.int x2), some (.int x3)] [] (sh, i, lo, rv)) {x1 : Int32} {x2 : Int32} {x3 : Int32} {s0 : Int32} (hG : aGood sh rv) (hf : fX12_areSo_36 kh2 x1 x2 x3 s0 i = some (vR)) : aJ p l e R s m args below meth c (MQ below (aPost D cA ad0 A (sh, i0, lo0, rv0) (some (.int vR)) (sh, i, lo, rv)) args s (sh.length - sh.length) (aSn sh - aSn sh) A) D cA A ad0 4 sh.length (aSn sh) 36 [some (.ref (100 + 50)), some (.int x1), some (.int x2), some (.int x3)] [.int s0] (sh, i, lo, rv) := by
  unfold fX12_areSo_36 at hf
  refine j_iconst hX dX12_areSo_36 ic_1 ?_
  refine j_goto (tgt := 41) hX dX12_areSo_37 (by decide) ?_
  exact aJx (kX12_areSo_41 hX hr hlk hRf hRl Hkh2 hG  hf) (And.intro rfl (And.intro rfl (And.intro rfl (And.intro rfl (rfl)))))
def fX12_areSo_2 : Nat → Int32 → Int32 → Int32 → (Nat → Nat → Int32) → Option ((Int32))
  | 0, _, _, _, _ => none
  | n + 1, x1, x2, x3, i => if (i 50 52) ≤ x3 then (some (1)) else (if aIn x3 10 = true then
    (if aIn x3 10 = true then
    (if (i 69 (x3 : Int32).toNatClampNeg) = x1 then (fX12_areSo_36 (fX12_areSo_2 n) x1 x2 x3 (i 70 (x3 : Int32).toNatClampNeg) i) else (if aIn x3 10 = true then
    (if (i 69 (x3 : Int32).toNatClampNeg) = x2 then (fX12_areSo_36 (fX12_areSo_2 n) x1 x2 x3 (i 70 (x3 : Int32).toNatClampNeg) i) else (fX12_areSo_41 (fX12_areSo_2 n) x1 x2 x3 (i 70 (x3 : Int32).toNatClampNeg) 0 i)) else none)) else none) else none)
theorem kX12_areSo_2  {vR : Int32} (hX : aX p s m args c RX12 cX12_areSo 4 D cA A ad0) (hr : meth.sig.returnType = (some .boolean)) (hlk : meth.locks = false) (hRf : 0 ≤ R.frames) (hRl : 64 * 0 ≤ R.locals) : ∀ (n : Nat) (x1 : Int32) (x2 : Int32) (x3 : Int32), aGood sh rv → fX12_areSo_2 n x1 x2 x3 i = some (vR) → aJ p l e R s m args below meth c (MQ below (aPost D cA ad0 A (sh, i0, lo0, rv0) (some (.int vR)) (sh, i, lo, rv)) args s (sh.length - sh.length) (aSn sh - aSn sh) A) D cA A ad0 4 sh.length (aSn sh) 2 [some (.ref (100 + 50)), some (.int x1), some (.int x2), some (.int x3)] [] (sh, i, lo, rv) := by
  intro n
  induction n with
  | zero => intros; rename_i hf; cases hf
  | succ n ih =>
    intro x1 x2 x3 hG hf
    rw [fX12_areSo_2] at hf
    refine j_iload_n hX dX12_areSo_2 rfl ?_
    refine j_aload_n hX dX12_areSo_3 rfl ?_
    refine j_getI (k := 52) hX kX12 (by decide) fk_X12_309 dX12_areSo_4 (sh_50 hG) rfl ?_
    refine j_icmp_ge (tgt := 52) hX dX12_areSo_7 (by decide) (fun hc => ?_) (fun hc => ?_)
    · have hf := ifp hc hf
      refine j_iconst hX dX12_areSo_52 ic_1 ?_
      cases hf
      exact j_ret hX hr hlk rfl dX12_areSo_53
    · have hf := ifn hc hf
      refine j_aload_n hX dX12_areSo_10 rfl ?_
      refine j_getR (k := 51) hX kX12 (by decide) fk_X12_90 (rf_50_51 hG) dX12_areSo_11 (sh_50 hG) rfl ?_
      refine j_iload_n hX dX12_areSo_14 rfl ?_
      obtain ⟨hg, hf⟩ := gd hf
      refine j_zald hX (sh_70 hG) hg dX12_areSo_15 ?_
      refine j_aload_n hX dX12_areSo_16 rfl ?_
      refine j_getR (k := 50) hX kX12 (by decide) fk_X12_87 (rf_50_50 hG) dX12_areSo_17 (sh_50 hG) rfl ?_
      refine j_iload_n hX dX12_areSo_20 rfl ?_
      obtain ⟨hg, hf⟩ := gd hf
      refine j_iald hX (sh_69 hG) hg dX12_areSo_21 ?_
      refine j_iload_n hX dX12_areSo_22 rfl ?_
      refine j_icmp_eq (tgt := 36) hX dX12_areSo_23 (by decide) (fun hc => ?_) (fun hc => ?_)
      · have hf := ifp hc hf
        exact aJx (kX12_areSo_36 hX hr hlk hRf hRl ih hG  hf) (And.intro rfl (And.intro rfl (And.intro rfl (And.intro rfl (rfl)))))
      · have hf := ifn hc hf
        refine j_aload_n hX dX12_areSo_26 rfl ?_
        refine j_getR (k := 50) hX kX12 (by decide) fk_X12_87 (rf_50_50 hG) dX12_areSo_27 (sh_50 hG) rfl ?_
        refine j_iload_n hX dX12_areSo_30 rfl ?_
        obtain ⟨hg, hf⟩ := gd hf
        refine j_iald hX (sh_69 hG) hg dX12_areSo_31 ?_
        refine j_iload_n hX dX12_areSo_32 rfl ?_
        refine j_icmp_ne (tgt := 40) hX dX12_areSo_33 (by decide) (fun hc => ?_) (fun hc => ?_)
        · have hf := ifn hc hf
          refine j_iconst hX dX12_areSo_40 ic_0 ?_
          exact aJx (kX12_areSo_41 hX hr hlk hRf hRl ih hG  hf) (And.intro rfl (And.intro rfl (And.intro rfl (And.intro rfl (rfl)))))
        · have hf := ifp hc hf
          exact aJx (kX12_areSo_36 hX hr hlk hRf hRl ih hG  hf) (And.intro rfl (And.intro rfl (And.intro rfl (And.intro rfl (rfl)))))
def fX12_areSo (a1 : Int32) (a2 : Int32) (i : Nat → Nat → Int32) : Option ((Int32)) := fX12_areSo_2 fuel a1 a2 0 i
theorem kX12_areSo  {vR : Int32} (hX : aX p s m args c RX12 cX12_areSo 4 D cA A ad0) (hr : meth.sig.returnType = (some .boolean)) (hlk : meth.locks = false) (hRf : 0 ≤ R.frames) (hRl : 64 * 0 ≤ R.locals) {a1 : Int32} {a2 : Int32} (hG : aGood sh rv) (hf : fX12_areSo a1 a2 i = some (vR)) : aJ p l e R s m args below meth c (MQ below (aPost D cA ad0 A (sh, i0, lo0, rv0) (some (.int vR)) (sh, i, lo, rv)) args s (sh.length - sh.length) (aSn sh - aSn sh) A) D cA A ad0 4 sh.length (aSn sh) 0 [some (.ref (100 + 50)), some (.int a1), some (.int a2), none] [] (sh, i, lo, rv) := by
  unfold fX12_areSo at hf
  refine j_iconst hX dX12_areSo_0 ic_0 ?_
  refine j_istore_n hX dX12_areSo_1 (by decide) rfl ?_
  exact aJx (kX12_areSo_2 hX hr hlk hRf hRl fuel _ _ _ hG  hf) (And.intro rfl (And.intro rfl (And.intro rfl (And.intro rfl (rfl)))))
theorem okX12_areSo {l : Launch} {sh : List aSh} {i : Nat → Nat → Int32} {lo : Nat → Nat → Int64} {rv : Nat → Nat → Option Nat}  {a1 : Int32} {a2 : Int32} {vR : Int32} (hG : aGood sh rv) (hf : fX12_areSo a1 a2 i = some (vR)) : aM l yX12_areSo cX12_areSo 4 (some .boolean) 0 [.ref (100 + 50), .int a1, .int a2] (sh, i, lo, rv) (some (.int vR)) (sh, i, lo, rv) :=
  aM_of (by decide) (Nat.le_of_ble_eq_true rfl) (Nat.le_refl _) (Nat.le_refl _) (fun p e s m args below meth c D cA A ad0 hX hr hlk hnm => kX12_areSo hX hr hlk (Nat.le_refl _) (Nat.le_refl _) hG hf)
def fX12_wayOf (a1 : Int32) (i : Nat → Nat → Int32) : Option ((Int32)) := if a1 = 0 then (bn1 (fX12_areSo (-1) (-1) i) fun v4 =>
    if v4 = 0 then (some (99)) else (some (0))) else (lt (a1 - a1 / (10 : Int32) * (10 : Int32)) fun t1 =>
    if t1 ≤ (a1 / (10 : Int32)) then (some (99)) else (if (i 50 26) ≤ t1 then (some (99)) else (if aIn (((6 : Int32) * (a1 / (10 : Int32))) + (4 : Int32)) 54 = true then
    (if aIn (((6 : Int32) * t1) + (4 : Int32)) 54 = true then
    (if (i 57 ((((6 : Int32) * (a1 / (10 : Int32))) + (4 : Int32)) : Int32).toNatClampNeg) = (i 57 ((((6 : Int32) * t1) + (4 : Int32)) : Int32).toNatClampNeg) then (some (99)) else (bn1 (fX12_areSo (a1 / (10 : Int32)) t1 i) fun v2 =>
    if v2 = 0 then (some (99)) else (some (((101 : Int32) + a1))))) else none) else none)))
theorem kX12_wayOf  {vR : Int32} (hX : aX p s m args c RX12 cX12_wayOf 4 D cA A ad0) (hr : meth.sig.returnType = (some .int)) (hlk : meth.locks = false) (hRf : 1 ≤ R.frames) (hRl : 64 * 1 ≤ R.locals) {a1 : Int32} (hG : aGood sh rv) (hf : fX12_wayOf a1 i = some (vR)) : aJ p l e R s m args below meth c (MQ below (aPost D cA ad0 A (sh, i0, lo0, rv0) (some (.int vR)) (sh, i, lo, rv)) args s (sh.length - sh.length) (aSn sh - aSn sh) A) D cA A ad0 4 sh.length (aSn sh) 0 [some (.ref (100 + 50)), some (.int a1), none, none] [] (sh, i, lo, rv) := by
  unfold fX12_wayOf at hf
  refine j_iload_n hX dX12_wayOf_0 rfl ?_
  refine j_if_ne (tgt := 20) hX dX12_wayOf_1 (by decide) (fun hc => ?_) (fun hc => ?_)
  · have hf := ifn hc hf
    refine j_iload_n hX dX12_wayOf_20 rfl ?_
    refine j_bipush hX dX12_wayOf_21 bp_10 ?_
    refine j_idiv hX dX12_wayOf_23 (by decide) ?_
    refine j_istore_n hX dX12_wayOf_24 (by decide) rfl ?_
    refine j_iload_n hX dX12_wayOf_25 rfl ?_
    refine jpc (b := 26) rfl ?_
    refine j_bipush hX dX12_wayOf_26 bp_10 ?_
    refine j_irem hX dX12_wayOf_28 (by decide) ?_
    have hf := ltd hf
    refine j_istore_n hX dX12_wayOf_29 (by decide) rfl ?_
    refine j_iload_n hX dX12_wayOf_30 rfl ?_
    refine j_iload_n hX dX12_wayOf_31 rfl ?_
    refine j_icmp_ge (tgt := 84) hX dX12_wayOf_32 (by decide) (fun hc => ?_) (fun hc => ?_)
    · have hf := ifp hc hf
      refine j_bipush hX dX12_wayOf_84 bp_99 ?_
      cases hf
      exact j_ret hX hr hlk rfl dX12_wayOf_86
    · have hf := ifn hc hf
      refine j_iload_n hX dX12_wayOf_35 rfl ?_
      refine j_aload_n hX dX12_wayOf_36 rfl ?_
      refine j_getI (k := 26) hX kX12 (by decide) fk_X12_297 dX12_wayOf_37 (sh_50 hG) rfl ?_
      refine j_icmp_ge (tgt := 84) hX dX12_wayOf_40 (by decide) (fun hc => ?_) (fun hc => ?_)
      · have hf := ifp hc hf
        refine j_bipush hX dX12_wayOf_84 bp_99 ?_
        cases hf
        exact j_ret hX hr hlk rfl dX12_wayOf_86
      · have hf := ifn hc hf
        refine j_aload_n hX dX12_wayOf_43 rfl ?_
        refine j_getR (k := 20) hX kX12 (by decide) fk_X12_43 (rf_50_20 hG) dX12_wayOf_44 (sh_50 hG) rfl ?_
        refine j_bipush hX dX12_wayOf_47 bp_6 ?_
        refine j_iload_n hX dX12_wayOf_49 rfl ?_
        refine j_imul hX dX12_wayOf_50 ?_
        refine jpc (b := 51) rfl ?_
        refine j_iconst hX dX12_wayOf_51 ic_4 ?_
        refine j_iadd hX dX12_wayOf_52 ?_
        obtain ⟨hg, hf⟩ := gd hf
        refine j_iald hX (sh_57 hG) hg dX12_wayOf_53 ?_
        refine j_aload_n hX dX12_wayOf_54 rfl ?_
        refine j_getR (k := 20) hX kX12 (by decide) fk_X12_43 (rf_50_20 hG) dX12_wayOf_55 (sh_50 hG) rfl ?_
        refine j_bipush hX dX12_wayOf_58 bp_6 ?_
        refine j_iload_n hX dX12_wayOf_60 rfl ?_
        refine j_imul hX dX12_wayOf_61 ?_
        refine jpc (b := 62) rfl ?_
        refine j_iconst hX dX12_wayOf_62 ic_4 ?_
        refine j_iadd hX dX12_wayOf_63 ?_
        obtain ⟨hg, hf⟩ := gd hf
        refine j_iald hX (sh_57 hG) hg dX12_wayOf_64 ?_
        refine j_icmp_eq (tgt := 84) hX dX12_wayOf_65 (by decide) (fun hc => ?_) (fun hc => ?_)
        · have hf := ifp hc hf
          refine j_bipush hX dX12_wayOf_84 bp_99 ?_
          cases hf
          exact j_ret hX hr hlk rfl dX12_wayOf_86
        · have hf := ifn hc hf
          refine j_aload_n hX dX12_wayOf_68 rfl ?_
          refine j_iload_n hX dX12_wayOf_69 rfl ?_
          refine j_iload_n hX dX12_wayOf_70 rfl ?_
          obtain ⟨v2, hh3, hf⟩ := bd1 hf
          refine j_cV2i hX lk_X12_476 kX12 dX12_wayOf_71 (sh_50 hG) (okX12_areSo hG hh3) rfl rfl (rmm (by omega) hRf hRl (by decide)) (Nat.le_of_ble_eq_true rfl) (Nat.le_add_right _ _) (Nat.le_add_right _ _) ?_
          refine j_if_eq (tgt := 84) hX dX12_wayOf_74 (by decide) (fun hc => ?_) (fun hc => ?_)
          · have hf := ifp hc hf
            refine j_bipush hX dX12_wayOf_84 bp_99 ?_
            cases hf
            exact j_ret hX hr hlk rfl dX12_wayOf_86
          · have hf := ifn hc hf
            refine j_bipush hX dX12_wayOf_77 bp_101 ?_
            refine j_iload_n hX dX12_wayOf_79 rfl ?_
            refine j_iadd hX dX12_wayOf_80 ?_
            refine j_goto (tgt := 86) hX dX12_wayOf_81 (by decide) ?_
            cases hf
            exact j_ret hX hr hlk rfl dX12_wayOf_86
  · have hf := ifp hc hf
    refine j_aload_n hX dX12_wayOf_4 rfl ?_
    refine j_iconst hX dX12_wayOf_5 ic_m1 ?_
    refine j_iconst hX dX12_wayOf_6 ic_m1 ?_
    obtain ⟨v4, hh5, hf⟩ := bd1 hf
    refine j_cV2i hX lk_X12_476 kX12 dX12_wayOf_7 (sh_50 hG) (okX12_areSo hG hh5) rfl rfl (rmm (by omega) hRf hRl (by decide)) (Nat.le_of_ble_eq_true rfl) (Nat.le_add_right _ _) (Nat.le_add_right _ _) ?_
    refine j_if_eq (tgt := 17) hX dX12_wayOf_10 (by decide) (fun hc => ?_) (fun hc => ?_)
    · have hf := ifp hc hf
      refine j_bipush hX dX12_wayOf_17 bp_99 ?_
      cases hf
      exact j_ret hX hr hlk rfl dX12_wayOf_19
    · have hf := ifn hc hf
      refine j_iconst hX dX12_wayOf_13 ic_0 ?_
      refine j_goto (tgt := 19) hX dX12_wayOf_14 (by decide) ?_
      cases hf
      exact j_ret hX hr hlk rfl dX12_wayOf_19
theorem okX12_wayOf {l : Launch} {sh : List aSh} {i : Nat → Nat → Int32} {lo : Nat → Nat → Int64} {rv : Nat → Nat → Option Nat}  {a1 : Int32} {vR : Int32} (hG : aGood sh rv) (hf : fX12_wayOf a1 i = some (vR)) : aM l yX12_wayOf cX12_wayOf 4 (some .int) 1 [.ref (100 + 50), .int a1] (sh, i, lo, rv) (some (.int vR)) (sh, i, lo, rv) :=
  aM_of (by decide) (Nat.le_of_ble_eq_true rfl) (Nat.le_refl _) (Nat.le_refl _) (fun p e s m args below meth c D cA A ad0 hX hr hlk hnm => kX12_wayOf hX hr hlk (Nat.le_refl _) (Nat.le_refl _) hG hf)
def fX12_fit_62 (kh23 : Int32 → Int32 → Int32 → (Nat → Nat → Int32) → Option ((Int32) × (Nat → Nat → Int32))) (x1 : Int32) (x2 : Int32) (x3 : Int32) (i : Nat → Nat → Int32) : Option ((Int32) × (Nat → Nat → Int32)) := kh23 x1 x2 (x3 + 1) i
theorem kX12_fit_62  {vR : Int32} {iR : Nat → Nat → Int32} (hX : aX p s m args c RX12 cX12_fit 5 D cA A ad0) (hr : meth.sig.returnType = (some .int)) (hlk : meth.locks = false) (hRf : 2 ≤ R.frames) (hRl : 64 * 2 ≤ R.locals) {kh23 : Int32 → Int32 → Int32 → (Nat → Nat → Int32) → Option ((Int32) × (Nat → Nat → Int32))} (Hkh23 : ∀ (x1 : Int32) (x2 : Int32) (x3 : Int32) (i : Nat → Nat → Int32), aGood sh rv → kh23 x1 x2 x3 i = some (vR, iR) → aJ p l e R s m args below meth c (MQ below (aPost D cA ad0 A (sh, i0, lo0, rv0) (some (.int vR)) (sh, iR, lo, rv)) args s (sh.length - sh.length) (aSn sh - aSn sh) A) D cA A ad0 5 sh.length (aSn sh) 23 [some (.ref (100 + 50)), some (.int x1), some (.int x2), some (.int x3), none] [] (sh, i, lo, rv)) {x1 : Int32} {x2 : Int32} {x3 : Int32} (hG : aGood sh rv) (hf : fX12_fit_62 kh23 x1 x2 x3 i = some (vR, iR)) : aJ p l e R s m args below meth c (MQ below (aPost D cA ad0 A (sh, i0, lo0, rv0) (some (.int vR)) (sh, iR, lo, rv)) args s (sh.length - sh.length) (aSn sh - aSn sh) A) D cA A ad0 5 sh.length (aSn sh) 62 [some (.ref (100 + 50)), some (.int x1), some (.int x2), some (.int x3), none] [] (sh, i, lo, rv) := by
  unfold fX12_fit_62 at hf
  refine j_iinc hX dX12_fit_62 rfl (congrArg (_ + ·) ic_1) (by decide) rfl ?_
  refine j_goto (tgt := 23) hX dX12_fit_65 (by decide) ?_
  exact aJx (Hkh23 _ _ _ _ hG  hf) (And.intro rfl (And.intro rfl (And.intro rfl (And.intro rfl (rfl)))))
def fX12_fit_23 : Nat → Int32 → Int32 → Int32 → (Nat → Nat → Int32) → Option ((Int32) × (Nat → Nat → Int32))
  | 0, _, _, _, _ => none
  | n + 1, x1, x2, x3, i => if ((10 : Int32) * (i 50 26)) ≤ x3 then (if x1 = (-1) then (some (x2, i)) else (some ((-1), i))) else (bn1 (fX12_wayOf x3 i) fun v2 =>
    if v2 = 99 then (fX12_fit_62 (fX12_fit_23 n) x1 x2 x3 i) else (if x2 = x1 then (some (v2, i)) else (fX12_fit_62 (fX12_fit_23 n) x1 (x2 + 1) x3 i)))
theorem kX12_fit_23  {vR : Int32} {iR : Nat → Nat → Int32} (hX : aX p s m args c RX12 cX12_fit 5 D cA A ad0) (hr : meth.sig.returnType = (some .int)) (hlk : meth.locks = false) (hRf : 2 ≤ R.frames) (hRl : 64 * 2 ≤ R.locals) : ∀ (n : Nat) (x1 : Int32) (x2 : Int32) (x3 : Int32) (i : Nat → Nat → Int32), aGood sh rv → fX12_fit_23 n x1 x2 x3 i = some (vR, iR) → aJ p l e R s m args below meth c (MQ below (aPost D cA ad0 A (sh, i0, lo0, rv0) (some (.int vR)) (sh, iR, lo, rv)) args s (sh.length - sh.length) (aSn sh - aSn sh) A) D cA A ad0 5 sh.length (aSn sh) 23 [some (.ref (100 + 50)), some (.int x1), some (.int x2), some (.int x3), none] [] (sh, i, lo, rv) := by
  intro n
  induction n with
  | zero => intros; rename_i hf; cases hf
  | succ n ih =>
    intro x1 x2 x3 i hG hf
    rw [fX12_fit_23] at hf
    refine j_iload_n hX dX12_fit_23 rfl ?_
    refine j_bipush hX dX12_fit_24 bp_10 ?_
    refine j_aload_n hX dX12_fit_26 rfl ?_
    refine j_getI (k := 26) hX kX12 (by decide) fk_X12_297 dX12_fit_27 (sh_50 hG) rfl ?_
    refine j_imul hX dX12_fit_30 ?_
    refine jpc (b := 31) rfl ?_
    refine j_icmp_ge (tgt := 68) hX dX12_fit_31 (by decide) (fun hc => ?_) (fun hc => ?_)
    · have hf := ifp hc hf
      refine j_iload_n hX dX12_fit_68 rfl ?_
      refine j_iconst hX dX12_fit_69 ic_m1 ?_
      refine j_icmp_ne (tgt := 77) hX dX12_fit_70 (by decide) (fun hc => ?_) (fun hc => ?_)
      · have hf := ifn hc hf
        refine j_iconst hX dX12_fit_77 ic_m1 ?_
        cases hf
        exact j_ret hX hr hlk rfl dX12_fit_78
      · have hf := ifp hc hf
        refine j_iload_n hX dX12_fit_73 rfl ?_
        refine j_goto (tgt := 78) hX dX12_fit_74 (by decide) ?_
        cases hf
        exact j_ret hX hr hlk rfl dX12_fit_78
    · have hf := ifn hc hf
      refine j_aload_n hX dX12_fit_34 rfl ?_
      refine j_iload_n hX dX12_fit_35 rfl ?_
      obtain ⟨v2, hh3, hf⟩ := bd1 hf
      refine j_cV1i hX lk_X12_479 kX12 dX12_fit_36 (sh_50 hG) (okX12_wayOf hG hh3) rfl rfl (rmm (by omega) hRf hRl (by decide)) (Nat.le_of_ble_eq_true rfl) (Nat.le_add_right _ _) (Nat.le_add_right _ _) ?_
      refine j_istore hX dX12_fit_39 (by decide) rfl ?_
      refine j_iload hX dX12_fit_41 rfl ?_
      refine jpc (b := 43) rfl ?_
      refine j_bipush hX dX12_fit_43 bp_99 ?_
      refine j_icmp_ne (tgt := 51) hX dX12_fit_45 (by decide) (fun hc => ?_) (fun hc => ?_)
      · have hf := ifn hc hf
        refine j_iload_n hX dX12_fit_51 rfl ?_
        refine j_iload_n hX dX12_fit_52 rfl ?_
        refine j_icmp_ne (tgt := 59) hX dX12_fit_53 (by decide) (fun hc => ?_) (fun hc => ?_)
        · have hf := ifn hc hf
          refine j_iinc hX dX12_fit_59 rfl (congrArg (_ + ·) ic_1) (by decide) rfl ?_
          exact aJx (kX12_fit_62 hX hr hlk hRf hRl ih hG  hf) (And.intro rfl (And.intro rfl (And.intro rfl (And.intro rfl (rfl)))))
        · have hf := ifp hc hf
          refine j_iload hX dX12_fit_56 rfl ?_
          cases hf
          exact j_ret hX hr hlk rfl dX12_fit_58
      · have hf := ifp hc hf
        refine j_goto (tgt := 62) hX dX12_fit_48 (by decide) ?_
        exact aJx (kX12_fit_62 hX hr hlk hRf hRl ih hG  hf) (And.intro rfl (And.intro rfl (And.intro rfl (And.intro rfl (rfl)))))
def fX12_fit (a1 : Int32) (i : Nat → Nat → Int32) : Option ((Int32) × (Nat → Nat → Int32)) := lt (u2 i 50 0 0) fun i1 =>
    if (i1 50 26) = 0 then (some ((-1), i1)) else (if (-1) ≤ a1 then (fX12_fit_23 fuel a1 0 0 i1) else (some ((-1), i1)))
theorem kX12_fit  {vR : Int32} {iR : Nat → Nat → Int32} (hX : aX p s m args c RX12 cX12_fit 5 D cA A ad0) (hr : meth.sig.returnType = (some .int)) (hlk : meth.locks = false) (hRf : 2 ≤ R.frames) (hRl : 64 * 2 ≤ R.locals) {a1 : Int32} (hG : aGood sh rv) (hf : fX12_fit a1 i = some (vR, iR)) : aJ p l e R s m args below meth c (MQ below (aPost D cA ad0 A (sh, i0, lo0, rv0) (some (.int vR)) (sh, iR, lo, rv)) args s (sh.length - sh.length) (aSn sh - aSn sh) A) D cA A ad0 5 sh.length (aSn sh) 0 [some (.ref (100 + 50)), some (.int a1), none, none, none] [] (sh, i, lo, rv) := by
  unfold fX12_fit at hf
  refine j_aload_n hX dX12_fit_0 rfl ?_
  refine j_iconst hX dX12_fit_1 ic_0 ?_
  have hf := ltd hf
  refine j_putI (k := 0) hX kX12 (by decide) fk_X12_99 dX12_fit_2 (sh_50 hG) rfl rfl rfl rfl ?_
  refine j_aload_n hX dX12_fit_5 rfl ?_
  refine j_getI (k := 26) hX kX12 (by decide) fk_X12_297 dX12_fit_6 (sh_50 hG) rfl ?_
  refine jpc (b := 9) rfl ?_
  refine j_if_eq (tgt := 17) hX dX12_fit_9 (by decide) (fun hc => ?_) (fun hc => ?_)
  · have hf := ifp hc hf
    refine j_iconst hX dX12_fit_17 ic_m1 ?_
    cases hf
    exact j_ret hX hr hlk rfl dX12_fit_18
  · have hf := ifn hc hf
    refine j_iload_n hX dX12_fit_12 rfl ?_
    refine j_iconst hX dX12_fit_13 ic_m1 ?_
    refine j_icmp_ge (tgt := 19) hX dX12_fit_14 (by decide) (fun hc => ?_) (fun hc => ?_)
    · have hf := ifp hc hf
      refine j_iconst hX dX12_fit_19 ic_0 ?_
      refine j_istore_n hX dX12_fit_20 (by decide) rfl ?_
      refine j_iconst hX dX12_fit_21 ic_0 ?_
      refine j_istore_n hX dX12_fit_22 (by decide) rfl ?_
      exact aJx (kX12_fit_23 hX hr hlk hRf hRl fuel _ _ _ _ hG  hf) (And.intro rfl (And.intro rfl (And.intro rfl (And.intro rfl (rfl)))))
    · have hf := ifn hc hf
      refine j_iconst hX dX12_fit_17 ic_m1 ?_
      cases hf
      exact j_ret hX hr hlk rfl dX12_fit_18
theorem okX12_fit {l : Launch} {sh : List aSh} {i : Nat → Nat → Int32} {lo : Nat → Nat → Int64} {rv : Nat → Nat → Option Nat}  {a1 : Int32} {vR : Int32} {iR : Nat → Nat → Int32} (hG : aGood sh rv) (hf : fX12_fit a1 i = some (vR, iR)) : aM l yX12_fit cX12_fit 5 (some .int) 2 [.ref (100 + 50), .int a1] (sh, i, lo, rv) (some (.int vR)) (sh, iR, lo, rv) :=
  aM_of (by decide) (Nat.le_of_ble_eq_true rfl) (Nat.le_refl _) (Nat.le_refl _) (fun p e s m args below meth c D cA A ad0 hX hr hlk hnm => kX12_fit hX hr hlk (Nat.le_refl _) (Nat.le_refl _) hG hf)
def fX12_best_113 (kh28 : Int32 → Int32 → Int32 → (Nat → Nat → Int32) → Option ((Int32) × (Nat → Nat → Int32))) (kh42 : Int32 → Int32 → Int32 → Int32 → Int32 → (Nat → Nat → Int32) → Option ((Int32) × (Nat → Nat → Int32))) (x1 : Int32) (x2 : Int32) (x3 : Int32) (x4 : Int32) (x5 : Int32) (i : Nat → Nat → Int32) : Option ((Int32) × (Nat → Nat → Int32)) := kh42 x1 x2 x3 x4 (x5 + 1) i
theorem kX12_best_113  {vR : Int32} {iR : Nat → Nat → Int32} (hX : aX p s m args c RX12 cX12_best 7 D cA A ad0) (hr : meth.sig.returnType = (some .int)) (hlk : meth.locks = false) (hRf : 3 ≤ R.frames) (hRl : 64 * 3 ≤ R.locals) {kh28 : Int32 → Int32 → Int32 → (Nat → Nat → Int32) → Option ((Int32) × (Nat → Nat → Int32))} {kh42 : Int32 → Int32 → Int32 → Int32 → Int32 → (Nat → Nat → Int32) → Option ((Int32) × (Nat → Nat → Int32))} (Hkh28 : ∀ (x1 : Int32) (x2 : Int32) (x3 : Int32) (i : Nat → Nat → Int32), aGood sh rv → kh28 x1 x2 x3 i = some (vR, iR) → aJ p l e R s m args below meth c (MQ below (aPost D cA ad0 A (sh, i0, lo0, rv0) (some (.int vR)) (sh, iR, lo, rv)) args s (sh.length - sh.length) (aSn sh - aSn sh) A) D cA A ad0 7 sh.length (aSn sh) 28 [some (.ref (100 + 50)), some (.int x1), some (.int x2), some (.int x3), none, none, none] [] (sh, i, lo, rv)) (Hkh42 : ∀ (x1 : Int32) (x2 : Int32) (x3 : Int32) (x4 : Int32) (x5 : Int32) (i : Nat → Nat → Int32), aGood sh rv → kh42 x1 x2 x3 x4 x5 i = some (vR, iR) → aJ p l e R s m args below meth c (MQ below (aPost D cA ad0 A (sh, i0, lo0, rv0) (some (.int vR)) (sh, iR, lo, rv)) args s (sh.length - sh.length) (aSn sh - aSn sh) A) D cA A ad0 7 sh.length (aSn sh) 42 [some (.ref (100 + 50)), some (.int x1), some (.int x2), some (.int x3), some (.int x4), some (.int x5), none] [] (sh, i, lo, rv)) {x1 : Int32} {x2 : Int32} {x3 : Int32} {x4 : Int32} {x5 : Int32} (hG : aGood sh rv) (hf : fX12_best_113 kh28 kh42 x1 x2 x3 x4 x5 i = some (vR, iR)) : aJ p l e R s m args below meth c (MQ below (aPost D cA ad0 A (sh, i0, lo0, rv0) (some (.int vR)) (sh, iR, lo, rv)) args s (sh.length - sh.length) (aSn sh - aSn sh) A) D cA A ad0 7 sh.length (aSn sh) 113 [some (.ref (100 + 50)), some (.int x1), some (.int x2), some (.int x3), some (.int x4), some (.int x5), none] [] (sh, i, lo, rv) := by
  unfold fX12_best_113 at hf
  refine j_iinc hX dX12_best_113 rfl (congrArg (_ + ·) ic_1) (by decide) rfl ?_
  refine j_goto (tgt := 42) hX dX12_best_116 (by decide) ?_
  exact aJx (Hkh42 _ _ _ _ _ _ hG  hf) (And.intro rfl (And.intro rfl (And.intro rfl (And.intro rfl (And.intro rfl (And.intro rfl (rfl)))))))
def fX12_best_110 (kh28 : Int32 → Int32 → Int32 → (Nat → Nat → Int32) → Option ((Int32) × (Nat → Nat → Int32))) (kh42 : Int32 → Int32 → Int32 → Int32 → Int32 → (Nat → Nat → Int32) → Option ((Int32) × (Nat → Nat → Int32))) (x1 : Int32) (x2 : Int32) (x3 : Int32) (x5 : Int32) (s0 : Int32) (s1 : Int32) (i : Nat → Nat → Int32) : Option ((Int32) × (Nat → Nat → Int32)) := fX12_best_113 kh28 kh42 x1 x2 x3 (s0 + s1) x5 i
theorem kX12_best_110  {vR : Int32} {iR : Nat → Nat → Int32} (hX : aX p s m args c RX12 cX12_best 7 D cA A ad0) (hr : meth.sig.returnType = (some .int)) (hlk : meth.locks = false) (hRf : 3 ≤ R.frames) (hRl : 64 * 3 ≤ R.locals) {kh28 : Int32 → Int32 → Int32 → (Nat → Nat → Int32) → Option ((Int32) × (Nat → Nat → Int32))} {kh42 : Int32 → Int32 → Int32 → Int32 → Int32 → (Nat → Nat → Int32) → Option ((Int32) × (Nat → Nat → Int32))} (Hkh28 : ∀ (x1 : Int32) (x2 : Int32) (x3 : Int32) (i : Nat → Nat → Int32), aGood sh rv → kh28 x1 x2 x3 i = some (vR, iR) → aJ p l e R s m args below meth c (MQ below (aPost D cA ad0 A (sh, i0, lo0, rv0) (some (.int vR)) (sh, iR, lo, rv)) args s (sh.length - sh.length) (aSn sh - aSn sh) A) D cA A ad0 7 sh.length (aSn sh) 28 [some (.ref (100 + 50)), some (.int x1), some (.int x2), some (.int x3), none, none, none] [] (sh, i, lo, rv)) (Hkh42 : ∀ (x1 : Int32) (x2 : Int32) (x3 : Int32) (x4 : Int32) (x5 : Int32) (i : Nat → Nat → Int32), aGood sh rv → kh42 x1 x2 x3 x4 x5 i = some (vR, iR) → aJ p l e R s m args below meth c (MQ below (aPost D cA ad0 A (sh, i0, lo0, rv0) (some (.int vR)) (sh, iR, lo, rv)) args s (sh.length - sh.length) (aSn sh - aSn sh) A) D cA A ad0 7 sh.length (aSn sh) 42 [some (.ref (100 + 50)), some (.int x1), some (.int x2), some (.int x3), some (.int x4), some (.int x5), none] [] (sh, i, lo, rv)) {x1 : Int32} {x2 : Int32} {x3 : Int32} {x5 : Int32} {s0 : Int32} {s1 : Int32} (hG : aGood sh rv) (hf : fX12_best_110 kh28 kh42 x1 x2 x3 x5 s0 s1 i = some (vR, iR)) : aJ p l e R s m args below meth c (MQ below (aPost D cA ad0 A (sh, i0, lo0, rv0) (some (.int vR)) (sh, iR, lo, rv)) args s (sh.length - sh.length) (aSn sh - aSn sh) A) D cA A ad0 7 sh.length (aSn sh) 110 [some (.ref (100 + 50)), some (.int x1), some (.int x2), some (.int x3), none, some (.int x5), none] [.int s1, .int s0] (sh, i, lo, rv) := by
  unfold fX12_best_110 at hf
  refine j_iadd hX dX12_best_110 ?_
  refine j_istore hX dX12_best_111 (by decide) rfl ?_
  exact aJx (kX12_best_113 hX hr hlk hRf hRl Hkh28 Hkh42 hG  hf) (And.intro rfl (And.intro rfl (And.intro rfl (And.intro rfl (And.intro rfl (And.intro rfl (rfl)))))))
def fX12_best_96 (kh28 : Int32 → Int32 → Int32 → (Nat → Nat → Int32) → Option ((Int32) × (Nat → Nat → Int32))) (kh42 : Int32 → Int32 → Int32 → Int32 → Int32 → (Nat → Nat → Int32) → Option ((Int32) × (Nat → Nat → Int32))) (x1 : Int32) (x2 : Int32) (x3 : Int32) (x4 : Int32) (x5 : Int32) (s0 : Int32) (i : Nat → Nat → Int32) : Option ((Int32) × (Nat → Nat → Int32)) := if s0 = 0 then (fX12_best_110 kh28 kh42 x1 x2 x3 x5 x4 1 i) else (fX12_best_110 kh28 kh42 x1 x2 x3 x5 x4 (-1) i)
theorem kX12_best_96  {vR : Int32} {iR : Nat → Nat → Int32} (hX : aX p s m args c RX12 cX12_best 7 D cA A ad0) (hr : meth.sig.returnType = (some .int)) (hlk : meth.locks = false) (hRf : 3 ≤ R.frames) (hRl : 64 * 3 ≤ R.locals) {kh28 : Int32 → Int32 → Int32 → (Nat → Nat → Int32) → Option ((Int32) × (Nat → Nat → Int32))} {kh42 : Int32 → Int32 → Int32 → Int32 → Int32 → (Nat → Nat → Int32) → Option ((Int32) × (Nat → Nat → Int32))} (Hkh28 : ∀ (x1 : Int32) (x2 : Int32) (x3 : Int32) (i : Nat → Nat → Int32), aGood sh rv → kh28 x1 x2 x3 i = some (vR, iR) → aJ p l e R s m args below meth c (MQ below (aPost D cA ad0 A (sh, i0, lo0, rv0) (some (.int vR)) (sh, iR, lo, rv)) args s (sh.length - sh.length) (aSn sh - aSn sh) A) D cA A ad0 7 sh.length (aSn sh) 28 [some (.ref (100 + 50)), some (.int x1), some (.int x2), some (.int x3), none, none, none] [] (sh, i, lo, rv)) (Hkh42 : ∀ (x1 : Int32) (x2 : Int32) (x3 : Int32) (x4 : Int32) (x5 : Int32) (i : Nat → Nat → Int32), aGood sh rv → kh42 x1 x2 x3 x4 x5 i = some (vR, iR) → aJ p l e R s m args below meth c (MQ below (aPost D cA ad0 A (sh, i0, lo0, rv0) (some (.int vR)) (sh, iR, lo, rv)) args s (sh.length - sh.length) (aSn sh - aSn sh) A) D cA A ad0 7 sh.length (aSn sh) 42 [some (.ref (100 + 50)), some (.int x1), some (.int x2), some (.int x3), some (.int x4), some (.int x5), none] [] (sh, i, lo, rv)) {x1 : Int32} {x2 : Int32} {x3 : Int32} {x4 : Int32} {x5 : Int32} {s0 : Int32} (hG : aGood sh rv) (hf : fX12_best_96 kh28 kh42 x1 x2 x3 x4 x5 s0 i = some (vR, iR)) : aJ p l e R s m args below meth c (MQ below (aPost D cA ad0 A (sh, i0, lo0, rv0) (some (.int vR)) (sh, iR, lo, rv)) args s (sh.length - sh.length) (aSn sh - aSn sh) A) D cA A ad0 7 sh.length (aSn sh) 96 [some (.ref (100 + 50)), some (.int x1), some (.int x2), some (.int x3), some (.int x4), some (.int x5), none] [.int s0] (sh, i, lo, rv) := by
  unfold fX12_best_96 at hf
  refine j_istore hX dX12_best_96 (by decide) rfl ?_
  refine j_iload hX dX12_best_98 rfl ?_
  refine j_iload hX dX12_best_100 rfl ?_
  refine j_if_eq (tgt := 109) hX dX12_best_102 (by decide) (fun hc => ?_) (fun hc => ?_)
  · have hf := ifp hc hf
    refine j_iconst hX dX12_best_109 ic_1 ?_
    exact aJx (kX12_best_110 hX hr hlk hRf hRl Hkh28 Hkh42 hG  hf) (And.intro rfl (And.intro rfl (And.intro rfl (And.intro rfl (And.intro rfl (rfl))))))
  · have hf := ifn hc hf
    refine j_iconst hX dX12_best_105 ic_m1 ?_
    refine j_goto (tgt := 110) hX dX12_best_106 (by decide) ?_
    exact aJx (kX12_best_110 hX hr hlk hRf hRl Hkh28 Hkh42 hG  hf) (And.intro rfl (And.intro rfl (And.intro rfl (And.intro rfl (And.intro rfl (rfl))))))
def fX12_best_91 (kh28 : Int32 → Int32 → Int32 → (Nat → Nat → Int32) → Option ((Int32) × (Nat → Nat → Int32))) (kh42 : Int32 → Int32 → Int32 → Int32 → Int32 → (Nat → Nat → Int32) → Option ((Int32) × (Nat → Nat → Int32))) (x1 : Int32) (x2 : Int32) (x3 : Int32) (x4 : Int32) (x5 : Int32) (i : Nat → Nat → Int32) : Option ((Int32) × (Nat → Nat → Int32)) := fX12_best_96 kh28 kh42 x1 x2 x3 x4 x5 1 i
theorem kX12_best_91  {vR : Int32} {iR : Nat → Nat → Int32} (hX : aX p s m args c RX12 cX12_best 7 D cA A ad0) (hr : meth.sig.returnType = (some .int)) (hlk : meth.locks = false) (hRf : 3 ≤ R.frames) (hRl : 64 * 3 ≤ R.locals) {kh28 : Int32 → Int32 → Int32 → (Nat → Nat → Int32) → Option ((Int32) × (Nat → Nat → Int32))} {kh42 : Int32 → Int32 → Int32 → Int32 → Int32 → (Nat → Nat → Int32) → Option ((Int32) × (Nat → Nat → Int32))} (Hkh28 : ∀ (x1 : Int32) (x2 : Int32) (x3 : Int32) (i : Nat → Nat → Int32), aGood sh rv → kh28 x1 x2 x3 i = some (vR, iR) → aJ p l e R s m args below meth c (MQ below (aPost D cA ad0 A (sh, i0, lo0, rv0) (some (.int vR)) (sh, iR, lo, rv)) args s (sh.length - sh.length) (aSn sh - aSn sh) A) D cA A ad0 7 sh.length (aSn sh) 28 [some (.ref (100 + 50)), some (.int x1), some (.int x2), some (.int x3), none, none, none] [] (sh, i, lo, rv)) (Hkh42 : ∀ (x1 : Int32) (x2 : Int32) (x3 : Int32) (x4 : Int32) (x5 : Int32) (i : Nat → Nat → Int32), aGood sh rv → kh42 x1 x2 x3 x4 x5 i = some (vR, iR) → aJ p l e R s m args below meth c (MQ below (aPost D cA ad0 A (sh, i0, lo0, rv0) (some (.int vR)) (sh, iR, lo, rv)) args s (sh.length - sh.length) (aSn sh - aSn sh) A) D cA A ad0 7 sh.length (aSn sh) 42 [some (.ref (100 + 50)), some (.int x1), some (.int x2), some (.int x3), some (.int x4), some (.int x5), none] [] (sh, i, lo, rv)) {x1 : Int32} {x2 : Int32} {x3 : Int32} {x4 : Int32} {x5 : Int32} (hG : aGood sh rv) (hf : fX12_best_91 kh28 kh42 x1 x2 x3 x4 x5 i = some (vR, iR)) : aJ p l e R s m args below meth c (MQ below (aPost D cA ad0 A (sh, i0, lo0, rv0) (some (.int vR)) (sh, iR, lo, rv)) args s (sh.length - sh.length) (aSn sh - aSn sh) A) D cA A ad0 7 sh.length (aSn sh) 91 [some (.ref (100 + 50)), some (.int x1), some (.int x2), some (.int x3), some (.int x4), some (.int x5), none] [] (sh, i, lo, rv) := by
  unfold fX12_best_91 at hf
  refine j_iconst hX dX12_best_91 ic_1 ?_
  refine j_goto (tgt := 96) hX dX12_best_92 (by decide) ?_
  exact aJx (kX12_best_96 hX hr hlk hRf hRl Hkh28 Hkh42 hG  hf) (And.intro rfl (And.intro rfl (And.intro rfl (And.intro rfl (And.intro rfl (And.intro rfl (rfl)))))))
def fX12_best_95 (kh28 : Int32 → Int32 → Int32 → (Nat → Nat → Int32) → Option ((Int32) × (Nat → Nat → Int32))) (kh42 : Int32 → Int32 → Int32 → Int32 → Int32 → (Nat → Nat → Int32) → Option ((Int32) × (Nat → Nat → Int32))) (x1 : Int32) (x2 : Int32) (x3 : Int32) (x4 : Int32) (x5 : Int32) (i : Nat → Nat → Int32) : Option ((Int32) × (Nat → Nat → Int32)) := fX12_best_96 kh28 kh42 x1 x2 x3 x4 x5 0 i
theorem kX12_best_95  {vR : Int32} {iR : Nat → Nat → Int32} (hX : aX p s m args c RX12 cX12_best 7 D cA A ad0) (hr : meth.sig.returnType = (some .int)) (hlk : meth.locks = false) (hRf : 3 ≤ R.frames) (hRl : 64 * 3 ≤ R.locals) {kh28 : Int32 → Int32 → Int32 → (Nat → Nat → Int32) → Option ((Int32) × (Nat → Nat → Int32))} {kh42 : Int32 → Int32 → Int32 → Int32 → Int32 → (Nat → Nat → Int32) → Option ((Int32) × (Nat → Nat → Int32))} (Hkh28 : ∀ (x1 : Int32) (x2 : Int32) (x3 : Int32) (i : Nat → Nat → Int32), aGood sh rv → kh28 x1 x2 x3 i = some (vR, iR) → aJ p l e R s m args below meth c (MQ below (aPost D cA ad0 A (sh, i0, lo0, rv0) (some (.int vR)) (sh, iR, lo, rv)) args s (sh.length - sh.length) (aSn sh - aSn sh) A) D cA A ad0 7 sh.length (aSn sh) 28 [some (.ref (100 + 50)), some (.int x1), some (.int x2), some (.int x3), none, none, none] [] (sh, i, lo, rv)) (Hkh42 : ∀ (x1 : Int32) (x2 : Int32) (x3 : Int32) (x4 : Int32) (x5 : Int32) (i : Nat → Nat → Int32), aGood sh rv → kh42 x1 x2 x3 x4 x5 i = some (vR, iR) → aJ p l e R s m args below meth c (MQ below (aPost D cA ad0 A (sh, i0, lo0, rv0) (some (.int vR)) (sh, iR, lo, rv)) args s (sh.length - sh.length) (aSn sh - aSn sh) A) D cA A ad0 7 sh.length (aSn sh) 42 [some (.ref (100 + 50)), some (.int x1), some (.int x2), some (.int x3), some (.int x4), some (.int x5), none] [] (sh, i, lo, rv)) {x1 : Int32} {x2 : Int32} {x3 : Int32} {x4 : Int32} {x5 : Int32} (hG : aGood sh rv) (hf : fX12_best_95 kh28 kh42 x1 x2 x3 x4 x5 i = some (vR, iR)) : aJ p l e R s m args below meth c (MQ below (aPost D cA ad0 A (sh, i0, lo0, rv0) (some (.int vR)) (sh, iR, lo, rv)) args s (sh.length - sh.length) (aSn sh - aSn sh) A) D cA A ad0 7 sh.length (aSn sh) 95 [some (.ref (100 + 50)), some (.int x1), some (.int x2), some (.int x3), some (.int x4), some (.int x5), none] [] (sh, i, lo, rv) := by
  unfold fX12_best_95 at hf
  refine j_iconst hX dX12_best_95 ic_0 ?_
  exact aJx (kX12_best_96 hX hr hlk hRf hRl Hkh28 Hkh42 hG  hf) (And.intro rfl (And.intro rfl (And.intro rfl (And.intro rfl (And.intro rfl (And.intro rfl (rfl)))))))
def fX12_best_145 (kh28 : Int32 → Int32 → Int32 → (Nat → Nat → Int32) → Option ((Int32) × (Nat → Nat → Int32))) (x1 : Int32) (x2 : Int32) (x3 : Int32) (i : Nat → Nat → Int32) : Option ((Int32) × (Nat → Nat → Int32)) := kh28 x1 x2 (x3 + 1) i
theorem kX12_best_145  {vR : Int32} {iR : Nat → Nat → Int32} (hX : aX p s m args c RX12 cX12_best 7 D cA A ad0) (hr : meth.sig.returnType = (some .int)) (hlk : meth.locks = false) (hRf : 3 ≤ R.frames) (hRl : 64 * 3 ≤ R.locals) {kh28 : Int32 → Int32 → Int32 → (Nat → Nat → Int32) → Option ((Int32) × (Nat → Nat → Int32))} (Hkh28 : ∀ (x1 : Int32) (x2 : Int32) (x3 : Int32) (i : Nat → Nat → Int32), aGood sh rv → kh28 x1 x2 x3 i = some (vR, iR) → aJ p l e R s m args below meth c (MQ below (aPost D cA ad0 A (sh, i0, lo0, rv0) (some (.int vR)) (sh, iR, lo, rv)) args s (sh.length - sh.length) (aSn sh - aSn sh) A) D cA A ad0 7 sh.length (aSn sh) 28 [some (.ref (100 + 50)), some (.int x1), some (.int x2), some (.int x3), none, none, none] [] (sh, i, lo, rv)) {x1 : Int32} {x2 : Int32} {x3 : Int32} (hG : aGood sh rv) (hf : fX12_best_145 kh28 x1 x2 x3 i = some (vR, iR)) : aJ p l e R s m args below meth c (MQ below (aPost D cA ad0 A (sh, i0, lo0, rv0) (some (.int vR)) (sh, iR, lo, rv)) args s (sh.length - sh.length) (aSn sh - aSn sh) A) D cA A ad0 7 sh.length (aSn sh) 145 [some (.ref (100 + 50)), some (.int x1), some (.int x2), some (.int x3), none, none, none] [] (sh, i, lo, rv) := by
  unfold fX12_best_145 at hf
  refine j_iinc hX dX12_best_145 rfl (congrArg (_ + ·) ic_1) (by decide) rfl ?_
  refine j_goto (tgt := 28) hX dX12_best_148 (by decide) ?_
  exact aJx (Hkh28 _ _ _ _ hG  hf) (And.intro rfl (And.intro rfl (And.intro rfl (And.intro rfl (rfl)))))
def fX12_best_140 (kh28 : Int32 → Int32 → Int32 → (Nat → Nat → Int32) → Option ((Int32) × (Nat → Nat → Int32))) (x3 : Int32) (x4 : Int32) (i : Nat → Nat → Int32) : Option ((Int32) × (Nat → Nat → Int32)) := fX12_best_145 kh28 x3 x4 x3 i
theorem kX12_best_140  {vR : Int32} {iR : Nat → Nat → Int32} (hX : aX p s m args c RX12 cX12_best 7 D cA A ad0) (hr : meth.sig.returnType = (some .int)) (hlk : meth.locks = false) (hRf : 3 ≤ R.frames) (hRl : 64 * 3 ≤ R.locals) {kh28 : Int32 → Int32 → Int32 → (Nat → Nat → Int32) → Option ((Int32) × (Nat → Nat → Int32))} (Hkh28 : ∀ (x1 : Int32) (x2 : Int32) (x3 : Int32) (i : Nat → Nat → Int32), aGood sh rv → kh28 x1 x2 x3 i = some (vR, iR) → aJ p l e R s m args below meth c (MQ below (aPost D cA ad0 A (sh, i0, lo0, rv0) (some (.int vR)) (sh, iR, lo, rv)) args s (sh.length - sh.length) (aSn sh - aSn sh) A) D cA A ad0 7 sh.length (aSn sh) 28 [some (.ref (100 + 50)), some (.int x1), some (.int x2), some (.int x3), none, none, none] [] (sh, i, lo, rv)) {x3 : Int32} {x4 : Int32} (hG : aGood sh rv) (hf : fX12_best_140 kh28 x3 x4 i = some (vR, iR)) : aJ p l e R s m args below meth c (MQ below (aPost D cA ad0 A (sh, i0, lo0, rv0) (some (.int vR)) (sh, iR, lo, rv)) args s (sh.length - sh.length) (aSn sh - aSn sh) A) D cA A ad0 7 sh.length (aSn sh) 140 [some (.ref (100 + 50)), none, none, some (.int x3), some (.int x4), none, none] [] (sh, i, lo, rv) := by
  unfold fX12_best_140 at hf
  refine j_iload_n hX dX12_best_140 rfl ?_
  refine j_istore_n hX dX12_best_141 (by decide) rfl ?_
  refine j_iload hX dX12_best_142 rfl ?_
  refine j_istore_n hX dX12_best_144 (by decide) rfl ?_
  exact aJx (kX12_best_145 hX hr hlk hRf hRl Hkh28 hG  hf) (And.intro rfl (And.intro rfl (And.intro rfl (And.intro rfl (rfl)))))
def fX12_best_42 (kh28 : Int32 → Int32 → Int32 → (Nat → Nat → Int32) → Option ((Int32) × (Nat → Nat → Int32))) : Nat → Int32 → Int32 → Int32 → Int32 → Int32 → (Nat → Nat → Int32) → Option ((Int32) × (Nat → Nat → Int32))
  | 0, _, _, _, _, _, _ => none
  | n + 1, x1, x2, x3, x4, x5, i => if ((10 : Int32) * (i 50 26)) ≤ x5 then (lt (if 0 ≤ x4 then x4 else 0 - x4) fun t5 =>
    if x1 = (-1) then (fX12_best_140 kh28 x3 t5 i) else (if t5 < x2 then (fX12_best_140 kh28 x3 t5 i) else (fX12_best_145 kh28 x1 x2 x3 i))) else (bn1 (fX12_wayOf x5 i) fun v6 =>
    if v6 = 99 then (fX12_best_113 kh28 (fX12_best_42 kh28 n) x1 x2 x3 x4 x5 i) else (if x5 ≤ 0 then (fX12_best_95 kh28 (fX12_best_42 kh28 n) x1 x2 x3 x4 x5 i) else (if (x5 / (10 : Int32)) = x3 then (fX12_best_91 kh28 (fX12_best_42 kh28 n) x1 x2 x3 x4 x5 i) else (if (x5 - x5 / (10 : Int32) * (10 : Int32)) = x3 then (fX12_best_91 kh28 (fX12_best_42 kh28 n) x1 x2 x3 x4 x5 i) else (fX12_best_95 kh28 (fX12_best_42 kh28 n) x1 x2 x3 x4 x5 i)))))
theorem kX12_best_42  {vR : Int32} {iR : Nat → Nat → Int32} (hX : aX p s m args c RX12 cX12_best 7 D cA A ad0) (hr : meth.sig.returnType = (some .int)) (hlk : meth.locks = false) (hRf : 3 ≤ R.frames) (hRl : 64 * 3 ≤ R.locals) {kh28 : Int32 → Int32 → Int32 → (Nat → Nat → Int32) → Option ((Int32) × (Nat → Nat → Int32))} (Hkh28 : ∀ (x1 : Int32) (x2 : Int32) (x3 : Int32) (i : Nat → Nat → Int32), aGood sh rv → kh28 x1 x2 x3 i = some (vR, iR) → aJ p l e R s m args below meth c (MQ below (aPost D cA ad0 A (sh, i0, lo0, rv0) (some (.int vR)) (sh, iR, lo, rv)) args s (sh.length - sh.length) (aSn sh - aSn sh) A) D cA A ad0 7 sh.length (aSn sh) 28 [some (.ref (100 + 50)), some (.int x1), some (.int x2), some (.int x3), none, none, none] [] (sh, i, lo, rv)) : ∀ (n : Nat) (x1 : Int32) (x2 : Int32) (x3 : Int32) (x4 : Int32) (x5 : Int32) (i : Nat → Nat → Int32), aGood sh rv → fX12_best_42 kh28 n x1 x2 x3 x4 x5 i = some (vR, iR) → aJ p l e R s m args below meth c (MQ below (aPost D cA ad0 A (sh, i0, lo0, rv0) (some (.int vR)) (sh, iR, lo, rv)) args s (sh.length - sh.length) (aSn sh - aSn sh) A) D cA A ad0 7 sh.length (aSn sh) 42 [some (.ref (100 + 50)), some (.int x1), some (.int x2), some (.int x3), some (.int x4), some (.int x5), none] [] (sh, i, lo, rv) := by
  intro n
  induction n with
  | zero => intros; rename_i hf; cases hf
  | succ n ih =>
    intro x1 x2 x3 x4 x5 i hG hf
    rw [fX12_best_42] at hf
    refine j_iload hX dX12_best_42 rfl ?_
    refine j_bipush hX dX12_best_44 bp_10 ?_
    refine j_aload_n hX dX12_best_46 rfl ?_
    refine j_getI (k := 26) hX kX12 (by decide) fk_X12_297 dX12_best_47 (sh_50 hG) rfl ?_
    refine j_imul hX dX12_best_50 ?_
    refine jpc (b := 51) rfl ?_
    refine j_icmp_ge (tgt := 119) hX dX12_best_51 (by decide) (fun hc => ?_) (fun hc => ?_)
    · have hf := ifp hc hf
      refine j_iload hX dX12_best_119 rfl ?_
      refine j_abs hX lk_X12_485 dX12_best_121 ⟨by omega, Nat.le_trans (Nat.le_of_ble_eq_true rfl) hRl⟩ (Nat.le_add_right _ _) (Nat.le_add_right _ _) ?_
      have hf := ltd hf
      refine j_istore hX dX12_best_124 (by decide) rfl ?_
      refine j_iload_n hX dX12_best_126 rfl ?_
      refine j_iconst hX dX12_best_127 ic_m1 ?_
      refine jpc (b := 128) rfl ?_
      refine j_icmp_eq (tgt := 140) hX dX12_best_128 (by decide) (fun hc => ?_) (fun hc => ?_)
      · have hf := ifp hc hf
        exact aJx (kX12_best_140 hX hr hlk hRf hRl Hkh28 hG  hf) (And.intro rfl (And.intro rfl (And.intro rfl (rfl))))
      · have hf := ifn hc hf
        refine j_iload hX dX12_best_131 rfl ?_
        refine j_iload_n hX dX12_best_133 rfl ?_
        refine j_icmp_lt (tgt := 140) hX dX12_best_134 (by decide) (fun hc => ?_) (fun hc => ?_)
        · have hf := ifp hc hf
          exact aJx (kX12_best_140 hX hr hlk hRf hRl Hkh28 hG  hf) (And.intro rfl (And.intro rfl (And.intro rfl (rfl))))
        · have hf := ifn hc hf
          refine j_goto (tgt := 145) hX dX12_best_137 (by decide) ?_
          exact aJx (kX12_best_145 hX hr hlk hRf hRl Hkh28 hG  hf) (And.intro rfl (And.intro rfl (And.intro rfl (And.intro rfl (rfl)))))
    · have hf := ifn hc hf
      refine j_aload_n hX dX12_best_54 rfl ?_
      refine j_iload hX dX12_best_55 rfl ?_
      obtain ⟨v6, hh7, hf⟩ := bd1 hf
      refine j_cV1i hX lk_X12_479 kX12 dX12_best_57 (sh_50 hG) (okX12_wayOf hG hh7) rfl rfl (rmm (by omega) hRf hRl (by decide)) (Nat.le_of_ble_eq_true rfl) (Nat.le_add_right _ _) (Nat.le_add_right _ _) ?_
      refine j_bipush hX dX12_best_60 bp_99 ?_
      refine j_icmp_ne (tgt := 68) hX dX12_best_62 (by decide) (fun hc => ?_) (fun hc => ?_)
      · have hf := ifn hc hf
        refine j_iload hX dX12_best_68 rfl ?_
        refine j_if_le (tgt := 95) hX dX12_best_70 (by decide) (fun hc => ?_) (fun hc => ?_)
        · have hf := ifp hc hf
          exact aJx (kX12_best_95 hX hr hlk hRf hRl Hkh28 ih hG  hf) (And.intro rfl (And.intro rfl (And.intro rfl (And.intro rfl (And.intro rfl (And.intro rfl (rfl)))))))
        · have hf := ifn hc hf
          refine j_iload hX dX12_best_73 rfl ?_
          refine j_bipush hX dX12_best_75 bp_10 ?_
          refine j_idiv hX dX12_best_77 (by decide) ?_
          refine j_iload_n hX dX12_best_78 rfl ?_
          refine j_icmp_eq (tgt := 91) hX dX12_best_79 (by decide) (fun hc => ?_) (fun hc => ?_)
          · have hf := ifp hc hf
            exact aJx (kX12_best_91 hX hr hlk hRf hRl Hkh28 ih hG  hf) (And.intro rfl (And.intro rfl (And.intro rfl (And.intro rfl (And.intro rfl (And.intro rfl (rfl)))))))
          · have hf := ifn hc hf
            refine j_iload hX dX12_best_82 rfl ?_
            refine j_bipush hX dX12_best_84 bp_10 ?_
            refine j_irem hX dX12_best_86 (by decide) ?_
            refine j_iload_n hX dX12_best_87 rfl ?_
            refine j_icmp_ne (tgt := 95) hX dX12_best_88 (by decide) (fun hc => ?_) (fun hc => ?_)
            · have hf := ifn hc hf
              exact aJx (kX12_best_95 hX hr hlk hRf hRl Hkh28 ih hG  hf) (And.intro rfl (And.intro rfl (And.intro rfl (And.intro rfl (And.intro rfl (And.intro rfl (rfl)))))))
            · have hf := ifp hc hf
              exact aJx (kX12_best_91 hX hr hlk hRf hRl Hkh28 ih hG  hf) (And.intro rfl (And.intro rfl (And.intro rfl (And.intro rfl (And.intro rfl (And.intro rfl (rfl)))))))
      · have hf := ifp hc hf
        refine j_goto (tgt := 113) hX dX12_best_65 (by decide) ?_
        exact aJx (kX12_best_113 hX hr hlk hRf hRl Hkh28 ih hG  hf) (And.intro rfl (And.intro rfl (And.intro rfl (And.intro rfl (And.intro rfl (And.intro rfl (rfl)))))))
def fX12_best_28 : Nat → Int32 → Int32 → Int32 → (Nat → Nat → Int32) → Option ((Int32) × (Nat → Nat → Int32))
  | 0, _, _, _, _ => none
  | n + 1, x1, x2, x3, i => if (i 50 26) ≤ x3 then (some (x1, i)) else (fX12_best_42 (fX12_best_28 n) fuel x1 x2 x3 0 0 i)
theorem kX12_best_28  {vR : Int32} {iR : Nat → Nat → Int32} (hX : aX p s m args c RX12 cX12_best 7 D cA A ad0) (hr : meth.sig.returnType = (some .int)) (hlk : meth.locks = false) (hRf : 3 ≤ R.frames) (hRl : 64 * 3 ≤ R.locals) : ∀ (n : Nat) (x1 : Int32) (x2 : Int32) (x3 : Int32) (i : Nat → Nat → Int32), aGood sh rv → fX12_best_28 n x1 x2 x3 i = some (vR, iR) → aJ p l e R s m args below meth c (MQ below (aPost D cA ad0 A (sh, i0, lo0, rv0) (some (.int vR)) (sh, iR, lo, rv)) args s (sh.length - sh.length) (aSn sh - aSn sh) A) D cA A ad0 7 sh.length (aSn sh) 28 [some (.ref (100 + 50)), some (.int x1), some (.int x2), some (.int x3), none, none, none] [] (sh, i, lo, rv) := by
  intro n
  induction n with
  | zero => intros; rename_i hf; cases hf
  | succ n ih =>
    intro x1 x2 x3 i hG hf
    rw [fX12_best_28] at hf
    refine j_iload_n hX dX12_best_28 rfl ?_
    refine j_aload_n hX dX12_best_29 rfl ?_
    refine j_getI (k := 26) hX kX12 (by decide) fk_X12_297 dX12_best_30 (sh_50 hG) rfl ?_
    refine j_icmp_ge (tgt := 151) hX dX12_best_33 (by decide) (fun hc => ?_) (fun hc => ?_)
    · have hf := ifp hc hf
      refine j_iload_n hX dX12_best_151 rfl ?_
      cases hf
      exact j_ret hX hr hlk rfl dX12_best_152
    · have hf := ifn hc hf
      refine j_iconst hX dX12_best_36 ic_0 ?_
      refine j_istore hX dX12_best_37 (by decide) rfl ?_
      refine j_iconst hX dX12_best_39 ic_0 ?_
      refine j_istore hX dX12_best_40 (by decide) rfl ?_
      exact aJx (kX12_best_42 hX hr hlk hRf hRl ih fuel _ _ _ _ _ _ hG  hf) (And.intro rfl (And.intro rfl (And.intro rfl (And.intro rfl (And.intro rfl (And.intro rfl (rfl)))))))
def fX12_best (i : Nat → Nat → Int32) : Option ((Int32) × (Nat → Nat → Int32)) := lt (u2 i 50 0 0) fun i1 =>
    if (i1 50 26) = 0 then (some ((-1), i1)) else (bn2 (fX12_fit (-1) i1) fun v2 i3 =>
    if v2 = 0 then (some ((-1), i3)) else (fX12_best_28 fuel (-1) 0 0 i3))
theorem kX12_best  {vR : Int32} {iR : Nat → Nat → Int32} (hX : aX p s m args c RX12 cX12_best 7 D cA A ad0) (hr : meth.sig.returnType = (some .int)) (hlk : meth.locks = false) (hRf : 3 ≤ R.frames) (hRl : 64 * 3 ≤ R.locals) (hG : aGood sh rv) (hf : fX12_best i = some (vR, iR)) : aJ p l e R s m args below meth c (MQ below (aPost D cA ad0 A (sh, i0, lo0, rv0) (some (.int vR)) (sh, iR, lo, rv)) args s (sh.length - sh.length) (aSn sh - aSn sh) A) D cA A ad0 7 sh.length (aSn sh) 0 [some (.ref (100 + 50)), none, none, none, none, none, none] [] (sh, i, lo, rv) := by
  unfold fX12_best at hf
  refine j_aload_n hX dX12_best_0 rfl ?_
  refine j_iconst hX dX12_best_1 ic_0 ?_
  have hf := ltd hf
  refine j_putI (k := 0) hX kX12 (by decide) fk_X12_99 dX12_best_2 (sh_50 hG) rfl rfl rfl rfl ?_
  refine j_aload_n hX dX12_best_5 rfl ?_
  refine j_getI (k := 26) hX kX12 (by decide) fk_X12_297 dX12_best_6 (sh_50 hG) rfl ?_
  refine jpc (b := 9) rfl ?_
  refine j_if_eq (tgt := 20) hX dX12_best_9 (by decide) (fun hc => ?_) (fun hc => ?_)
  · have hf := ifp hc hf
    refine j_iconst hX dX12_best_20 ic_m1 ?_
    cases hf
    exact j_ret hX hr hlk rfl dX12_best_21
  · have hf := ifn hc hf
    refine j_aload_n hX dX12_best_12 rfl ?_
    refine j_iconst hX dX12_best_13 ic_m1 ?_
    obtain ⟨v2, i3, hh4, hf⟩ := bd2 hf
    refine j_cV1i hX lk_X12_482 kX12 dX12_best_14 (sh_50 hG) (okX12_fit hG hh4) rfl rfl (rmm (by omega) hRf hRl (by decide)) (Nat.le_of_ble_eq_true rfl) (Nat.le_add_right _ _) (Nat.le_add_right _ _) ?_
    refine j_if_ne (tgt := 22) hX dX12_best_17 (by decide) (fun hc => ?_) (fun hc => ?_)
    · have hf := ifn hc hf
      refine j_iconst hX dX12_best_22 ic_m1 ?_
      refine j_istore_n hX dX12_best_23 (by decide) rfl ?_
      refine j_iconst hX dX12_best_24 ic_0 ?_
      refine j_istore_n hX dX12_best_25 (by decide) rfl ?_
      refine j_iconst hX dX12_best_26 ic_0 ?_
      refine jpc (b := 27) rfl ?_
      refine j_istore_n hX dX12_best_27 (by decide) rfl ?_
      exact aJx (kX12_best_28 hX hr hlk hRf hRl fuel _ _ _ _ hG  hf) (And.intro rfl (And.intro rfl (And.intro rfl (And.intro rfl (rfl)))))
    · have hf := ifp hc hf
      refine j_iconst hX dX12_best_20 ic_m1 ?_
      cases hf
      exact j_ret hX hr hlk rfl dX12_best_21
theorem okX12_best {l : Launch} {sh : List aSh} {i : Nat → Nat → Int32} {lo : Nat → Nat → Int64} {rv : Nat → Nat → Option Nat}  {vR : Int32} {iR : Nat → Nat → Int32} (hG : aGood sh rv) (hf : fX12_best i = some (vR, iR)) : aM l yX12_best cX12_best 7 (some .int) 3 [.ref (100 + 50)] (sh, i, lo, rv) (some (.int vR)) (sh, iR, lo, rv) :=
  aM_of (by decide) (Nat.le_of_ble_eq_true rfl) (Nat.le_refl _) (Nat.le_refl _) (fun p e s m args below meth c D cA A ad0 hX hr hlk hnm => kX12_best hX hr hlk (Nat.le_refl _) (Nat.le_refl _) hG hf)
def fX12_heads_63 (kh36 : Int32 → Int32 → Int32 → Int32 → (Nat → Nat → Int32) → Option ((Int32) × (Nat → Nat → Int32))) (x1 : Int32) (x2 : Int32) (x4 : Int32) (s0 : Int32) (s1 : Int32) (i : Nat → Nat → Int32) : Option ((Int32) × (Nat → Nat → Int32)) := kh36 x1 x2 (s0 ||| s1) (x4 + 1) i
theorem kX12_heads_63  {vR : Int32} {iR : Nat → Nat → Int32} (hX : aX p s m args c RX12 cX12_heads 6 D cA A ad0) (hr : meth.sig.returnType = (some .int)) (hlk : meth.locks = false) (hRf : 1 ≤ R.frames) (hRl : 64 * 1 ≤ R.locals) {kh36 : Int32 → Int32 → Int32 → Int32 → (Nat → Nat → Int32) → Option ((Int32) × (Nat → Nat → Int32))} (Hkh36 : ∀ (x1 : Int32) (x2 : Int32) (x3 : Int32) (x4 : Int32) (i : Nat → Nat → Int32), aGood sh rv → kh36 x1 x2 x3 x4 i = some (vR, iR) → aJ p l e R s m args below meth c (MQ below (aPost D cA ad0 A (sh, i0, lo0, rv0) (some (.int vR)) (sh, iR, lo, rv)) args s (sh.length - sh.length) (aSn sh - aSn sh) A) D cA A ad0 6 sh.length (aSn sh) 36 [some (.ref (100 + 50)), some (.int x1), some (.int x2), some (.int x3), some (.int x4), none] [] (sh, i, lo, rv)) {x1 : Int32} {x2 : Int32} {x4 : Int32} {s0 : Int32} {s1 : Int32} (hG : aGood sh rv) (hf : fX12_heads_63 kh36 x1 x2 x4 s0 s1 i = some (vR, iR)) : aJ p l e R s m args below meth c (MQ below (aPost D cA ad0 A (sh, i0, lo0, rv0) (some (.int vR)) (sh, iR, lo, rv)) args s (sh.length - sh.length) (aSn sh - aSn sh) A) D cA A ad0 6 sh.length (aSn sh) 63 [some (.ref (100 + 50)), some (.int x1), some (.int x2), none, some (.int x4), none] [.int s1, .int s0] (sh, i, lo, rv) := by
  unfold fX12_heads_63 at hf
  refine j_ior hX dX12_heads_63 ?_
  refine j_istore_n hX dX12_heads_64 (by decide) rfl ?_
  refine j_iinc hX dX12_heads_65 rfl (congrArg (_ + ·) ic_1) (by decide) rfl ?_
  refine j_goto (tgt := 36) hX dX12_heads_68 (by decide) ?_
  exact aJx (Hkh36 _ _ _ _ _ hG  hf) (And.intro rfl (And.intro rfl (And.intro rfl (And.intro rfl (And.intro rfl (rfl))))))
def fX12_heads_121 (kh77 : Int32 → Int32 → Int32 → Int32 → Int32 → (Nat → Nat → Int32) → Option ((Int32) × (Nat → Nat → Int32))) (x1 : Int32) (x2 : Int32) (x3 : Int32) (x4 : Int32) (x5 : Int32) (i : Nat → Nat → Int32) : Option ((Int32) × (Nat → Nat → Int32)) := kh77 x1 x2 x3 x4 (x5 + 1) i
theorem kX12_heads_121  {vR : Int32} {iR : Nat → Nat → Int32} (hX : aX p s m args c RX12 cX12_heads 6 D cA A ad0) (hr : meth.sig.returnType = (some .int)) (hlk : meth.locks = false) (hRf : 1 ≤ R.frames) (hRl : 64 * 1 ≤ R.locals) {kh77 : Int32 → Int32 → Int32 → Int32 → Int32 → (Nat → Nat → Int32) → Option ((Int32) × (Nat → Nat → Int32))} (Hkh77 : ∀ (x1 : Int32) (x2 : Int32) (x3 : Int32) (x4 : Int32) (x5 : Int32) (i : Nat → Nat → Int32), aGood sh rv → kh77 x1 x2 x3 x4 x5 i = some (vR, iR) → aJ p l e R s m args below meth c (MQ below (aPost D cA ad0 A (sh, i0, lo0, rv0) (some (.int vR)) (sh, iR, lo, rv)) args s (sh.length - sh.length) (aSn sh - aSn sh) A) D cA A ad0 6 sh.length (aSn sh) 77 [some (.ref (100 + 50)), some (.int x1), some (.int x2), some (.int x3), some (.int x4), some (.int x5)] [] (sh, i, lo, rv)) {x1 : Int32} {x2 : Int32} {x3 : Int32} {x4 : Int32} {x5 : Int32} (hG : aGood sh rv) (hf : fX12_heads_121 kh77 x1 x2 x3 x4 x5 i = some (vR, iR)) : aJ p l e R s m args below meth c (MQ below (aPost D cA ad0 A (sh, i0, lo0, rv0) (some (.int vR)) (sh, iR, lo, rv)) args s (sh.length - sh.length) (aSn sh - aSn sh) A) D cA A ad0 6 sh.length (aSn sh) 121 [some (.ref (100 + 50)), some (.int x1), some (.int x2), some (.int x3), some (.int x4), some (.int x5)] [] (sh, i, lo, rv) := by
  unfold fX12_heads_121 at hf
  refine j_iinc hX dX12_heads_121 rfl (congrArg (_ + ·) ic_1) (by decide) rfl ?_
  refine j_goto (tgt := 77) hX dX12_heads_124 (by decide) ?_
  exact aJx (Hkh77 _ _ _ _ _ _ hG  hf) (And.intro rfl (And.intro rfl (And.intro rfl (And.intro rfl (And.intro rfl (And.intro rfl (rfl)))))))
def fX12_heads_77 : Nat → Int32 → Int32 → Int32 → Int32 → Int32 → (Nat → Nat → Int32) → Option ((Int32) × (Nat → Nat → Int32))
  | 0, _, _, _, _, _, _ => none
  | n + 1, x1, x2, x3, x4, x5, i => if x3 < x5 then (if x2 = (-1) then (some (x4, i)) else (some ((-1), i))) else (if (x5 &&& (x3 ^^^ ((-1) : Int32))) = 0 then (bn1 (fJ6_bitCount_0f7a4 x5) fun v6 =>
    if ((i 50 28) + v6) = x1 then (if x4 = x2 then (some (x5, i)) else (fX12_heads_121 (fX12_heads_77 n) x1 x2 x3 (x4 + 1) x5 i)) else (fX12_heads_121 (fX12_heads_77 n) x1 x2 x3 x4 x5 i)) else (fX12_heads_121 (fX12_heads_77 n) x1 x2 x3 x4 x5 i))
theorem kX12_heads_77  {vR : Int32} {iR : Nat → Nat → Int32} (hX : aX p s m args c RX12 cX12_heads 6 D cA A ad0) (hr : meth.sig.returnType = (some .int)) (hlk : meth.locks = false) (hRf : 1 ≤ R.frames) (hRl : 64 * 1 ≤ R.locals) : ∀ (n : Nat) (x1 : Int32) (x2 : Int32) (x3 : Int32) (x4 : Int32) (x5 : Int32) (i : Nat → Nat → Int32), aGood sh rv → fX12_heads_77 n x1 x2 x3 x4 x5 i = some (vR, iR) → aJ p l e R s m args below meth c (MQ below (aPost D cA ad0 A (sh, i0, lo0, rv0) (some (.int vR)) (sh, iR, lo, rv)) args s (sh.length - sh.length) (aSn sh - aSn sh) A) D cA A ad0 6 sh.length (aSn sh) 77 [some (.ref (100 + 50)), some (.int x1), some (.int x2), some (.int x3), some (.int x4), some (.int x5)] [] (sh, i, lo, rv) := by
  intro n
  induction n with
  | zero => intros; rename_i hf; cases hf
  | succ n ih =>
    intro x1 x2 x3 x4 x5 i hG hf
    rw [fX12_heads_77] at hf
    refine j_iload hX dX12_heads_77 rfl ?_
    refine j_iload_n hX dX12_heads_79 rfl ?_
    refine j_icmp_gt (tgt := 127) hX dX12_heads_80 (by decide) (fun hc => ?_) (fun hc => ?_)
    · have hf := ifp hc hf
      refine j_iload_n hX dX12_heads_127 rfl ?_
      refine j_iconst hX dX12_heads_128 ic_m1 ?_
      refine j_icmp_ne (tgt := 137) hX dX12_heads_129 (by decide) (fun hc => ?_) (fun hc => ?_)
      · have hf := ifn hc hf
        refine j_iconst hX dX12_heads_137 ic_m1 ?_
        cases hf
        exact j_ret hX hr hlk rfl dX12_heads_138
      · have hf := ifp hc hf
        refine j_iload hX dX12_heads_132 rfl ?_
        refine j_goto (tgt := 138) hX dX12_heads_134 (by decide) ?_
        cases hf
        exact j_ret hX hr hlk rfl dX12_heads_138
    · have hf := ifn hc hf
      refine j_iload hX dX12_heads_83 rfl ?_
      refine j_iload_n hX dX12_heads_85 rfl ?_
      refine j_iconst hX dX12_heads_86 ic_m1 ?_
      refine j_ixor hX dX12_heads_87 ?_
      refine j_iand hX dX12_heads_88 ?_
      refine jpc (b := 89) rfl ?_
      refine j_if_ne (tgt := 121) hX dX12_heads_89 (by decide) (fun hc => ?_) (fun hc => ?_)
      · have hf := ifn hc hf
        exact aJx (kX12_heads_121 hX hr hlk hRf hRl ih hG  hf) (And.intro rfl (And.intro rfl (And.intro rfl (And.intro rfl (And.intro rfl (And.intro rfl (rfl)))))))
      · have hf := ifp hc hf
        refine j_aload_n hX dX12_heads_92 rfl ?_
        refine j_getI (k := 28) hX kX12 (by decide) fk_X12_303 dX12_heads_93 (sh_50 hG) rfl ?_
        refine j_iload hX dX12_heads_96 rfl ?_
        obtain ⟨v6, hh7, hf⟩ := bd1 hf
        refine j_cS1i hX lk_X12_490 dX12_heads_98 (okJ6_bitCount_0f7a4 hG hh7) rfl rfl (rmm (by omega) hRf hRl (by decide)) (Nat.le_of_ble_eq_true rfl) (Nat.le_add_right _ _) (Nat.le_add_right _ _) ?_
        refine j_iadd hX dX12_heads_101 ?_
        refine jpc (b := 102) rfl ?_
        refine j_iload_n hX dX12_heads_102 rfl ?_
        refine j_icmp_eq (tgt := 109) hX dX12_heads_103 (by decide) (fun hc => ?_) (fun hc => ?_)
        · have hf := ifp hc hf
          refine j_iload hX dX12_heads_109 rfl ?_
          refine j_iload_n hX dX12_heads_111 rfl ?_
          refine j_icmp_ne (tgt := 118) hX dX12_heads_112 (by decide) (fun hc => ?_) (fun hc => ?_)
          · have hf := ifn hc hf
            refine j_iinc hX dX12_heads_118 rfl (congrArg (_ + ·) ic_1) (by decide) rfl ?_
            exact aJx (kX12_heads_121 hX hr hlk hRf hRl ih hG  hf) (And.intro rfl (And.intro rfl (And.intro rfl (And.intro rfl (And.intro rfl (And.intro rfl (rfl)))))))
          · have hf := ifp hc hf
            refine j_iload hX dX12_heads_115 rfl ?_
            cases hf
            exact j_ret hX hr hlk rfl dX12_heads_117
        · have hf := ifn hc hf
          refine j_goto (tgt := 121) hX dX12_heads_106 (by decide) ?_
          exact aJx (kX12_heads_121 hX hr hlk hRf hRl ih hG  hf) (And.intro rfl (And.intro rfl (And.intro rfl (And.intro rfl (And.intro rfl (And.intro rfl (rfl)))))))
def fX12_heads_36 : Nat → Int32 → Int32 → Int32 → Int32 → (Nat → Nat → Int32) → Option ((Int32) × (Nat → Nat → Int32))
  | 0, _, _, _, _, _ => none
  | n + 1, x1, x2, x3, x4, i => if (i 50 26) ≤ x4 then (fX12_heads_77 fuel x1 x2 x3 0 0 i) else (bn1 (fX12_isChild x4 i) fun v4 =>
    if v4 = 0 then (fX12_heads_63 (fX12_heads_36 n) x1 x2 x4 x3 0 i) else (fX12_heads_63 (fX12_heads_36 n) x1 x2 x4 x3 ((1 : Int32) <<< (x4 &&& 31)) i))
theorem kX12_heads_36  {vR : Int32} {iR : Nat → Nat → Int32} (hX : aX p s m args c RX12 cX12_heads 6 D cA A ad0) (hr : meth.sig.returnType = (some .int)) (hlk : meth.locks = false) (hRf : 1 ≤ R.frames) (hRl : 64 * 1 ≤ R.locals) : ∀ (n : Nat) (x1 : Int32) (x2 : Int32) (x3 : Int32) (x4 : Int32) (i : Nat → Nat → Int32), aGood sh rv → fX12_heads_36 n x1 x2 x3 x4 i = some (vR, iR) → aJ p l e R s m args below meth c (MQ below (aPost D cA ad0 A (sh, i0, lo0, rv0) (some (.int vR)) (sh, iR, lo, rv)) args s (sh.length - sh.length) (aSn sh - aSn sh) A) D cA A ad0 6 sh.length (aSn sh) 36 [some (.ref (100 + 50)), some (.int x1), some (.int x2), some (.int x3), some (.int x4), none] [] (sh, i, lo, rv) := by
  intro n
  induction n with
  | zero => intros; rename_i hf; cases hf
  | succ n ih =>
    intro x1 x2 x3 x4 i hG hf
    rw [fX12_heads_36] at hf
    refine j_iload hX dX12_heads_36 rfl ?_
    refine j_aload_n hX dX12_heads_38 rfl ?_
    refine j_getI (k := 26) hX kX12 (by decide) fk_X12_297 dX12_heads_39 (sh_50 hG) rfl ?_
    refine j_icmp_ge (tgt := 71) hX dX12_heads_42 (by decide) (fun hc => ?_) (fun hc => ?_)
    · have hf := ifp hc hf
      refine j_iconst hX dX12_heads_71 ic_0 ?_
      refine j_istore hX dX12_heads_72 (by decide) rfl ?_
      refine j_iconst hX dX12_heads_74 ic_0 ?_
      refine j_istore hX dX12_heads_75 (by decide) rfl ?_
      exact aJx (kX12_heads_77 hX hr hlk hRf hRl fuel _ _ _ _ _ _ hG  hf) (And.intro rfl (And.intro rfl (And.intro rfl (And.intro rfl (And.intro rfl (And.intro rfl (rfl)))))))
    · have hf := ifn hc hf
      refine j_iload_n hX dX12_heads_45 rfl ?_
      refine j_aload_n hX dX12_heads_46 rfl ?_
      refine j_iload hX dX12_heads_47 rfl ?_
      obtain ⟨v4, hh5, hf⟩ := bd1 hf
      refine j_cV1i hX lk_X12_379 kX12 dX12_heads_49 (sh_50 hG) (okX12_isChild hG hh5) rfl rfl (rmm (by omega) hRf hRl (by decide)) (Nat.le_of_ble_eq_true rfl) (Nat.le_add_right _ _) (Nat.le_add_right _ _) ?_
      refine j_if_eq (tgt := 62) hX dX12_heads_52 (by decide) (fun hc => ?_) (fun hc => ?_)
      · have hf := ifp hc hf
        refine j_iconst hX dX12_heads_62 ic_0 ?_
        exact aJx (kX12_heads_63 hX hr hlk hRf hRl ih hG  hf) (And.intro rfl (And.intro rfl (And.intro rfl (And.intro rfl (rfl)))))
      · have hf := ifn hc hf
        refine j_iconst hX dX12_heads_55 ic_1 ?_
        refine j_iload hX dX12_heads_56 rfl ?_
        refine j_ishl hX dX12_heads_58 ?_
        refine j_goto (tgt := 63) hX dX12_heads_59 (by decide) ?_
        exact aJx (kX12_heads_63 hX hr hlk hRf hRl ih hG  hf) (And.intro rfl (And.intro rfl (And.intro rfl (And.intro rfl (rfl)))))
def fX12_heads (a1 : Int32) (a2 : Int32) (i : Nat → Nat → Int32) : Option ((Int32) × (Nat → Nat → Int32)) := lt (u2 i 50 0 0) fun i1 =>
    if (i1 50 26) = 0 then (some ((-1), i1)) else (bn1 (fX12_isIn (a1 : Int32).toInt64 0 9) fun v2 =>
    if v2 = 0 then (some ((-1), i1)) else (if (-1) ≤ a2 then (fX12_heads_36 fuel a1 a2 0 0 i1) else (some ((-1), i1))))
theorem kX12_heads  {vR : Int32} {iR : Nat → Nat → Int32} (hX : aX p s m args c RX12 cX12_heads 6 D cA A ad0) (hr : meth.sig.returnType = (some .int)) (hlk : meth.locks = false) (hRf : 1 ≤ R.frames) (hRl : 64 * 1 ≤ R.locals) {a1 : Int32} {a2 : Int32} (hG : aGood sh rv) (hf : fX12_heads a1 a2 i = some (vR, iR)) : aJ p l e R s m args below meth c (MQ below (aPost D cA ad0 A (sh, i0, lo0, rv0) (some (.int vR)) (sh, iR, lo, rv)) args s (sh.length - sh.length) (aSn sh - aSn sh) A) D cA A ad0 6 sh.length (aSn sh) 0 [some (.ref (100 + 50)), some (.int a1), some (.int a2), none, none, none] [] (sh, i, lo, rv) := by
  unfold fX12_heads at hf
  refine j_aload_n hX dX12_heads_0 rfl ?_
  refine j_iconst hX dX12_heads_1 ic_0 ?_
  have hf := ltd hf
  refine j_putI (k := 0) hX kX12 (by decide) fk_X12_99 dX12_heads_2 (sh_50 hG) rfl rfl rfl rfl ?_
  refine j_aload_n hX dX12_heads_5 rfl ?_
  refine j_getI (k := 26) hX kX12 (by decide) fk_X12_297 dX12_heads_6 (sh_50 hG) rfl ?_
  refine jpc (b := 9) rfl ?_
  refine j_if_eq (tgt := 29) hX dX12_heads_9 (by decide) (fun hc => ?_) (fun hc => ?_)
  · have hf := ifp hc hf
    refine j_iconst hX dX12_heads_29 ic_m1 ?_
    cases hf
    exact j_ret hX hr hlk rfl dX12_heads_30
  · have hf := ifn hc hf
    refine j_iload_n hX dX12_heads_12 rfl ?_
    refine j_i2l hX dX12_heads_13 ?_
    refine j_lconst (v := 0) hX dX12_heads_14 (by decide) ?_
    refine j_ldc2_w hX kc_X12_488 dX12_heads_15 ?_
    obtain ⟨v2, hh3, hf⟩ := bd1 hf
    refine j_cS3i hX lk_X12_220 dX12_heads_18 (okX12_isIn hG hh3) rfl rfl (rmm (by omega) hRf hRl (by decide)) (Nat.le_of_ble_eq_true rfl) (Nat.le_add_right _ _) (Nat.le_add_right _ _) ?_
    refine jpc (b := 21) rfl ?_
    refine j_if_eq (tgt := 29) hX dX12_heads_21 (by decide) (fun hc => ?_) (fun hc => ?_)
    · have hf := ifp hc hf
      refine j_iconst hX dX12_heads_29 ic_m1 ?_
      cases hf
      exact j_ret hX hr hlk rfl dX12_heads_30
    · have hf := ifn hc hf
      refine j_iload_n hX dX12_heads_24 rfl ?_
      refine j_iconst hX dX12_heads_25 ic_m1 ?_
      refine j_icmp_ge (tgt := 31) hX dX12_heads_26 (by decide) (fun hc => ?_) (fun hc => ?_)
      · have hf := ifp hc hf
        refine j_iconst hX dX12_heads_31 ic_0 ?_
        refine j_istore_n hX dX12_heads_32 (by decide) rfl ?_
        refine j_iconst hX dX12_heads_33 ic_0 ?_
        refine j_istore hX dX12_heads_34 (by decide) rfl ?_
        exact aJx (kX12_heads_36 hX hr hlk hRf hRl fuel _ _ _ _ _ hG  hf) (And.intro rfl (And.intro rfl (And.intro rfl (And.intro rfl (And.intro rfl (rfl))))))
      · have hf := ifn hc hf
        refine j_iconst hX dX12_heads_29 ic_m1 ?_
        cases hf
        exact j_ret hX hr hlk rfl dX12_heads_30
theorem okX12_heads {l : Launch} {sh : List aSh} {i : Nat → Nat → Int32} {lo : Nat → Nat → Int64} {rv : Nat → Nat → Option Nat}  {a1 : Int32} {a2 : Int32} {vR : Int32} {iR : Nat → Nat → Int32} (hG : aGood sh rv) (hf : fX12_heads a1 a2 i = some (vR, iR)) : aM l yX12_heads cX12_heads 6 (some .int) 1 [.ref (100 + 50), .int a1, .int a2] (sh, i, lo, rv) (some (.int vR)) (sh, iR, lo, rv) :=
  aM_of (by decide) (Nat.le_of_ble_eq_true rfl) (Nat.le_refl _) (Nat.le_refl _) (fun p e s m args below meth c D cA A ad0 hX hr hlk hnm => kX12_heads hX hr hlk (Nat.le_refl _) (Nat.le_refl _) hG hf)
def fX12_troubleOf_70 (kh4 : Int32 → Int32 → (Nat → Nat → Int32) → Option ((Int32))) (x1 : Int32) (x2 : Int32) (s0 : Int32) (s1 : Int32) (i : Nat → Nat → Int32) : Option ((Int32)) := if aIn x2 9 = true then
    (if aIn (((6 : Int32) * (i 71 (x2 : Int32).toNatClampNeg)) + (2 : Int32)) 54 = true then
    (lt (x1 + ((i 57 ((((6 : Int32) * (i 71 (x2 : Int32).toNatClampNeg)) + (2 : Int32)) : Int32).toNatClampNeg) * ((((s0 + s1) + (i 50 26)) - (1 : Int32)) - x2))) fun t1 =>
    kh4 t1 (x2 + 1) i) else none) else none
theorem kX12_troubleOf_70  {vR : Int32} (hX : aX p s m args c RX12 cX12_troubleOf 4 D cA A ad0) (hr : meth.sig.returnType = (some .int)) (hlk : meth.locks = false) (hRf : 0 ≤ R.frames) (hRl : 64 * 0 ≤ R.locals) {kh4 : Int32 → Int32 → (Nat → Nat → Int32) → Option ((Int32))} (Hkh4 : ∀ (x1 : Int32) (x2 : Int32), aGood sh rv → kh4 x1 x2 i = some (vR) → aJ p l e R s m args below meth c (MQ below (aPost D cA ad0 A (sh, i0, lo0, rv0) (some (.int vR)) (sh, i, lo, rv)) args s (sh.length - sh.length) (aSn sh - aSn sh) A) D cA A ad0 4 sh.length (aSn sh) 4 [some (.ref (100 + 50)), some (.int x1), some (.int x2), none] [] (sh, i, lo, rv)) {x1 : Int32} {x2 : Int32} {s0 : Int32} {s1 : Int32} (hG : aGood sh rv) (hf : fX12_troubleOf_70 kh4 x1 x2 s0 s1 i = some (vR)) : aJ p l e R s m args below meth c (MQ below (aPost D cA ad0 A (sh, i0, lo0, rv0) (some (.int vR)) (sh, i, lo, rv)) args s (sh.length - sh.length) (aSn sh - aSn sh) A) D cA A ad0 4 sh.length (aSn sh) 70 [some (.ref (100 + 50)), some (.int x1), some (.int x2), none] [.int s1, .int s0] (sh, i, lo, rv) := by
  unfold fX12_troubleOf_70 at hf
  refine j_iadd hX dX12_troubleOf_70 ?_
  refine j_istore_n hX dX12_troubleOf_71 (by decide) rfl ?_
  refine j_iload_n hX dX12_troubleOf_72 rfl ?_
  refine j_aload_n hX dX12_troubleOf_73 rfl ?_
  refine j_getR (k := 20) hX kX12 (by decide) fk_X12_43 (rf_50_20 hG) dX12_troubleOf_74 (sh_50 hG) rfl ?_
  refine jpc (b := 77) rfl ?_
  refine j_bipush hX dX12_troubleOf_77 bp_6 ?_
  refine j_aload_n hX dX12_troubleOf_79 rfl ?_
  refine j_getR (k := 55) hX kX12 (by decide) fk_X12_93 (rf_50_55 hG) dX12_troubleOf_80 (sh_50 hG) rfl ?_
  refine j_iload_n hX dX12_troubleOf_83 rfl ?_
  obtain ⟨hg, hf⟩ := gd hf
  refine j_iald hX (sh_71 hG) hg dX12_troubleOf_84 ?_
  refine j_imul hX dX12_troubleOf_85 ?_
  refine j_iconst hX dX12_troubleOf_86 ic_2 ?_
  refine j_iadd hX dX12_troubleOf_87 ?_
  obtain ⟨hg, hf⟩ := gd hf
  refine j_iald hX (sh_57 hG) hg dX12_troubleOf_88 ?_
  refine j_iload_n hX dX12_troubleOf_89 rfl ?_
  refine j_aload_n hX dX12_troubleOf_90 rfl ?_
  refine j_getI (k := 26) hX kX12 (by decide) fk_X12_297 dX12_troubleOf_91 (sh_50 hG) rfl ?_
  refine j_iadd hX dX12_troubleOf_94 ?_
  refine j_iconst hX dX12_troubleOf_95 ic_1 ?_
  refine jpc (b := 96) rfl ?_
  refine j_isub hX dX12_troubleOf_96 ?_
  refine j_iload_n hX dX12_troubleOf_97 rfl ?_
  refine j_isub hX dX12_troubleOf_98 ?_
  refine j_imul hX dX12_troubleOf_99 ?_
  refine j_iadd hX dX12_troubleOf_100 ?_
  have hf := ltd hf
  refine j_istore_n hX dX12_troubleOf_101 (by decide) rfl ?_
  refine jpc (b := 102) rfl ?_
  refine j_iinc hX dX12_troubleOf_102 rfl (congrArg (_ + ·) ic_1) (by decide) rfl ?_
  refine j_goto (tgt := 4) hX dX12_troubleOf_105 (by decide) ?_
  exact aJx (Hkh4 _ _ hG  hf) (And.intro rfl (And.intro rfl (And.intro rfl (rfl))))
def fX12_troubleOf_38 (kh4 : Int32 → Int32 → (Nat → Nat → Int32) → Option ((Int32))) (x1 : Int32) (x2 : Int32) (s0 : Int32) (i : Nat → Nat → Int32) : Option ((Int32)) := if ((i 50 26) - (1 : Int32)) ≤ x2 then (fX12_troubleOf_70 kh4 x1 x2 s0 0 i) else (if aIn (x2 + (1 : Int32)) 9 = true then
    (if aIn (((6 : Int32) * (i 71 ((x2 + (1 : Int32)) : Int32).toNatClampNeg)) + (3 : Int32)) 54 = true then
    (fX12_troubleOf_70 kh4 x1 x2 s0 (i 57 ((((6 : Int32) * (i 71 ((x2 + (1 : Int32)) : Int32).toNatClampNeg)) + (3 : Int32)) : Int32).toNatClampNeg) i) else none) else none)
theorem kX12_troubleOf_38  {vR : Int32} (hX : aX p s m args c RX12 cX12_troubleOf 4 D cA A ad0) (hr : meth.sig.returnType = (some .int)) (hlk : meth.locks = false) (hRf : 0 ≤ R.frames) (hRl : 64 * 0 ≤ R.locals) {kh4 : Int32 → Int32 → (Nat → Nat → Int32) → Option ((Int32))} (Hkh4 : ∀ (x1 : Int32) (x2 : Int32), aGood sh rv → kh4 x1 x2 i = some (vR) → aJ p l e R s m args below meth c (MQ below (aPost D cA ad0 A (sh, i0, lo0, rv0) (some (.int vR)) (sh, i, lo, rv)) args s (sh.length - sh.length) (aSn sh - aSn sh) A) D cA A ad0 4 sh.length (aSn sh) 4 [some (.ref (100 + 50)), some (.int x1), some (.int x2), none] [] (sh, i, lo, rv)) {x1 : Int32} {x2 : Int32} {s0 : Int32} (hG : aGood sh rv) (hf : fX12_troubleOf_38 kh4 x1 x2 s0 i = some (vR)) : aJ p l e R s m args below meth c (MQ below (aPost D cA ad0 A (sh, i0, lo0, rv0) (some (.int vR)) (sh, i, lo, rv)) args s (sh.length - sh.length) (aSn sh - aSn sh) A) D cA A ad0 4 sh.length (aSn sh) 38 [some (.ref (100 + 50)), some (.int x1), some (.int x2), none] [.int s0] (sh, i, lo, rv) := by
  unfold fX12_troubleOf_38 at hf
  refine j_iload_n hX dX12_troubleOf_38 rfl ?_
  refine j_aload_n hX dX12_troubleOf_39 rfl ?_
  refine j_getI (k := 26) hX kX12 (by decide) fk_X12_297 dX12_troubleOf_40 (sh_50 hG) rfl ?_
  refine j_iconst hX dX12_troubleOf_43 ic_1 ?_
  refine j_isub hX dX12_troubleOf_44 ?_
  refine jpc (b := 45) rfl ?_
  refine j_icmp_ge (tgt := 69) hX dX12_troubleOf_45 (by decide) (fun hc => ?_) (fun hc => ?_)
  · have hf := ifp hc hf
    refine j_iconst hX dX12_troubleOf_69 ic_0 ?_
    exact aJx (kX12_troubleOf_70 hX hr hlk hRf hRl Hkh4 hG  hf) (And.intro rfl (And.intro rfl (And.intro rfl (rfl))))
  · have hf := ifn hc hf
    refine j_aload_n hX dX12_troubleOf_48 rfl ?_
    refine j_getR (k := 20) hX kX12 (by decide) fk_X12_43 (rf_50_20 hG) dX12_troubleOf_49 (sh_50 hG) rfl ?_
    refine j_bipush hX dX12_troubleOf_52 bp_6 ?_
    refine j_aload_n hX dX12_troubleOf_54 rfl ?_
    refine j_getR (k := 55) hX kX12 (by decide) fk_X12_93 (rf_50_55 hG) dX12_troubleOf_55 (sh_50 hG) rfl ?_
    refine jpc (b := 58) rfl ?_
    refine j_iload_n hX dX12_troubleOf_58 rfl ?_
    refine j_iconst hX dX12_troubleOf_59 ic_1 ?_
    refine j_iadd hX dX12_troubleOf_60 ?_
    obtain ⟨hg, hf⟩ := gd hf
    refine j_iald hX (sh_71 hG) hg dX12_troubleOf_61 ?_
    refine j_imul hX dX12_troubleOf_62 ?_
    refine j_iconst hX dX12_troubleOf_63 ic_3 ?_
    refine j_iadd hX dX12_troubleOf_64 ?_
    obtain ⟨hg, hf⟩ := gd hf
    refine j_iald hX (sh_57 hG) hg dX12_troubleOf_65 ?_
    refine j_goto (tgt := 70) hX dX12_troubleOf_66 (by decide) ?_
    exact aJx (kX12_troubleOf_70 hX hr hlk hRf hRl Hkh4 hG  hf) (And.intro rfl (And.intro rfl (And.intro rfl (rfl))))
def fX12_troubleOf_4 : Nat → Int32 → Int32 → (Nat → Nat → Int32) → Option ((Int32))
  | 0, _, _, _ => none
  | n + 1, x1, x2, i => if (i 50 26) ≤ x2 then (some (x1)) else (if x2 ≤ 0 then (fX12_troubleOf_38 (fX12_troubleOf_4 n) x1 x2 0 i) else (if aIn (x2 - (1 : Int32)) 9 = true then
    (if aIn (((6 : Int32) * (i 71 ((x2 - (1 : Int32)) : Int32).toNatClampNeg)) + (3 : Int32)) 54 = true then
    (fX12_troubleOf_38 (fX12_troubleOf_4 n) x1 x2 (i 57 ((((6 : Int32) * (i 71 ((x2 - (1 : Int32)) : Int32).toNatClampNeg)) + (3 : Int32)) : Int32).toNatClampNeg) i) else none) else none))
theorem kX12_troubleOf_4  {vR : Int32} (hX : aX p s m args c RX12 cX12_troubleOf 4 D cA A ad0) (hr : meth.sig.returnType = (some .int)) (hlk : meth.locks = false) (hRf : 0 ≤ R.frames) (hRl : 64 * 0 ≤ R.locals) : ∀ (n : Nat) (x1 : Int32) (x2 : Int32), aGood sh rv → fX12_troubleOf_4 n x1 x2 i = some (vR) → aJ p l e R s m args below meth c (MQ below (aPost D cA ad0 A (sh, i0, lo0, rv0) (some (.int vR)) (sh, i, lo, rv)) args s (sh.length - sh.length) (aSn sh - aSn sh) A) D cA A ad0 4 sh.length (aSn sh) 4 [some (.ref (100 + 50)), some (.int x1), some (.int x2), none] [] (sh, i, lo, rv) := by
  intro n
  induction n with
  | zero => intros; rename_i hf; cases hf
  | succ n ih =>
    intro x1 x2 hG hf
    rw [fX12_troubleOf_4] at hf
    refine j_iload_n hX dX12_troubleOf_4 rfl ?_
    refine j_aload_n hX dX12_troubleOf_5 rfl ?_
    refine j_getI (k := 26) hX kX12 (by decide) fk_X12_297 dX12_troubleOf_6 (sh_50 hG) rfl ?_
    refine j_icmp_ge (tgt := 108) hX dX12_troubleOf_9 (by decide) (fun hc => ?_) (fun hc => ?_)
    · have hf := ifp hc hf
      refine j_iload_n hX dX12_troubleOf_108 rfl ?_
      cases hf
      exact j_ret hX hr hlk rfl dX12_troubleOf_109
    · have hf := ifn hc hf
      refine j_iload_n hX dX12_troubleOf_12 rfl ?_
      refine j_if_le (tgt := 37) hX dX12_troubleOf_13 (by decide) (fun hc => ?_) (fun hc => ?_)
      · have hf := ifp hc hf
        refine j_iconst hX dX12_troubleOf_37 ic_0 ?_
        exact aJx (kX12_troubleOf_38 hX hr hlk hRf hRl ih hG  hf) (And.intro rfl (And.intro rfl (And.intro rfl (rfl))))
      · have hf := ifn hc hf
        refine j_aload_n hX dX12_troubleOf_16 rfl ?_
        refine j_getR (k := 20) hX kX12 (by decide) fk_X12_43 (rf_50_20 hG) dX12_troubleOf_17 (sh_50 hG) rfl ?_
        refine j_bipush hX dX12_troubleOf_20 bp_6 ?_
        refine j_aload_n hX dX12_troubleOf_22 rfl ?_
        refine j_getR (k := 55) hX kX12 (by decide) fk_X12_93 (rf_50_55 hG) dX12_troubleOf_23 (sh_50 hG) rfl ?_
        refine jpc (b := 26) rfl ?_
        refine j_iload_n hX dX12_troubleOf_26 rfl ?_
        refine j_iconst hX dX12_troubleOf_27 ic_1 ?_
        refine j_isub hX dX12_troubleOf_28 ?_
        obtain ⟨hg, hf⟩ := gd hf
        refine j_iald hX (sh_71 hG) hg dX12_troubleOf_29 ?_
        refine j_imul hX dX12_troubleOf_30 ?_
        refine j_iconst hX dX12_troubleOf_31 ic_3 ?_
        refine j_iadd hX dX12_troubleOf_32 ?_
        obtain ⟨hg, hf⟩ := gd hf
        refine j_iald hX (sh_57 hG) hg dX12_troubleOf_33 ?_
        refine j_goto (tgt := 38) hX dX12_troubleOf_34 (by decide) ?_
        exact aJx (kX12_troubleOf_38 hX hr hlk hRf hRl ih hG  hf) (And.intro rfl (And.intro rfl (And.intro rfl (rfl))))
def fX12_troubleOf (i : Nat → Nat → Int32) : Option ((Int32)) := fX12_troubleOf_4 fuel 0 0 i
theorem kX12_troubleOf  {vR : Int32} (hX : aX p s m args c RX12 cX12_troubleOf 4 D cA A ad0) (hr : meth.sig.returnType = (some .int)) (hlk : meth.locks = false) (hRf : 0 ≤ R.frames) (hRl : 64 * 0 ≤ R.locals) (hG : aGood sh rv) (hf : fX12_troubleOf i = some (vR)) : aJ p l e R s m args below meth c (MQ below (aPost D cA ad0 A (sh, i0, lo0, rv0) (some (.int vR)) (sh, i, lo, rv)) args s (sh.length - sh.length) (aSn sh - aSn sh) A) D cA A ad0 4 sh.length (aSn sh) 0 [some (.ref (100 + 50)), none, none, none] [] (sh, i, lo, rv) := by
  unfold fX12_troubleOf at hf
  refine j_iconst hX dX12_troubleOf_0 ic_0 ?_
  refine j_istore_n hX dX12_troubleOf_1 (by decide) rfl ?_
  refine j_iconst hX dX12_troubleOf_2 ic_0 ?_
  refine j_istore_n hX dX12_troubleOf_3 (by decide) rfl ?_
  exact aJx (kX12_troubleOf_4 hX hr hlk hRf hRl fuel _ _ hG  hf) (And.intro rfl (And.intro rfl (And.intro rfl (rfl))))
theorem okX12_troubleOf {l : Launch} {sh : List aSh} {i : Nat → Nat → Int32} {lo : Nat → Nat → Int64} {rv : Nat → Nat → Option Nat}  {vR : Int32} (hG : aGood sh rv) (hf : fX12_troubleOf i = some (vR)) : aM l yX12_troubleOf cX12_troubleOf 4 (some .int) 0 [.ref (100 + 50)] (sh, i, lo, rv) (some (.int vR)) (sh, i, lo, rv) :=
  aM_of (by decide) (Nat.le_of_ble_eq_true rfl) (Nat.le_refl _) (Nat.le_refl _) (fun p e s m args below meth c D cA A ad0 hX hr hlk hnm => kX12_troubleOf hX hr hlk (Nat.le_refl _) (Nat.le_refl _) hG hf)
def fX12_goGive_32 (gs : Int32 → Int32 → Int32 → (Nat → Nat → Int32) → Option ((Nat → Nat → Int32))) (x3 : Int32) (x4 : Int32) (i : Nat → Nat → Int32) : Option ((Nat → Nat → Int32)) := lt (u2 i 50 53 x4) fun i8 =>
    lt (u2 i8 50 54 x3) fun i9 =>
    some (i9)
theorem kX12_goGive_32  {gs : Int32 → Int32 → Int32 → (Nat → Nat → Int32) → Option ((Nat → Nat → Int32))} {D0 : Nat} {iR : Nat → Nat → Int32} (hX : aX p s m args c RX12 cX12_goGive 5 D cA A ad0) (hr : meth.sig.returnType = none) (hlk : meth.locks = false) (hRf : (D0 + 1) ≤ R.frames) (hRl : 64 * (D0 + 1) ≤ R.locals) (Hgs : ∀ {a1 : Int32} {a2 : Int32} {a3 : Int32} {i : Nat → Nat → Int32} {lo : Nat → Nat → Int64} {rv : Nat → Nat → Option Nat} {iR : Nat → Nat → Int32}, aGood sh rv → gs a1 a2 a3 i = some (iR) → aM l yX12_goGive cX12_goGive 5 none D0 [.ref (100 + 50), .int a1, .int a2, .int a3] (sh, i, lo, rv) none (sh, iR, lo, rv)) {x3 : Int32} {x4 : Int32} (hG : aGood sh rv) (hf : fX12_goGive_32 gs x3 x4 i = some (iR)) : aJ p l e R s m args below meth c (MQ below (aPost D cA ad0 A (sh, i0, lo0, rv0) none (sh, iR, lo, rv)) args s (sh.length - sh.length) (aSn sh - aSn sh) A) D cA A ad0 5 sh.length (aSn sh) 32 [some (.ref (100 + 50)), none, none, some (.int x3), some (.int x4)] [] (sh, i, lo, rv) := by
  unfold fX12_goGive_32 at hf
  refine j_aload_n hX dX12_goGive_32 rfl ?_
  refine j_iload hX dX12_goGive_33 rfl ?_
  have hf := ltd hf
  refine j_putI (k := 53) hX kX12 (by decide) fk_X12_498 dX12_goGive_35 (sh_50 hG) rfl rfl rfl rfl ?_
  refine j_aload_n hX dX12_goGive_38 rfl ?_
  refine j_iload_n hX dX12_goGive_39 rfl ?_
  refine jpc (b := 40) rfl ?_
  have hf := ltd hf
  refine j_putI (k := 54) hX kX12 (by decide) fk_X12_501 dX12_goGive_40 (sh_50 hG) rfl rfl rfl rfl ?_
  cases hf
  exact j_vret hX hr hlk dX12_goGive_43
def fX12_goGive_96 (gs : Int32 → Int32 → Int32 → (Nat → Nat → Int32) → Option ((Nat → Nat → Int32))) (kh47 : Int32 → Int32 → Int32 → Int32 → (Nat → Nat → Int32) → Option ((Nat → Nat → Int32))) (x1 : Int32) (x2 : Int32) (x3 : Int32) (x4 : Int32) (i : Nat → Nat → Int32) : Option ((Nat → Nat → Int32)) := kh47 x1 x2 x3 (x4 + 1) i
theorem kX12_goGive_96  {gs : Int32 → Int32 → Int32 → (Nat → Nat → Int32) → Option ((Nat → Nat → Int32))} {D0 : Nat} {iR : Nat → Nat → Int32} (hX : aX p s m args c RX12 cX12_goGive 5 D cA A ad0) (hr : meth.sig.returnType = none) (hlk : meth.locks = false) (hRf : (D0 + 1) ≤ R.frames) (hRl : 64 * (D0 + 1) ≤ R.locals) (Hgs : ∀ {a1 : Int32} {a2 : Int32} {a3 : Int32} {i : Nat → Nat → Int32} {lo : Nat → Nat → Int64} {rv : Nat → Nat → Option Nat} {iR : Nat → Nat → Int32}, aGood sh rv → gs a1 a2 a3 i = some (iR) → aM l yX12_goGive cX12_goGive 5 none D0 [.ref (100 + 50), .int a1, .int a2, .int a3] (sh, i, lo, rv) none (sh, iR, lo, rv)) {kh47 : Int32 → Int32 → Int32 → Int32 → (Nat → Nat → Int32) → Option ((Nat → Nat → Int32))} (Hkh47 : ∀ (x1 : Int32) (x2 : Int32) (x3 : Int32) (x4 : Int32) (i : Nat → Nat → Int32), aGood sh rv → kh47 x1 x2 x3 x4 i = some (iR) → aJ p l e R s m args below meth c (MQ below (aPost D cA ad0 A (sh, i0, lo0, rv0) none (sh, iR, lo, rv)) args s (sh.length - sh.length) (aSn sh - aSn sh) A) D cA A ad0 5 sh.length (aSn sh) 47 [some (.ref (100 + 50)), some (.int x1), some (.int x2), some (.int x3), some (.int x4)] [] (sh, i, lo, rv)) {x1 : Int32} {x2 : Int32} {x3 : Int32} {x4 : Int32} (hG : aGood sh rv) (hf : fX12_goGive_96 gs kh47 x1 x2 x3 x4 i = some (iR)) : aJ p l e R s m args below meth c (MQ below (aPost D cA ad0 A (sh, i0, lo0, rv0) none (sh, iR, lo, rv)) args s (sh.length - sh.length) (aSn sh - aSn sh) A) D cA A ad0 5 sh.length (aSn sh) 96 [some (.ref (100 + 50)), some (.int x1), some (.int x2), some (.int x3), some (.int x4)] [] (sh, i, lo, rv) := by
  unfold fX12_goGive_96 at hf
  refine j_iinc hX dX12_goGive_96 rfl (congrArg (_ + ·) ic_1) (by decide) rfl ?_
  refine j_goto (tgt := 47) hX dX12_goGive_99 (by decide) ?_
  exact aJx (Hkh47 _ _ _ _ _ hG  hf) (And.intro rfl (And.intro rfl (And.intro rfl (And.intro rfl (And.intro rfl (rfl))))))
def fX12_goGive_47 (gs : Int32 → Int32 → Int32 → (Nat → Nat → Int32) → Option ((Nat → Nat → Int32))) : Nat → Int32 → Int32 → Int32 → Int32 → (Nat → Nat → Int32) → Option ((Nat → Nat → Int32))
  | 0, _, _, _, _, _ => none
  | n + 1, x1, x2, x3, x4, i => if (i 50 26) ≤ x4 then (some (i)) else (bn1 (fX12_has x2 x4) fun v3 =>
    if v3 = 0 then (if aIn x1 9 = true then
    (lt (u2 i 71 (x1 : Int32).toNatClampNeg x4) fun i5 => bn1 (gs (x1 + (1 : Int32)) (x2 ||| ((1 : Int32) <<< (x4 &&& 31))) (((10 : Int32) * x3) + x4) i5) fun i6 =>
    fX12_goGive_96 gs (fX12_goGive_47 gs n) x1 x2 x3 x4 i6) else none) else (fX12_goGive_96 gs (fX12_goGive_47 gs n) x1 x2 x3 x4 i))
theorem kX12_goGive_47  {gs : Int32 → Int32 → Int32 → (Nat → Nat → Int32) → Option ((Nat → Nat → Int32))} {D0 : Nat} {iR : Nat → Nat → Int32} (hX : aX p s m args c RX12 cX12_goGive 5 D cA A ad0) (hr : meth.sig.returnType = none) (hlk : meth.locks = false) (hRf : (D0 + 1) ≤ R.frames) (hRl : 64 * (D0 + 1) ≤ R.locals) (Hgs : ∀ {a1 : Int32} {a2 : Int32} {a3 : Int32} {i : Nat → Nat → Int32} {lo : Nat → Nat → Int64} {rv : Nat → Nat → Option Nat} {iR : Nat → Nat → Int32}, aGood sh rv → gs a1 a2 a3 i = some (iR) → aM l yX12_goGive cX12_goGive 5 none D0 [.ref (100 + 50), .int a1, .int a2, .int a3] (sh, i, lo, rv) none (sh, iR, lo, rv)) : ∀ (n : Nat) (x1 : Int32) (x2 : Int32) (x3 : Int32) (x4 : Int32) (i : Nat → Nat → Int32), aGood sh rv → fX12_goGive_47 gs n x1 x2 x3 x4 i = some (iR) → aJ p l e R s m args below meth c (MQ below (aPost D cA ad0 A (sh, i0, lo0, rv0) none (sh, iR, lo, rv)) args s (sh.length - sh.length) (aSn sh - aSn sh) A) D cA A ad0 5 sh.length (aSn sh) 47 [some (.ref (100 + 50)), some (.int x1), some (.int x2), some (.int x3), some (.int x4)] [] (sh, i, lo, rv) := by
  intro n
  induction n with
  | zero => intros; rename_i hf; cases hf
  | succ n ih =>
    intro x1 x2 x3 x4 i hG hf
    rw [fX12_goGive_47] at hf
    refine j_iload hX dX12_goGive_47 rfl ?_
    refine j_aload_n hX dX12_goGive_49 rfl ?_
    refine j_getI (k := 26) hX kX12 (by decide) fk_X12_297 dX12_goGive_50 (sh_50 hG) rfl ?_
    refine j_icmp_ge (tgt := 102) hX dX12_goGive_53 (by decide) (fun hc => ?_) (fun hc => ?_)
    · have hf := ifp hc hf
      cases hf
      exact j_vret hX hr hlk dX12_goGive_102
    · have hf := ifn hc hf
      refine j_iload_n hX dX12_goGive_56 rfl ?_
      refine j_iload hX dX12_goGive_57 rfl ?_
      obtain ⟨v3, hh4, hf⟩ := bd1 hf
      refine j_cS2i hX lk_X12_232 dX12_goGive_59 (okX12_has hG hh4) rfl rfl (rmm (by omega) hRf hRl (by decide)) (Nat.le_of_ble_eq_true rfl) (Nat.le_add_right _ _) (Nat.le_add_right _ _) ?_
      refine j_if_eq (tgt := 68) hX dX12_goGive_62 (by decide) (fun hc => ?_) (fun hc => ?_)
      · have hf := ifp hc hf
        refine j_aload_n hX dX12_goGive_68 rfl ?_
        refine j_getR (k := 55) hX kX12 (by decide) fk_X12_93 (rf_50_55 hG) dX12_goGive_69 (sh_50 hG) rfl ?_
        refine j_iload_n hX dX12_goGive_72 rfl ?_
        refine j_iload hX dX12_goGive_73 rfl ?_
        obtain ⟨hg, hf⟩ := gd hf
        have hf := ltd hf
        refine j_iast hX (sh_71 hG) hg dX12_goGive_75 ?_
        refine j_aload_n hX dX12_goGive_76 rfl ?_
        refine j_iload_n hX dX12_goGive_77 rfl ?_
        refine j_iconst hX dX12_goGive_78 ic_1 ?_
        refine j_iadd hX dX12_goGive_79 ?_
        refine j_iload_n hX dX12_goGive_80 rfl ?_
        refine jpc (b := 81) rfl ?_
        refine j_iconst hX dX12_goGive_81 ic_1 ?_
        refine j_iload hX dX12_goGive_82 rfl ?_
        refine j_ishl hX dX12_goGive_84 ?_
        refine j_ior hX dX12_goGive_85 ?_
        refine j_bipush hX dX12_goGive_86 bp_10 ?_
        refine j_iload_n hX dX12_goGive_88 rfl ?_
        refine jpc (b := 89) rfl ?_
        refine j_imul hX dX12_goGive_89 ?_
        refine j_iload hX dX12_goGive_90 rfl ?_
        refine j_iadd hX dX12_goGive_92 ?_
        obtain ⟨i6, hh7, hf⟩ := bd1 hf
        refine j_cV3v hX lk_X12_504 kX12 dX12_goGive_93 (sh_50 hG) (Hgs hG hh7) rfl rfl (rmm (by omega) hRf hRl (by decide)) (Nat.le_of_ble_eq_true rfl) (Nat.le_add_right _ _) (Nat.le_add_right _ _) ?_
        exact aJx (kX12_goGive_96 hX hr hlk hRf hRl Hgs ih hG  hf) (And.intro rfl (And.intro rfl (And.intro rfl (And.intro rfl (And.intro rfl (rfl))))))
      · have hf := ifn hc hf
        refine j_goto (tgt := 96) hX dX12_goGive_65 (by decide) ?_
        exact aJx (kX12_goGive_96 hX hr hlk hRf hRl Hgs ih hG  hf) (And.intro rfl (And.intro rfl (And.intro rfl (And.intro rfl (And.intro rfl (rfl))))))
def fX12_goGiveb (gs : Int32 → Int32 → Int32 → (Nat → Nat → Int32) → Option ((Nat → Nat → Int32))) (a1 : Int32) (a2 : Int32) (a3 : Int32) (i : Nat → Nat → Int32) : Option ((Nat → Nat → Int32)) := if a1 = (i 50 26) then (bn1 (fX12_troubleOf i) fun v1 =>
    if (i 50 53) = (-1) then (fX12_goGive_32 gs a3 v1 i) else (if v1 < (i 50 53) then (fX12_goGive_32 gs a3 v1 i) else (some (i)))) else (fX12_goGive_47 gs fuel a1 a2 a3 0 i)
theorem kX12_goGive  {gs : Int32 → Int32 → Int32 → (Nat → Nat → Int32) → Option ((Nat → Nat → Int32))} {D0 : Nat} {iR : Nat → Nat → Int32} (hX : aX p s m args c RX12 cX12_goGive 5 D cA A ad0) (hr : meth.sig.returnType = none) (hlk : meth.locks = false) (hRf : (D0 + 1) ≤ R.frames) (hRl : 64 * (D0 + 1) ≤ R.locals) (Hgs : ∀ {a1 : Int32} {a2 : Int32} {a3 : Int32} {i : Nat → Nat → Int32} {lo : Nat → Nat → Int64} {rv : Nat → Nat → Option Nat} {iR : Nat → Nat → Int32}, aGood sh rv → gs a1 a2 a3 i = some (iR) → aM l yX12_goGive cX12_goGive 5 none D0 [.ref (100 + 50), .int a1, .int a2, .int a3] (sh, i, lo, rv) none (sh, iR, lo, rv)) {a1 : Int32} {a2 : Int32} {a3 : Int32} (hG : aGood sh rv) (hf : fX12_goGiveb gs a1 a2 a3 i = some (iR)) : aJ p l e R s m args below meth c (MQ below (aPost D cA ad0 A (sh, i0, lo0, rv0) none (sh, iR, lo, rv)) args s (sh.length - sh.length) (aSn sh - aSn sh) A) D cA A ad0 5 sh.length (aSn sh) 0 [some (.ref (100 + 50)), some (.int a1), some (.int a2), some (.int a3), none] [] (sh, i, lo, rv) := by
  unfold fX12_goGiveb at hf
  refine j_iload_n hX dX12_goGive_0 rfl ?_
  refine j_aload_n hX dX12_goGive_1 rfl ?_
  refine j_getI (k := 26) hX kX12 (by decide) fk_X12_297 dX12_goGive_2 (sh_50 hG) rfl ?_
  refine j_icmp_ne (tgt := 44) hX dX12_goGive_5 (by decide) (fun hc => ?_) (fun hc => ?_)
  · have hf := ifn hc hf
    refine j_iconst hX dX12_goGive_44 ic_0 ?_
    refine j_istore hX dX12_goGive_45 (by decide) rfl ?_
    exact aJx (kX12_goGive_47 hX hr hlk hRf hRl Hgs fuel _ _ _ _ _ hG  hf) (And.intro rfl (And.intro rfl (And.intro rfl (And.intro rfl (And.intro rfl (rfl))))))
  · have hf := ifp hc hf
    refine j_aload_n hX dX12_goGive_8 rfl ?_
    obtain ⟨v1, hh2, hf⟩ := bd1 hf
    refine j_cV0i hX lk_X12_495 kX12 dX12_goGive_9 (sh_50 hG) (okX12_troubleOf hG hh2) rfl rfl (rmm (by omega) hRf hRl (by decide)) (Nat.le_of_ble_eq_true rfl) (Nat.le_add_right _ _) (Nat.le_add_right _ _) ?_
    refine j_istore hX dX12_goGive_12 (by decide) rfl ?_
    refine j_aload_n hX dX12_goGive_14 rfl ?_
    refine j_getI (k := 53) hX kX12 (by decide) fk_X12_498 dX12_goGive_15 (sh_50 hG) rfl ?_
    refine jpc (b := 18) rfl ?_
    refine j_iconst hX dX12_goGive_18 ic_m1 ?_
    refine j_icmp_eq (tgt := 32) hX dX12_goGive_19 (by decide) (fun hc => ?_) (fun hc => ?_)
    · have hf := ifp hc hf
      exact aJx (kX12_goGive_32 hX hr hlk hRf hRl Hgs hG  hf) (And.intro rfl (And.intro rfl (And.intro rfl (rfl))))
    · have hf := ifn hc hf
      refine j_iload hX dX12_goGive_22 rfl ?_
      refine j_aload_n hX dX12_goGive_24 rfl ?_
      refine j_getI (k := 53) hX kX12 (by decide) fk_X12_498 dX12_goGive_25 (sh_50 hG) rfl ?_
      refine j_icmp_lt (tgt := 32) hX dX12_goGive_28 (by decide) (fun hc => ?_) (fun hc => ?_)
      · have hf := ifp hc hf
        exact aJx (kX12_goGive_32 hX hr hlk hRf hRl Hgs hG  hf) (And.intro rfl (And.intro rfl (And.intro rfl (rfl))))
      · have hf := ifn hc hf
        cases hf
        exact j_vret hX hr hlk dX12_goGive_31
theorem okX12_goGiveb {l : Launch} {sh : List aSh} {i : Nat → Nat → Int32} {lo : Nat → Nat → Int64} {rv : Nat → Nat → Option Nat} {gs : Int32 → Int32 → Int32 → (Nat → Nat → Int32) → Option ((Nat → Nat → Int32))} {D0 : Nat} (Hgs : ∀ {a1 : Int32} {a2 : Int32} {a3 : Int32} {i : Nat → Nat → Int32} {lo : Nat → Nat → Int64} {rv : Nat → Nat → Option Nat} {iR : Nat → Nat → Int32}, aGood sh rv → gs a1 a2 a3 i = some (iR) → aM l yX12_goGive cX12_goGive 5 none D0 [.ref (100 + 50), .int a1, .int a2, .int a3] (sh, i, lo, rv) none (sh, iR, lo, rv)) {a1 : Int32} {a2 : Int32} {a3 : Int32} {iR : Nat → Nat → Int32} (hG : aGood sh rv) (hf : fX12_goGiveb gs a1 a2 a3 i = some (iR)) : aM l yX12_goGive cX12_goGive 5 none (D0 + 1) [.ref (100 + 50), .int a1, .int a2, .int a3] (sh, i, lo, rv) none (sh, iR, lo, rv) :=
  aM_of (by decide) (Nat.le_of_ble_eq_true rfl) (Nat.le_refl _) (Nat.le_refl _) (fun p e s m args below meth c D cA A ad0 hX hr hlk hnm => kX12_goGive hX hr hlk (Nat.le_refl _) (Nat.le_refl _) Hgs hG hf)
def fX12_goGive : Nat → Int32 → Int32 → Int32 → (Nat → Nat → Int32) → Option ((Nat → Nat → Int32))
  | 0, _, _, _, _ => none
  | n + 1, a1, a2, a3, i => fX12_goGiveb (fX12_goGive n) a1 a2 a3 i
theorem okX12_goGive {l : Launch} {sh : List aSh} : ∀ (n : Nat) {a1 : Int32} {a2 : Int32} {a3 : Int32} {i : Nat → Nat → Int32} {lo : Nat → Nat → Int64} {rv : Nat → Nat → Option Nat} {iR : Nat → Nat → Int32}, aGood sh rv → fX12_goGive n a1 a2 a3 i = some (iR) → aM l yX12_goGive cX12_goGive 5 none (1 * n) [.ref (100 + 50), .int a1, .int a2, .int a3] (sh, i, lo, rv) none (sh, iR, lo, rv) := by
  intro n
  induction n with
  | zero => intros; rename_i hf; cases hf
  | succ n ih =>
    intro _ _ _ _ _ _ _ hG hf
    exact okX12_goGiveb (fun hG hf => ih hG hf) hG hf
def fX12_give (a1 : Int32) (i : Nat → Nat → Int32) : Option ((Int32) × (Nat → Nat → Int32)) := lt (u2 i 50 0 0) fun i1 =>
    if (i1 50 26) = 0 then (some ((-1), i1)) else (bn1 (fX12_isIn (a1 : Int32).toInt64 0 1) fun v2 =>
    if v2 = 0 then (some ((-1), i1)) else (if (i1 50 26) ≤ 7 then (lt (u2 i1 50 53 (-1)) fun i4 =>
    bn1 (fX12_goGive 12 0 0 0 i4) fun i5 =>
    if a1 = 0 then (some ((i5 50 54), i5)) else (some ((i5 50 53), i5))) else (some ((-1000000), i1))))
theorem kX12_give  {vR : Int32} {iR : Nat → Nat → Int32} (hX : aX p s m args c RX12 cX12_give 2 D cA A ad0) (hr : meth.sig.returnType = (some .int)) (hlk : meth.locks = false) (hRf : 13 ≤ R.frames) (hRl : 64 * 13 ≤ R.locals) {a1 : Int32} (hG : aGood sh rv) (hf : fX12_give a1 i = some (vR, iR)) : aJ p l e R s m args below meth c (MQ below (aPost D cA ad0 A (sh, i0, lo0, rv0) (some (.int vR)) (sh, iR, lo, rv)) args s (sh.length - sh.length) (aSn sh - aSn sh) A) D cA A ad0 2 sh.length (aSn sh) 0 [some (.ref (100 + 50)), some (.int a1)] [] (sh, i, lo, rv) := by
  unfold fX12_give at hf
  refine j_aload_n hX dX12_give_0 rfl ?_
  refine j_iconst hX dX12_give_1 ic_0 ?_
  have hf := ltd hf
  refine j_putI (k := 0) hX kX12 (by decide) fk_X12_99 dX12_give_2 (sh_50 hG) rfl rfl rfl rfl ?_
  refine j_aload_n hX dX12_give_5 rfl ?_
  refine j_getI (k := 26) hX kX12 (by decide) fk_X12_297 dX12_give_6 (sh_50 hG) rfl ?_
  refine jpc (b := 9) rfl ?_
  refine j_if_eq (tgt := 22) hX dX12_give_9 (by decide) (fun hc => ?_) (fun hc => ?_)
  · have hf := ifp hc hf
    refine j_iconst hX dX12_give_22 ic_m1 ?_
    cases hf
    exact j_ret hX hr hlk rfl dX12_give_23
  · have hf := ifn hc hf
    refine j_iload_n hX dX12_give_12 rfl ?_
    refine j_i2l hX dX12_give_13 ?_
    refine j_lconst (v := 0) hX dX12_give_14 (by decide) ?_
    refine j_lconst (v := 1) hX dX12_give_15 (by decide) ?_
    obtain ⟨v2, hh3, hf⟩ := bd1 hf
    refine j_cS3i hX lk_X12_220 dX12_give_16 (okX12_isIn hG hh3) rfl rfl (rmm (by omega) hRf hRl (by decide)) (Nat.le_of_ble_eq_true rfl) (Nat.le_add_right _ _) (Nat.le_add_right _ _) ?_
    refine jpc (b := 19) rfl ?_
    refine j_if_ne (tgt := 24) hX dX12_give_19 (by decide) (fun hc => ?_) (fun hc => ?_)
    · have hf := ifn hc hf
      refine j_aload_n hX dX12_give_24 rfl ?_
      refine j_getI (k := 26) hX kX12 (by decide) fk_X12_297 dX12_give_25 (sh_50 hG) rfl ?_
      refine j_bipush hX dX12_give_28 bp_7 ?_
      refine j_icmp_le (tgt := 37) hX dX12_give_30 (by decide) (fun hc => ?_) (fun hc => ?_)
      · have hf := ifp hc hf
        refine j_aload_n hX dX12_give_37 rfl ?_
        refine j_iconst hX dX12_give_38 ic_m1 ?_
        have hf := ltd hf
        refine j_putI (k := 53) hX kX12 (by decide) fk_X12_498 dX12_give_39 (sh_50 hG) rfl rfl rfl rfl ?_
        refine j_aload_n hX dX12_give_42 rfl ?_
        refine j_iconst hX dX12_give_43 ic_0 ?_
        refine jpc (b := 44) rfl ?_
        refine j_iconst hX dX12_give_44 ic_0 ?_
        refine j_iconst hX dX12_give_45 ic_0 ?_
        obtain ⟨i5, hh6, hf⟩ := bd1 hf
        refine j_cV3v hX lk_X12_504 kX12 dX12_give_46 (sh_50 hG) (okX12_goGive 12 hG hh6) rfl rfl (rmm (by omega) hRf hRl (by decide)) (Nat.le_of_ble_eq_true rfl) (Nat.le_add_right _ _) (Nat.le_add_right _ _) ?_
        refine j_iload_n hX dX12_give_49 rfl ?_
        refine j_if_ne (tgt := 60) hX dX12_give_50 (by decide) (fun hc => ?_) (fun hc => ?_)
        · have hf := ifn hc hf
          refine j_aload_n hX dX12_give_60 rfl ?_
          refine j_getI (k := 53) hX kX12 (by decide) fk_X12_498 dX12_give_61 (sh_50 hG) rfl ?_
          cases hf
          exact j_ret hX hr hlk rfl dX12_give_64
        · have hf := ifp hc hf
          refine j_aload_n hX dX12_give_53 rfl ?_
          refine j_getI (k := 54) hX kX12 (by decide) fk_X12_501 dX12_give_54 (sh_50 hG) rfl ?_
          refine j_goto (tgt := 64) hX dX12_give_57 (by decide) ?_
          cases hf
          exact j_ret hX hr hlk rfl dX12_give_64
      · have hf := ifn hc hf
        refine j_ldc_w hX kc_X12_441 dX12_give_33 ?_
        cases hf
        exact j_ret hX hr hlk rfl dX12_give_36
    · have hf := ifp hc hf
      refine j_iconst hX dX12_give_22 ic_m1 ?_
      cases hf
      exact j_ret hX hr hlk rfl dX12_give_23
theorem okX12_give {l : Launch} {sh : List aSh} {i : Nat → Nat → Int32} {lo : Nat → Nat → Int64} {rv : Nat → Nat → Option Nat}  {a1 : Int32} {vR : Int32} {iR : Nat → Nat → Int32} (hG : aGood sh rv) (hf : fX12_give a1 i = some (vR, iR)) : aM l yX12_give cX12_give 2 (some .int) 13 [.ref (100 + 50), .int a1] (sh, i, lo, rv) (some (.int vR)) (sh, iR, lo, rv) :=
  aM_of (by decide) (Nat.le_of_ble_eq_true rfl) (Nat.le_refl _) (Nat.le_refl _) (fun p e s m args below meth c D cA A ad0 hX hr hlk hnm => kX12_give hX hr hlk (Nat.le_refl _) (Nat.le_refl _) hG hf)
def fX12_between_69 (kh18 : Int32 → Int32 → (Nat → Nat → Int32) → (Nat → Nat → Option Nat) → Option ((Int32) × (Nat → Nat → Int32) × (Nat → Nat → Option Nat))) (x2 : Int32) (s0 : Int32) (s1 : Int32) (i : Nat → Nat → Int32) (rv : Nat → Nat → Option Nat) : Option ((Int32) × (Nat → Nat → Int32) × (Nat → Nat → Option Nat)) := kh18 (s0 ||| s1) (x2 + 1) i rv
theorem kX12_between_69  {vR : Int32} {iR : Nat → Nat → Int32} {rvR : Nat → Nat → Option Nat} (hX : aX p s m args c RX12 cX12_between 3 D cA A ad0) (hr : meth.sig.returnType = (some .int)) (hlk : meth.locks = false) (hRf : 1147 ≤ R.frames) (hRl : 64 * 1147 ≤ R.locals) {kh18 : Int32 → Int32 → (Nat → Nat → Int32) → (Nat → Nat → Option Nat) → Option ((Int32) × (Nat → Nat → Int32) × (Nat → Nat → Option Nat))} (Hkh18 : ∀ (x1 : Int32) (x2 : Int32) (i : Nat → Nat → Int32) (rv : Nat → Nat → Option Nat), aGood sh rv → kh18 x1 x2 i rv = some (vR, iR, rvR) → aJ p l e R s m args below meth c (MQ below (aPost D cA ad0 A (sh, i0, lo0, rv0) (some (.int vR)) (sh, iR, lo, rvR)) args s (sh.length - sh.length) (aSn sh - aSn sh) A) D cA A ad0 3 sh.length (aSn sh) 18 [some (.ref (100 + 50)), some (.int x1), some (.int x2)] [] (sh, i, lo, rv)) {x2 : Int32} {s0 : Int32} {s1 : Int32} (hG : aGood sh rv) (hf : fX12_between_69 kh18 x2 s0 s1 i rv = some (vR, iR, rvR)) : aJ p l e R s m args below meth c (MQ below (aPost D cA ad0 A (sh, i0, lo0, rv0) (some (.int vR)) (sh, iR, lo, rvR)) args s (sh.length - sh.length) (aSn sh - aSn sh) A) D cA A ad0 3 sh.length (aSn sh) 69 [some (.ref (100 + 50)), none, some (.int x2)] [.int s1, .int s0] (sh, i, lo, rv) := by
  unfold fX12_between_69 at hf
  refine j_ior hX dX12_between_69 ?_
  refine j_istore_n hX dX12_between_70 (by decide) rfl ?_
  refine j_iinc hX dX12_between_71 rfl (congrArg (_ + ·) ic_1) (by decide) rfl ?_
  refine j_goto (tgt := 18) hX dX12_between_74 (by decide) ?_
  exact aJx (Hkh18 _ _ _ _ hG  hf) (And.intro rfl (And.intro rfl (And.intro rfl (rfl))))
theorem gX12_between_69 {vR : Int32} {iR : Nat → Nat → Int32} {rvR : Nat → Nat → Option Nat} {kh18 : Int32 → Int32 → (Nat → Nat → Int32) → (Nat → Nat → Option Nat) → Option ((Int32) × (Nat → Nat → Int32) × (Nat → Nat → Option Nat))} (Hkh18 : ∀ (x1 : Int32) (x2 : Int32) (i : Nat → Nat → Int32) (rv : Nat → Nat → Option Nat), aGood sh rv → kh18 x1 x2 i rv = some (vR, iR, rvR) → aGood sh rvR) {x2 : Int32} {s0 : Int32} {s1 : Int32} (hG : aGood sh rv) (hf : fX12_between_69 kh18 x2 s0 s1 i rv = some (vR, iR, rvR)) : aGood sh rvR := by
  unfold fX12_between_69 at hf
  exact Hkh18 _ _ _ _ hG  hf
def fX12_between_68 (kh18 : Int32 → Int32 → (Nat → Nat → Int32) → (Nat → Nat → Option Nat) → Option ((Int32) × (Nat → Nat → Int32) × (Nat → Nat → Option Nat))) (x2 : Int32) (s0 : Int32) (i : Nat → Nat → Int32) (rv : Nat → Nat → Option Nat) : Option ((Int32) × (Nat → Nat → Int32) × (Nat → Nat → Option Nat)) := fX12_between_69 kh18 x2 s0 0 i rv
theorem kX12_between_68  {vR : Int32} {iR : Nat → Nat → Int32} {rvR : Nat → Nat → Option Nat} (hX : aX p s m args c RX12 cX12_between 3 D cA A ad0) (hr : meth.sig.returnType = (some .int)) (hlk : meth.locks = false) (hRf : 1147 ≤ R.frames) (hRl : 64 * 1147 ≤ R.locals) {kh18 : Int32 → Int32 → (Nat → Nat → Int32) → (Nat → Nat → Option Nat) → Option ((Int32) × (Nat → Nat → Int32) × (Nat → Nat → Option Nat))} (Hkh18 : ∀ (x1 : Int32) (x2 : Int32) (i : Nat → Nat → Int32) (rv : Nat → Nat → Option Nat), aGood sh rv → kh18 x1 x2 i rv = some (vR, iR, rvR) → aJ p l e R s m args below meth c (MQ below (aPost D cA ad0 A (sh, i0, lo0, rv0) (some (.int vR)) (sh, iR, lo, rvR)) args s (sh.length - sh.length) (aSn sh - aSn sh) A) D cA A ad0 3 sh.length (aSn sh) 18 [some (.ref (100 + 50)), some (.int x1), some (.int x2)] [] (sh, i, lo, rv)) {x2 : Int32} {s0 : Int32} (hG : aGood sh rv) (hf : fX12_between_68 kh18 x2 s0 i rv = some (vR, iR, rvR)) : aJ p l e R s m args below meth c (MQ below (aPost D cA ad0 A (sh, i0, lo0, rv0) (some (.int vR)) (sh, iR, lo, rvR)) args s (sh.length - sh.length) (aSn sh - aSn sh) A) D cA A ad0 3 sh.length (aSn sh) 68 [some (.ref (100 + 50)), none, some (.int x2)] [.int s0] (sh, i, lo, rv) := by
  unfold fX12_between_68 at hf
  refine j_iconst hX dX12_between_68 ic_0 ?_
  exact aJx (kX12_between_69 hX hr hlk hRf hRl Hkh18 hG  hf) (And.intro rfl (And.intro rfl (rfl)))
theorem gX12_between_68 {vR : Int32} {iR : Nat → Nat → Int32} {rvR : Nat → Nat → Option Nat} {kh18 : Int32 → Int32 → (Nat → Nat → Int32) → (Nat → Nat → Option Nat) → Option ((Int32) × (Nat → Nat → Int32) × (Nat → Nat → Option Nat))} (Hkh18 : ∀ (x1 : Int32) (x2 : Int32) (i : Nat → Nat → Int32) (rv : Nat → Nat → Option Nat), aGood sh rv → kh18 x1 x2 i rv = some (vR, iR, rvR) → aGood sh rvR) {x2 : Int32} {s0 : Int32} (hG : aGood sh rv) (hf : fX12_between_68 kh18 x2 s0 i rv = some (vR, iR, rvR)) : aGood sh rvR := by
  unfold fX12_between_68 at hf
  exact gX12_between_69 Hkh18 hG  hf
def fX12_between_18 : Nat → Int32 → Int32 → (Nat → Nat → Int32) → (Nat → Nat → Option Nat) → Option ((Int32) × (Nat → Nat → Int32) × (Nat → Nat → Option Nat))
  | 0, _, _, _, _ => none
  | n + 1, x1, x2, i, rv => if (i 50 26) ≤ x2 then (some (x1, i, rv)) else (if aIn (((6 : Int32) * x2) + (3 : Int32)) 296 = true then
    (if (i 63 ((((6 : Int32) * x2) + (3 : Int32)) : Int32).toNatClampNeg) = 0 then (bn3 (fX12_sleepOf 63 296 x2 0 9 i rv) fun v2 i3 rv4 =>
    if aIn 1 4 = true then
    (if v2 ≤ (i3 55 (1 : Int32).toNatClampNeg) then (fX12_between_68 (fX12_between_18 n) x2 x1 i3 rv4) else (fX12_between_69 (fX12_between_18 n) x2 x1 ((1 : Int32) <<< (x2 &&& 31)) i3 rv4)) else none) else (fX12_between_68 (fX12_between_18 n) x2 x1 i rv)) else none)
theorem kX12_between_18  {vR : Int32} {iR : Nat → Nat → Int32} {rvR : Nat → Nat → Option Nat} (hX : aX p s m args c RX12 cX12_between 3 D cA A ad0) (hr : meth.sig.returnType = (some .int)) (hlk : meth.locks = false) (hRf : 1147 ≤ R.frames) (hRl : 64 * 1147 ≤ R.locals) : ∀ (n : Nat) (x1 : Int32) (x2 : Int32) (i : Nat → Nat → Int32) (rv : Nat → Nat → Option Nat), aGood sh rv → fX12_between_18 n x1 x2 i rv = some (vR, iR, rvR) → aJ p l e R s m args below meth c (MQ below (aPost D cA ad0 A (sh, i0, lo0, rv0) (some (.int vR)) (sh, iR, lo, rvR)) args s (sh.length - sh.length) (aSn sh - aSn sh) A) D cA A ad0 3 sh.length (aSn sh) 18 [some (.ref (100 + 50)), some (.int x1), some (.int x2)] [] (sh, i, lo, rv) := by
  intro n
  induction n with
  | zero => intros; rename_i hf; cases hf
  | succ n ih =>
    intro x1 x2 i rv hG hf
    rw [fX12_between_18] at hf
    refine j_iload_n hX dX12_between_18 rfl ?_
    refine j_aload_n hX dX12_between_19 rfl ?_
    refine j_getI (k := 26) hX kX12 (by decide) fk_X12_297 dX12_between_20 (sh_50 hG) rfl ?_
    refine j_icmp_ge (tgt := 77) hX dX12_between_23 (by decide) (fun hc => ?_) (fun hc => ?_)
    · have hf := ifp hc hf
      refine j_iload_n hX dX12_between_77 rfl ?_
      cases hf
      exact j_ret hX hr hlk rfl dX12_between_78
    · have hf := ifn hc hf
      refine j_iload_n hX dX12_between_26 rfl ?_
      refine j_aload_n hX dX12_between_27 rfl ?_
      refine j_getR (k := 33) hX kX12 (by decide) fk_X12_61 (rf_50_33 hG) dX12_between_28 (sh_50 hG) rfl ?_
      refine j_bipush hX dX12_between_31 bp_6 ?_
      refine j_iload_n hX dX12_between_33 rfl ?_
      refine jpc (b := 34) rfl ?_
      refine j_imul hX dX12_between_34 ?_
      refine j_iconst hX dX12_between_35 ic_3 ?_
      refine j_iadd hX dX12_between_36 ?_
      obtain ⟨hg, hf⟩ := gd hf
      refine j_iald hX (sh_63 hG) hg dX12_between_37 ?_
      refine j_if_ne (tgt := 68) hX dX12_between_38 (by decide) (fun hc => ?_) (fun hc => ?_)
      · have hf := ifn hc hf
        exact aJx (kX12_between_68 hX hr hlk hRf hRl ih hG  hf) (And.intro rfl (And.intro rfl (rfl)))
      · have hf := ifp hc hf
        refine j_aload_n hX dX12_between_41 rfl ?_
        refine j_aload_n hX dX12_between_42 rfl ?_
        refine j_getR (k := 33) hX kX12 (by decide) fk_X12_61 (rf_50_33 hG) dX12_between_43 (sh_50 hG) rfl ?_
        refine j_iload_n hX dX12_between_46 rfl ?_
        refine j_iconst hX dX12_between_47 ic_0 ?_
        refine jpc (b := 48) rfl ?_
        refine j_bipush hX dX12_between_48 bp_9 ?_
        obtain ⟨v2, i3, rv4, hh5, hf⟩ := bd3 hf
        refine j_cV4i hX lk_X12_329 kX12 dX12_between_50 (sh_50 hG) (okX12_sleepOf hG (sh_63 hG) hh5) rfl rfl (rmm (by omega) hRf hRl (by decide)) (Nat.le_of_ble_eq_true rfl) (Nat.le_add_right _ _) (Nat.le_add_right _ _) ?_
        have hG := gdX12_sleepOf hG (sh_63 hG) hh5
        refine j_aload_n hX dX12_between_53 rfl ?_
        refine j_getR (k := 18) hX kX12 (by decide) fk_X12_37 (rf_50_18 hG) dX12_between_54 (sh_50 hG) rfl ?_
        refine j_iconst hX dX12_between_57 ic_1 ?_
        obtain ⟨hg, hf⟩ := gd hf
        refine j_iald hX (sh_55 hG) hg dX12_between_58 ?_
        refine j_icmp_le (tgt := 68) hX dX12_between_59 (by decide) (fun hc => ?_) (fun hc => ?_)
        · have hf := ifp hc hf
          exact aJx (kX12_between_68 hX hr hlk hRf hRl ih hG  hf) (And.intro rfl (And.intro rfl (rfl)))
        · have hf := ifn hc hf
          refine j_iconst hX dX12_between_62 ic_1 ?_
          refine j_iload_n hX dX12_between_63 rfl ?_
          refine j_ishl hX dX12_between_64 ?_
          refine j_goto (tgt := 69) hX dX12_between_65 (by decide) ?_
          exact aJx (kX12_between_69 hX hr hlk hRf hRl ih hG  hf) (And.intro rfl (And.intro rfl (rfl)))
theorem gX12_between_18 {vR : Int32} {iR : Nat → Nat → Int32} {rvR : Nat → Nat → Option Nat} : ∀ (n : Nat) (x1 : Int32) (x2 : Int32) (i : Nat → Nat → Int32) (rv : Nat → Nat → Option Nat), aGood sh rv → fX12_between_18 n x1 x2 i rv = some (vR, iR, rvR) → aGood sh rvR := by
  intro n
  induction n with
  | zero => intros; rename_i hf; cases hf
  | succ n ih =>
    intro x1 x2 i rv hG hf
    rw [fX12_between_18] at hf
    refine ifs hf (fun hc hf => ?_) (fun hc hf => ?_)
    · have hf := hf
      cases hf
      exact hG
    · have hf := hf
      obtain ⟨hg, hf⟩ := gd hf
      refine ifs2 hf (fun hc hf => ?_) (fun hc hf => ?_)
      · have hf := hf
        exact gX12_between_68 ih hG  hf
      · have hf := hf
        obtain ⟨v2, i3, rv4, hh5, hf⟩ := bd3 hf
        have hG := gdX12_sleepOf hG (sh_63 hG) hh5
        obtain ⟨hg, hf⟩ := gd hf
        refine ifs hf (fun hc hf => ?_) (fun hc hf => ?_)
        · have hf := hf
          exact gX12_between_68 ih hG  hf
        · have hf := hf
          exact gX12_between_69 ih hG  hf
def fX12_between (i : Nat → Nat → Int32) (rv : Nat → Nat → Option Nat) : Option ((Int32) × (Nat → Nat → Int32) × (Nat → Nat → Option Nat)) := lt (u2 i 50 0 0) fun i1 =>
    if (i1 50 26) = 0 then (some ((-1), i1, rv)) else (fX12_between_18 fuel 0 0 i1 rv)
theorem kX12_between  {vR : Int32} {iR : Nat → Nat → Int32} {rvR : Nat → Nat → Option Nat} (hX : aX p s m args c RX12 cX12_between 3 D cA A ad0) (hr : meth.sig.returnType = (some .int)) (hlk : meth.locks = false) (hRf : 1147 ≤ R.frames) (hRl : 64 * 1147 ≤ R.locals) (hG : aGood sh rv) (hf : fX12_between i rv = some (vR, iR, rvR)) : aJ p l e R s m args below meth c (MQ below (aPost D cA ad0 A (sh, i0, lo0, rv0) (some (.int vR)) (sh, iR, lo, rvR)) args s (sh.length - sh.length) (aSn sh - aSn sh) A) D cA A ad0 3 sh.length (aSn sh) 0 [some (.ref (100 + 50)), none, none] [] (sh, i, lo, rv) := by
  unfold fX12_between at hf
  refine j_aload_n hX dX12_between_0 rfl ?_
  refine j_iconst hX dX12_between_1 ic_0 ?_
  have hf := ltd hf
  refine j_putI (k := 0) hX kX12 (by decide) fk_X12_99 dX12_between_2 (sh_50 hG) rfl rfl rfl rfl ?_
  refine j_aload_n hX dX12_between_5 rfl ?_
  refine j_getI (k := 26) hX kX12 (by decide) fk_X12_297 dX12_between_6 (sh_50 hG) rfl ?_
  refine jpc (b := 9) rfl ?_
  refine j_if_ne (tgt := 14) hX dX12_between_9 (by decide) (fun hc => ?_) (fun hc => ?_)
  · have hf := ifn hc hf
    refine j_iconst hX dX12_between_14 ic_0 ?_
    refine j_istore_n hX dX12_between_15 (by decide) rfl ?_
    refine j_iconst hX dX12_between_16 ic_0 ?_
    refine j_istore_n hX dX12_between_17 (by decide) rfl ?_
    exact aJx (kX12_between_18 hX hr hlk hRf hRl fuel _ _ _ _ hG  hf) (And.intro rfl (And.intro rfl (And.intro rfl (rfl))))
  · have hf := ifp hc hf
    refine j_iconst hX dX12_between_12 ic_m1 ?_
    cases hf
    exact j_ret hX hr hlk rfl dX12_between_13
theorem gdX12_between {vR : Int32} {iR : Nat → Nat → Int32} {rvR : Nat → Nat → Option Nat} (hG : aGood sh rv) (hf : fX12_between i rv = some (vR, iR, rvR)) : aGood sh rvR := by
  unfold fX12_between at hf
  have hf := ltd hf
  refine ifs2 hf (fun hc hf => ?_) (fun hc hf => ?_)
  · have hf := hf
    exact gX12_between_18 fuel _ _ _ _ hG  hf
  · have hf := hf
    cases hf
    exact hG
theorem okX12_between {l : Launch} {sh : List aSh} {i : Nat → Nat → Int32} {lo : Nat → Nat → Int64} {rv : Nat → Nat → Option Nat}  {vR : Int32} {iR : Nat → Nat → Int32} {rvR : Nat → Nat → Option Nat} (hG : aGood sh rv) (hf : fX12_between i rv = some (vR, iR, rvR)) : aM l yX12_between cX12_between 3 (some .int) 1147 [.ref (100 + 50)] (sh, i, lo, rv) (some (.int vR)) (sh, iR, lo, rvR) :=
  aM_of (by decide) (Nat.le_of_ble_eq_true rfl) (Nat.le_refl _) (Nat.le_refl _) (fun p e s m args below meth c D cA A ad0 hX hr hlk hnm => kX12_between hX hr hlk (Nat.le_refl _) (Nat.le_refl _) hG hf)
def fX12_favourOf_69 (kh32 : Int32 → Int32 → Int32 → Int32 → Int32 → Int32 → (Nat → Nat → Int32) → (Nat → Nat → Option Nat) → Option ((Int32) × (Nat → Nat → Int32) × (Nat → Nat → Option Nat))) (x1 : Int32) (x2 : Int32) (x3 : Int32) (x4 : Int32) (x7 : Int32) (s0 : Int32) (s1 : Int32) (i : Nat → Nat → Int32) (rv : Nat → Nat → Option Nat) : Option ((Int32) × (Nat → Nat → Int32) × (Nat → Nat → Option Nat)) := kh32 x1 x2 x3 x4 (s0 + s1) (x7 + 1) i rv
theorem kX12_favourOf_69  {vR : Int32} {iR : Nat → Nat → Int32} {rvR : Nat → Nat → Option Nat} (hX : aX p s m args c RX12 cX12_favourOf 8 D cA A ad0) (hr : meth.sig.returnType = (some .int)) (hlk : meth.locks = false) (hRf : 1147 ≤ R.frames) (hRl : 64 * 1147 ≤ R.locals) {kh32 : Int32 → Int32 → Int32 → Int32 → Int32 → Int32 → (Nat → Nat → Int32) → (Nat → Nat → Option Nat) → Option ((Int32) × (Nat → Nat → Int32) × (Nat → Nat → Option Nat))} (Hkh32 : ∀ (x1 : Int32) (x2 : Int32) (x3 : Int32) (x4 : Int32) (x6 : Int32) (x7 : Int32) (i : Nat → Nat → Int32) (rv : Nat → Nat → Option Nat), aGood sh rv → kh32 x1 x2 x3 x4 x6 x7 i rv = some (vR, iR, rvR) → aJ p l e R s m args below meth c (MQ below (aPost D cA ad0 A (sh, i0, lo0, rv0) (some (.int vR)) (sh, iR, lo, rvR)) args s (sh.length - sh.length) (aSn sh - aSn sh) A) D cA A ad0 8 sh.length (aSn sh) 32 [some (.ref (100 + 50)), some (.int x1), some (.int x2), some (.int x3), some (.int x4), none, some (.int x6), some (.int x7)] [] (sh, i, lo, rv)) {x1 : Int32} {x2 : Int32} {x3 : Int32} {x4 : Int32} {x7 : Int32} {s0 : Int32} {s1 : Int32} (hG : aGood sh rv) (hf : fX12_favourOf_69 kh32 x1 x2 x3 x4 x7 s0 s1 i rv = some (vR, iR, rvR)) : aJ p l e R s m args below meth c (MQ below (aPost D cA ad0 A (sh, i0, lo0, rv0) (some (.int vR)) (sh, iR, lo, rvR)) args s (sh.length - sh.length) (aSn sh - aSn sh) A) D cA A ad0 8 sh.length (aSn sh) 69 [some (.ref (100 + 50)), some (.int x1), some (.int x2), some (.int x3), some (.int x4), none, none, some (.int x7)] [.int s1, .int s0] (sh, i, lo, rv) := by
  unfold fX12_favourOf_69 at hf
  refine j_iadd hX dX12_favourOf_69 ?_
  refine j_istore hX dX12_favourOf_70 (by decide) rfl ?_
  refine j_iinc hX dX12_favourOf_72 rfl (congrArg (_ + ·) ic_1) (by decide) rfl ?_
  refine j_goto (tgt := 32) hX dX12_favourOf_75 (by decide) ?_
  exact aJx (Hkh32 _ _ _ _ _ _ _ _ hG  hf) (And.intro rfl (And.intro rfl (And.intro rfl (And.intro rfl (And.intro rfl (And.intro rfl (And.intro rfl (rfl))))))))
theorem gX12_favourOf_69 {vR : Int32} {iR : Nat → Nat → Int32} {rvR : Nat → Nat → Option Nat} {kh32 : Int32 → Int32 → Int32 → Int32 → Int32 → Int32 → (Nat → Nat → Int32) → (Nat → Nat → Option Nat) → Option ((Int32) × (Nat → Nat → Int32) × (Nat → Nat → Option Nat))} (Hkh32 : ∀ (x1 : Int32) (x2 : Int32) (x3 : Int32) (x4 : Int32) (x6 : Int32) (x7 : Int32) (i : Nat → Nat → Int32) (rv : Nat → Nat → Option Nat), aGood sh rv → kh32 x1 x2 x3 x4 x6 x7 i rv = some (vR, iR, rvR) → aGood sh rvR) {x1 : Int32} {x2 : Int32} {x3 : Int32} {x4 : Int32} {x7 : Int32} {s0 : Int32} {s1 : Int32} (hG : aGood sh rv) (hf : fX12_favourOf_69 kh32 x1 x2 x3 x4 x7 s0 s1 i rv = some (vR, iR, rvR)) : aGood sh rvR := by
  unfold fX12_favourOf_69 at hf
  exact Hkh32 _ _ _ _ _ _ _ _ hG  hf
def fX12_favourOf_106 (x2 : Int32) (x3 : Int32) (x4 : Int32) (x6 : Int32) (s0 : Int32) (i : Nat → Nat → Int32) (rv : Nat → Nat → Option Nat) : Option ((Int32) × (Nat → Nat → Int32) × (Nat → Nat → Option Nat)) := some (((s0 - (((2 : Int32) * x2) * x3)) - ((x2 * x4) * (x6 / (10 : Int32)))), i, rv)
theorem kX12_favourOf_106  {vR : Int32} {iR : Nat → Nat → Int32} {rvR : Nat → Nat → Option Nat} (hX : aX p s m args c RX12 cX12_favourOf 8 D cA A ad0) (hr : meth.sig.returnType = (some .int)) (hlk : meth.locks = false) (hRf : 1147 ≤ R.frames) (hRl : 64 * 1147 ≤ R.locals) {x2 : Int32} {x3 : Int32} {x4 : Int32} {x6 : Int32} {s0 : Int32} (hG : aGood sh rv) (hf : fX12_favourOf_106 x2 x3 x4 x6 s0 i rv = some (vR, iR, rvR)) : aJ p l e R s m args below meth c (MQ below (aPost D cA ad0 A (sh, i0, lo0, rv0) (some (.int vR)) (sh, iR, lo, rvR)) args s (sh.length - sh.length) (aSn sh - aSn sh) A) D cA A ad0 8 sh.length (aSn sh) 106 [none, none, some (.int x2), some (.int x3), some (.int x4), none, some (.int x6), none] [.int s0] (sh, i, lo, rv) := by
  unfold fX12_favourOf_106 at hf
  refine j_iconst hX dX12_favourOf_106 ic_2 ?_
  refine j_iload_n hX dX12_favourOf_107 rfl ?_
  refine j_imul hX dX12_favourOf_108 ?_
  refine j_iload_n hX dX12_favourOf_109 rfl ?_
  refine j_imul hX dX12_favourOf_110 ?_
  refine jpc (b := 111) rfl ?_
  refine j_isub hX dX12_favourOf_111 ?_
  refine j_iload_n hX dX12_favourOf_112 rfl ?_
  refine j_iload hX dX12_favourOf_113 rfl ?_
  refine j_imul hX dX12_favourOf_115 ?_
  refine j_iload hX dX12_favourOf_116 rfl ?_
  refine j_bipush hX dX12_favourOf_118 bp_10 ?_
  refine jpc (b := 120) rfl ?_
  refine j_idiv hX dX12_favourOf_120 (by decide) ?_
  refine j_imul hX dX12_favourOf_121 ?_
  refine j_isub hX dX12_favourOf_122 ?_
  cases hf
  exact j_ret hX hr hlk rfl dX12_favourOf_123
theorem gX12_favourOf_106 {vR : Int32} {iR : Nat → Nat → Int32} {rvR : Nat → Nat → Option Nat} {x2 : Int32} {x3 : Int32} {x4 : Int32} {x6 : Int32} {s0 : Int32} (hG : aGood sh rv) (hf : fX12_favourOf_106 x2 x3 x4 x6 s0 i rv = some (vR, iR, rvR)) : aGood sh rvR := by
  unfold fX12_favourOf_106 at hf
  cases hf
  exact hG
def fX12_favourOf_105 (x2 : Int32) (x3 : Int32) (x4 : Int32) (x6 : Int32) (i : Nat → Nat → Int32) (rv : Nat → Nat → Option Nat) : Option ((Int32) × (Nat → Nat → Int32) × (Nat → Nat → Option Nat)) := fX12_favourOf_106 x2 x3 x4 x6 0 i rv
theorem kX12_favourOf_105  {vR : Int32} {iR : Nat → Nat → Int32} {rvR : Nat → Nat → Option Nat} (hX : aX p s m args c RX12 cX12_favourOf 8 D cA A ad0) (hr : meth.sig.returnType = (some .int)) (hlk : meth.locks = false) (hRf : 1147 ≤ R.frames) (hRl : 64 * 1147 ≤ R.locals) {x2 : Int32} {x3 : Int32} {x4 : Int32} {x6 : Int32} (hG : aGood sh rv) (hf : fX12_favourOf_105 x2 x3 x4 x6 i rv = some (vR, iR, rvR)) : aJ p l e R s m args below meth c (MQ below (aPost D cA ad0 A (sh, i0, lo0, rv0) (some (.int vR)) (sh, iR, lo, rvR)) args s (sh.length - sh.length) (aSn sh - aSn sh) A) D cA A ad0 8 sh.length (aSn sh) 105 [none, none, some (.int x2), some (.int x3), some (.int x4), none, some (.int x6), none] [] (sh, i, lo, rv) := by
  unfold fX12_favourOf_105 at hf
  refine j_iconst hX dX12_favourOf_105 ic_0 ?_
  exact aJx (kX12_favourOf_106 hX hr hlk hRf hRl hG  hf) (And.intro rfl (And.intro rfl (And.intro rfl (And.intro rfl (rfl)))))
theorem gX12_favourOf_105 {vR : Int32} {iR : Nat → Nat → Int32} {rvR : Nat → Nat → Option Nat} {x2 : Int32} {x3 : Int32} {x4 : Int32} {x6 : Int32} (hG : aGood sh rv) (hf : fX12_favourOf_105 x2 x3 x4 x6 i rv = some (vR, iR, rvR)) : aGood sh rvR := by
  unfold fX12_favourOf_105 at hf
  exact gX12_favourOf_106 hG  hf
def fX12_favourOf_32 : Nat → Int32 → Int32 → Int32 → Int32 → Int32 → Int32 → (Nat → Nat → Int32) → (Nat → Nat → Option Nat) → Option ((Int32) × (Nat → Nat → Int32) × (Nat → Nat → Option Nat))
  | 0, _, _, _, _, _, _, _, _ => none
  | n + 1, x1, x2, x3, x4, x6, x7, i, rv => if (i 50 26) ≤ x7 then (if x3 = 1 then (if x4 = 0 then (if aIn (((4 : Int32) * x1) + (3 : Int32)) 16 = true then
    (fX12_favourOf_106 x2 x3 x4 x6 ((i 59 ((((4 : Int32) * x1) + (3 : Int32)) : Int32).toNatClampNeg) * (x2 - (1 : Int32))) i rv) else none) else (fX12_favourOf_105 x2 x3 x4 x6 i rv)) else (fX12_favourOf_105 x2 x3 x4 x6 i rv)) else (bn1 (fX12_isChild x7 i) fun v1 =>
    if v1 = 0 then (bn3 (fX12_sleepOf 63 296 x7 0 9 i rv) fun v3 i4 rv5 =>
    fX12_favourOf_69 (fX12_favourOf_32 n) x1 x2 x3 x4 x7 x6 v3 i4 rv5) else (fX12_favourOf_69 (fX12_favourOf_32 n) x1 x2 x3 x4 x7 x6 0 i rv))
theorem kX12_favourOf_32  {vR : Int32} {iR : Nat → Nat → Int32} {rvR : Nat → Nat → Option Nat} (hX : aX p s m args c RX12 cX12_favourOf 8 D cA A ad0) (hr : meth.sig.returnType = (some .int)) (hlk : meth.locks = false) (hRf : 1147 ≤ R.frames) (hRl : 64 * 1147 ≤ R.locals) : ∀ (n : Nat) (x1 : Int32) (x2 : Int32) (x3 : Int32) (x4 : Int32) (x6 : Int32) (x7 : Int32) (i : Nat → Nat → Int32) (rv : Nat → Nat → Option Nat), aGood sh rv → fX12_favourOf_32 n x1 x2 x3 x4 x6 x7 i rv = some (vR, iR, rvR) → aJ p l e R s m args below meth c (MQ below (aPost D cA ad0 A (sh, i0, lo0, rv0) (some (.int vR)) (sh, iR, lo, rvR)) args s (sh.length - sh.length) (aSn sh - aSn sh) A) D cA A ad0 8 sh.length (aSn sh) 32 [some (.ref (100 + 50)), some (.int x1), some (.int x2), some (.int x3), some (.int x4), none, some (.int x6), some (.int x7)] [] (sh, i, lo, rv) := by
  intro n
  induction n with
  | zero => intros; rename_i hf; cases hf
  | succ n ih =>
    intro x1 x2 x3 x4 x6 x7 i rv hG hf
    rw [fX12_favourOf_32] at hf
    refine j_iload hX dX12_favourOf_32 rfl ?_
    refine j_aload_n hX dX12_favourOf_34 rfl ?_
    refine j_getI (k := 26) hX kX12 (by decide) fk_X12_297 dX12_favourOf_35 (sh_50 hG) rfl ?_
    refine j_icmp_ge (tgt := 78) hX dX12_favourOf_38 (by decide) (fun hc => ?_) (fun hc => ?_)
    · have hf := ifp hc hf
      refine j_iload_n hX dX12_favourOf_78 rfl ?_
      refine j_iconst hX dX12_favourOf_79 ic_1 ?_
      refine j_icmp_ne (tgt := 105) hX dX12_favourOf_80 (by decide) (fun hc => ?_) (fun hc => ?_)
      · have hf := ifn hc hf
        exact aJx (kX12_favourOf_105 hX hr hlk hRf hRl hG  hf) (And.intro rfl (And.intro rfl (And.intro rfl (And.intro rfl (rfl)))))
      · have hf := ifp hc hf
        refine j_iload hX dX12_favourOf_83 rfl ?_
        refine j_if_ne (tgt := 105) hX dX12_favourOf_85 (by decide) (fun hc => ?_) (fun hc => ?_)
        · have hf := ifn hc hf
          exact aJx (kX12_favourOf_105 hX hr hlk hRf hRl hG  hf) (And.intro rfl (And.intro rfl (And.intro rfl (And.intro rfl (rfl)))))
        · have hf := ifp hc hf
          refine j_aload_n hX dX12_favourOf_88 rfl ?_
          refine j_getR (k := 22) hX kX12 (by decide) fk_X12_49 (rf_50_22 hG) dX12_favourOf_89 (sh_50 hG) rfl ?_
          refine j_iconst hX dX12_favourOf_92 ic_4 ?_
          refine j_iload_n hX dX12_favourOf_93 rfl ?_
          refine j_imul hX dX12_favourOf_94 ?_
          refine jpc (b := 95) rfl ?_
          refine j_iconst hX dX12_favourOf_95 ic_3 ?_
          refine j_iadd hX dX12_favourOf_96 ?_
          obtain ⟨hg, hf⟩ := gd hf
          refine j_iald hX (sh_59 hG) hg dX12_favourOf_97 ?_
          refine j_iload_n hX dX12_favourOf_98 rfl ?_
          refine j_iconst hX dX12_favourOf_99 ic_1 ?_
          refine j_isub hX dX12_favourOf_100 ?_
          refine j_imul hX dX12_favourOf_101 ?_
          refine j_goto (tgt := 106) hX dX12_favourOf_102 (by decide) ?_
          exact aJx (kX12_favourOf_106 hX hr hlk hRf hRl hG  hf) (And.intro rfl (And.intro rfl (And.intro rfl (And.intro rfl (rfl)))))
    · have hf := ifn hc hf
      refine j_iload hX dX12_favourOf_41 rfl ?_
      refine j_aload_n hX dX12_favourOf_43 rfl ?_
      refine j_iload hX dX12_favourOf_44 rfl ?_
      obtain ⟨v1, hh2, hf⟩ := bd1 hf
      refine j_cV1i hX lk_X12_379 kX12 dX12_favourOf_46 (sh_50 hG) (okX12_isChild hG hh2) rfl rfl (rmm (by omega) hRf hRl (by decide)) (Nat.le_of_ble_eq_true rfl) (Nat.le_add_right _ _) (Nat.le_add_right _ _) ?_
      refine j_if_eq (tgt := 56) hX dX12_favourOf_49 (by decide) (fun hc => ?_) (fun hc => ?_)
      · have hf := ifp hc hf
        refine j_aload_n hX dX12_favourOf_56 rfl ?_
        refine j_aload_n hX dX12_favourOf_57 rfl ?_
        refine j_getR (k := 33) hX kX12 (by decide) fk_X12_61 (rf_50_33 hG) dX12_favourOf_58 (sh_50 hG) rfl ?_
        refine j_iload hX dX12_favourOf_61 rfl ?_
        refine j_iconst hX dX12_favourOf_63 ic_0 ?_
        refine jpc (b := 64) rfl ?_
        refine j_bipush hX dX12_favourOf_64 bp_9 ?_
        obtain ⟨v3, i4, rv5, hh6, hf⟩ := bd3 hf
        refine j_cV4i hX lk_X12_329 kX12 dX12_favourOf_66 (sh_50 hG) (okX12_sleepOf hG (sh_63 hG) hh6) rfl rfl (rmm (by omega) hRf hRl (by decide)) (Nat.le_of_ble_eq_true rfl) (Nat.le_add_right _ _) (Nat.le_add_right _ _) ?_
        have hG := gdX12_sleepOf hG (sh_63 hG) hh6
        exact aJx (kX12_favourOf_69 hX hr hlk hRf hRl ih hG  hf) (And.intro rfl (And.intro rfl (And.intro rfl (And.intro rfl (And.intro rfl (And.intro rfl (rfl)))))))
      · have hf := ifn hc hf
        refine j_iconst hX dX12_favourOf_52 ic_0 ?_
        refine j_goto (tgt := 69) hX dX12_favourOf_53 (by decide) ?_
        exact aJx (kX12_favourOf_69 hX hr hlk hRf hRl ih hG  hf) (And.intro rfl (And.intro rfl (And.intro rfl (And.intro rfl (And.intro rfl (And.intro rfl (rfl)))))))
theorem gX12_favourOf_32 {vR : Int32} {iR : Nat → Nat → Int32} {rvR : Nat → Nat → Option Nat} : ∀ (n : Nat) (x1 : Int32) (x2 : Int32) (x3 : Int32) (x4 : Int32) (x6 : Int32) (x7 : Int32) (i : Nat → Nat → Int32) (rv : Nat → Nat → Option Nat), aGood sh rv → fX12_favourOf_32 n x1 x2 x3 x4 x6 x7 i rv = some (vR, iR, rvR) → aGood sh rvR := by
  intro n
  induction n with
  | zero => intros; rename_i hf; cases hf
  | succ n ih =>
    intro x1 x2 x3 x4 x6 x7 i rv hG hf
    rw [fX12_favourOf_32] at hf
    refine ifs hf (fun hc hf => ?_) (fun hc hf => ?_)
    · have hf := hf
      refine ifs2 hf (fun hc hf => ?_) (fun hc hf => ?_)
      · have hf := hf
        exact gX12_favourOf_105 hG  hf
      · have hf := hf
        refine ifs2 hf (fun hc hf => ?_) (fun hc hf => ?_)
        · have hf := hf
          exact gX12_favourOf_105 hG  hf
        · have hf := hf
          obtain ⟨hg, hf⟩ := gd hf
          exact gX12_favourOf_106 hG  hf
    · have hf := hf
      obtain ⟨v1, hh2, hf⟩ := bd1 hf
      refine ifs hf (fun hc hf => ?_) (fun hc hf => ?_)
      · have hf := hf
        obtain ⟨v3, i4, rv5, hh6, hf⟩ := bd3 hf
        have hG := gdX12_sleepOf hG (sh_63 hG) hh6
        exact gX12_favourOf_69 ih hG  hf
      · have hf := hf
        exact gX12_favourOf_69 ih hG  hf
def fX12_favourOf (a1 : Int32) (a2 : Int32) (a3 : Int32) (a4 : Int32) (a5 : Int32) (i : Nat → Nat → Int32) (rv : Nat → Nat → Option Nat) : Option ((Int32) × (Nat → Nat → Int32) × (Nat → Nat → Option Nat)) := if a5 = 1 then (some ((((((3 : Int32) * a2) * a3) + (a2 * a4)) - ((((2 : Int32) * a2) * a3) * a4)), i, rv)) else (fX12_favourOf_32 fuel a1 a2 a3 a4 0 0 i rv)
theorem kX12_favourOf  {vR : Int32} {iR : Nat → Nat → Int32} {rvR : Nat → Nat → Option Nat} (hX : aX p s m args c RX12 cX12_favourOf 8 D cA A ad0) (hr : meth.sig.returnType = (some .int)) (hlk : meth.locks = false) (hRf : 1147 ≤ R.frames) (hRl : 64 * 1147 ≤ R.locals) {a1 : Int32} {a2 : Int32} {a3 : Int32} {a4 : Int32} {a5 : Int32} (hG : aGood sh rv) (hf : fX12_favourOf a1 a2 a3 a4 a5 i rv = some (vR, iR, rvR)) : aJ p l e R s m args below meth c (MQ below (aPost D cA ad0 A (sh, i0, lo0, rv0) (some (.int vR)) (sh, iR, lo, rvR)) args s (sh.length - sh.length) (aSn sh - aSn sh) A) D cA A ad0 8 sh.length (aSn sh) 0 [some (.ref (100 + 50)), some (.int a1), some (.int a2), some (.int a3), some (.int a4), some (.int a5), none, none] [] (sh, i, lo, rv) := by
  unfold fX12_favourOf at hf
  refine j_iload hX dX12_favourOf_0 rfl ?_
  refine j_iconst hX dX12_favourOf_2 ic_1 ?_
  refine j_icmp_ne (tgt := 26) hX dX12_favourOf_3 (by decide) (fun hc => ?_) (fun hc => ?_)
  · have hf := ifn hc hf
    refine j_iconst hX dX12_favourOf_26 ic_0 ?_
    refine j_istore hX dX12_favourOf_27 (by decide) rfl ?_
    refine j_iconst hX dX12_favourOf_29 ic_0 ?_
    refine j_istore hX dX12_favourOf_30 (by decide) rfl ?_
    exact aJx (kX12_favourOf_32 hX hr hlk hRf hRl fuel _ _ _ _ _ _ _ _ hG  hf) (And.intro rfl (And.intro rfl (And.intro rfl (And.intro rfl (And.intro rfl (And.intro rfl (And.intro rfl (rfl))))))))
  · have hf := ifp hc hf
    refine j_iconst hX dX12_favourOf_6 ic_3 ?_
    refine j_iload_n hX dX12_favourOf_7 rfl ?_
    refine j_imul hX dX12_favourOf_8 ?_
    refine j_iload_n hX dX12_favourOf_9 rfl ?_
    refine j_imul hX dX12_favourOf_10 ?_
    refine jpc (b := 11) rfl ?_
    refine j_iload_n hX dX12_favourOf_11 rfl ?_
    refine j_iload hX dX12_favourOf_12 rfl ?_
    refine j_imul hX dX12_favourOf_14 ?_
    refine j_iadd hX dX12_favourOf_15 ?_
    refine j_iconst hX dX12_favourOf_16 ic_2 ?_
    refine j_iload_n hX dX12_favourOf_17 rfl ?_
    refine jpc (b := 18) rfl ?_
    refine j_imul hX dX12_favourOf_18 ?_
    refine j_iload_n hX dX12_favourOf_19 rfl ?_
    refine j_imul hX dX12_favourOf_20 ?_
    refine j_iload hX dX12_favourOf_21 rfl ?_
    refine j_imul hX dX12_favourOf_23 ?_
    refine j_isub hX dX12_favourOf_24 ?_
    refine jpc (b := 25) rfl ?_
    cases hf
    exact j_ret hX hr hlk rfl dX12_favourOf_25
theorem gdX12_favourOf {vR : Int32} {iR : Nat → Nat → Int32} {rvR : Nat → Nat → Option Nat} {a1 : Int32} {a2 : Int32} {a3 : Int32} {a4 : Int32} {a5 : Int32} (hG : aGood sh rv) (hf : fX12_favourOf a1 a2 a3 a4 a5 i rv = some (vR, iR, rvR)) : aGood sh rvR := by
  unfold fX12_favourOf at hf
  refine ifs2 hf (fun hc hf => ?_) (fun hc hf => ?_)
  · have hf := hf
    exact gX12_favourOf_32 fuel _ _ _ _ _ _ _ _ hG  hf
  · have hf := hf
    cases hf
    exact hG
theorem okX12_favourOf {l : Launch} {sh : List aSh} {i : Nat → Nat → Int32} {lo : Nat → Nat → Int64} {rv : Nat → Nat → Option Nat}  {a1 : Int32} {a2 : Int32} {a3 : Int32} {a4 : Int32} {a5 : Int32} {vR : Int32} {iR : Nat → Nat → Int32} {rvR : Nat → Nat → Option Nat} (hG : aGood sh rv) (hf : fX12_favourOf a1 a2 a3 a4 a5 i rv = some (vR, iR, rvR)) : aM l yX12_favourOf cX12_favourOf 8 (some .int) 1147 [.ref (100 + 50), .int a1, .int a2, .int a3, .int a4, .int a5] (sh, i, lo, rv) (some (.int vR)) (sh, iR, lo, rvR) :=
  aM_of (by decide) (Nat.le_of_ble_eq_true rfl) (Nat.le_refl _) (Nat.le_refl _) (fun p e s m args below meth c D cA A ad0 hX hr hlk hnm => kX12_favourOf hX hr hlk (Nat.le_refl _) (Nat.le_refl _) hG hf)
def fX12_favour (a1 : Int32) (a2 : Int32) (a3 : Int32) (a4 : Int32) (a5 : Int32) (i : Nat → Nat → Int32) (rv : Nat → Nat → Option Nat) : Option ((Int32) × (Nat → Nat → Int32) × (Nat → Nat → Option Nat)) := lt (u2 i 50 0 0) fun i1 =>
    bn1 (fX12_isOfficer a1 i1) fun v2 =>
    if v2 = 0 then (some ((-1000000), i1, rv)) else (bn1 (fX12_isIn (a2 : Int32).toInt64 1 9) fun v4 =>
    if v4 = 0 then (some ((-1000000), i1, rv)) else (bn1 (fX12_isIn (a3 : Int32).toInt64 0 1) fun v6 =>
    if v6 = 0 then (some ((-1000000), i1, rv)) else (bn1 (fX12_isIn (a4 : Int32).toInt64 0 1) fun v8 =>
    if v8 = 0 then (some ((-1000000), i1, rv)) else (bn1 (fX12_isIn (a5 : Int32).toInt64 0 1) fun v10 =>
    if v10 = 0 then (some ((-1000000), i1, rv)) else (bn3 (fX12_favourOf a1 a2 a3 a4 a5 i1 rv) fun v12 i13 rv14 =>
    some (v12, i13, rv14))))))
theorem kX12_favour  {vR : Int32} {iR : Nat → Nat → Int32} {rvR : Nat → Nat → Option Nat} (hX : aX p s m args c RX12 cX12_favour 6 D cA A ad0) (hr : meth.sig.returnType = (some .int)) (hlk : meth.locks = false) (hRf : 1148 ≤ R.frames) (hRl : 64 * 1148 ≤ R.locals) {a1 : Int32} {a2 : Int32} {a3 : Int32} {a4 : Int32} {a5 : Int32} (hG : aGood sh rv) (hf : fX12_favour a1 a2 a3 a4 a5 i rv = some (vR, iR, rvR)) : aJ p l e R s m args below meth c (MQ below (aPost D cA ad0 A (sh, i0, lo0, rv0) (some (.int vR)) (sh, iR, lo, rvR)) args s (sh.length - sh.length) (aSn sh - aSn sh) A) D cA A ad0 6 sh.length (aSn sh) 0 [some (.ref (100 + 50)), some (.int a1), some (.int a2), some (.int a3), some (.int a4), some (.int a5)] [] (sh, i, lo, rv) := by
  unfold fX12_favour at hf
  refine j_aload_n hX dX12_favour_0 rfl ?_
  refine j_iconst hX dX12_favour_1 ic_0 ?_
  have hf := ltd hf
  refine j_putI (k := 0) hX kX12 (by decide) fk_X12_99 dX12_favour_2 (sh_50 hG) rfl rfl rfl rfl ?_
  refine j_aload_n hX dX12_favour_5 rfl ?_
  refine j_iload_n hX dX12_favour_6 rfl ?_
  refine jpc (b := 7) rfl ?_
  obtain ⟨v2, hh3, hf⟩ := bd1 hf
  refine j_cV1i hX lk_X12_374 kX12 dX12_favour_7 (sh_50 hG) (okX12_isOfficer hG hh3) rfl rfl (rmm (by omega) hRf hRl (by decide)) (Nat.le_of_ble_eq_true rfl) (Nat.le_add_right _ _) (Nat.le_add_right _ _) ?_
  refine j_if_eq (tgt := 71) hX dX12_favour_10 (by decide) (fun hc => ?_) (fun hc => ?_)
  · have hf := ifp hc hf
    refine j_ldc_w hX kc_X12_441 dX12_favour_71 ?_
    cases hf
    exact j_ret hX hr hlk rfl dX12_favour_74
  · have hf := ifn hc hf
    refine j_iload_n hX dX12_favour_13 rfl ?_
    refine j_i2l hX dX12_favour_14 ?_
    refine j_lconst (v := 1) hX dX12_favour_15 (by decide) ?_
    refine j_ldc2_w hX kc_X12_488 dX12_favour_16 ?_
    obtain ⟨v4, hh5, hf⟩ := bd1 hf
    refine j_cS3i hX lk_X12_220 dX12_favour_19 (okX12_isIn hG hh5) rfl rfl (rmm (by omega) hRf hRl (by decide)) (Nat.le_of_ble_eq_true rfl) (Nat.le_add_right _ _) (Nat.le_add_right _ _) ?_
    refine jpc (b := 22) rfl ?_
    refine j_if_eq (tgt := 71) hX dX12_favour_22 (by decide) (fun hc => ?_) (fun hc => ?_)
    · have hf := ifp hc hf
      refine j_ldc_w hX kc_X12_441 dX12_favour_71 ?_
      cases hf
      exact j_ret hX hr hlk rfl dX12_favour_74
    · have hf := ifn hc hf
      refine j_iload_n hX dX12_favour_25 rfl ?_
      refine j_i2l hX dX12_favour_26 ?_
      refine j_lconst (v := 0) hX dX12_favour_27 (by decide) ?_
      refine j_lconst (v := 1) hX dX12_favour_28 (by decide) ?_
      obtain ⟨v6, hh7, hf⟩ := bd1 hf
      refine j_cS3i hX lk_X12_220 dX12_favour_29 (okX12_isIn hG hh7) rfl rfl (rmm (by omega) hRf hRl (by decide)) (Nat.le_of_ble_eq_true rfl) (Nat.le_add_right _ _) (Nat.le_add_right _ _) ?_
      refine jpc (b := 32) rfl ?_
      refine j_if_eq (tgt := 71) hX dX12_favour_32 (by decide) (fun hc => ?_) (fun hc => ?_)
      · have hf := ifp hc hf
        refine j_ldc_w hX kc_X12_441 dX12_favour_71 ?_
        cases hf
        exact j_ret hX hr hlk rfl dX12_favour_74
      · have hf := ifn hc hf
        refine j_iload hX dX12_favour_35 rfl ?_
        refine j_i2l hX dX12_favour_37 ?_
        refine j_lconst (v := 0) hX dX12_favour_38 (by decide) ?_
        refine j_lconst (v := 1) hX dX12_favour_39 (by decide) ?_
        obtain ⟨v8, hh9, hf⟩ := bd1 hf
        refine j_cS3i hX lk_X12_220 dX12_favour_40 (okX12_isIn hG hh9) rfl rfl (rmm (by omega) hRf hRl (by decide)) (Nat.le_of_ble_eq_true rfl) (Nat.le_add_right _ _) (Nat.le_add_right _ _) ?_
        refine jpc (b := 43) rfl ?_
        refine j_if_eq (tgt := 71) hX dX12_favour_43 (by decide) (fun hc => ?_) (fun hc => ?_)
        · have hf := ifp hc hf
          refine j_ldc_w hX kc_X12_441 dX12_favour_71 ?_
          cases hf
          exact j_ret hX hr hlk rfl dX12_favour_74
        · have hf := ifn hc hf
          refine j_iload hX dX12_favour_46 rfl ?_
          refine j_i2l hX dX12_favour_48 ?_
          refine j_lconst (v := 0) hX dX12_favour_49 (by decide) ?_
          refine j_lconst (v := 1) hX dX12_favour_50 (by decide) ?_
          obtain ⟨v10, hh11, hf⟩ := bd1 hf
          refine j_cS3i hX lk_X12_220 dX12_favour_51 (okX12_isIn hG hh11) rfl rfl (rmm (by omega) hRf hRl (by decide)) (Nat.le_of_ble_eq_true rfl) (Nat.le_add_right _ _) (Nat.le_add_right _ _) ?_
          refine jpc (b := 54) rfl ?_
          refine j_if_eq (tgt := 71) hX dX12_favour_54 (by decide) (fun hc => ?_) (fun hc => ?_)
          · have hf := ifp hc hf
            refine j_ldc_w hX kc_X12_441 dX12_favour_71 ?_
            cases hf
            exact j_ret hX hr hlk rfl dX12_favour_74
          · have hf := ifn hc hf
            refine j_aload_n hX dX12_favour_57 rfl ?_
            refine j_iload_n hX dX12_favour_58 rfl ?_
            refine j_iload_n hX dX12_favour_59 rfl ?_
            refine j_iload_n hX dX12_favour_60 rfl ?_
            refine j_iload hX dX12_favour_61 rfl ?_
            refine jpc (b := 63) rfl ?_
            refine j_iload hX dX12_favour_63 rfl ?_
            obtain ⟨v12, i13, rv14, hh15, hf⟩ := bd3 hf
            refine j_cV5i hX lk_X12_508 kX12 dX12_favour_65 (sh_50 hG) (okX12_favourOf hG hh15) rfl rfl (rmm (by omega) hRf hRl (by decide)) (Nat.le_of_ble_eq_true rfl) (Nat.le_add_right _ _) (Nat.le_add_right _ _) ?_
            have hG := gdX12_favourOf hG hh15
            refine j_goto (tgt := 74) hX dX12_favour_68 (by decide) ?_
            cases hf
            exact j_ret hX hr hlk rfl dX12_favour_74
theorem gdX12_favour {vR : Int32} {iR : Nat → Nat → Int32} {rvR : Nat → Nat → Option Nat} {a1 : Int32} {a2 : Int32} {a3 : Int32} {a4 : Int32} {a5 : Int32} (hG : aGood sh rv) (hf : fX12_favour a1 a2 a3 a4 a5 i rv = some (vR, iR, rvR)) : aGood sh rvR := by
  unfold fX12_favour at hf
  have hf := ltd hf
  obtain ⟨v2, hh3, hf⟩ := bd1 hf
  refine ifs hf (fun hc hf => ?_) (fun hc hf => ?_)
  · have hf := hf
    cases hf
    exact hG
  · have hf := hf
    obtain ⟨v4, hh5, hf⟩ := bd1 hf
    refine ifs hf (fun hc hf => ?_) (fun hc hf => ?_)
    · have hf := hf
      cases hf
      exact hG
    · have hf := hf
      obtain ⟨v6, hh7, hf⟩ := bd1 hf
      refine ifs hf (fun hc hf => ?_) (fun hc hf => ?_)
      · have hf := hf
        cases hf
        exact hG
      · have hf := hf
        obtain ⟨v8, hh9, hf⟩ := bd1 hf
        refine ifs hf (fun hc hf => ?_) (fun hc hf => ?_)
        · have hf := hf
          cases hf
          exact hG
        · have hf := hf
          obtain ⟨v10, hh11, hf⟩ := bd1 hf
          refine ifs hf (fun hc hf => ?_) (fun hc hf => ?_)
          · have hf := hf
            cases hf
            exact hG
          · have hf := hf
            obtain ⟨v12, i13, rv14, hh15, hf⟩ := bd3 hf
            have hG := gdX12_favourOf hG hh15
            cases hf
            exact hG
theorem okX12_favour {l : Launch} {sh : List aSh} {i : Nat → Nat → Int32} {lo : Nat → Nat → Int64} {rv : Nat → Nat → Option Nat}  {a1 : Int32} {a2 : Int32} {a3 : Int32} {a4 : Int32} {a5 : Int32} {vR : Int32} {iR : Nat → Nat → Int32} {rvR : Nat → Nat → Option Nat} (hG : aGood sh rv) (hf : fX12_favour a1 a2 a3 a4 a5 i rv = some (vR, iR, rvR)) : aM l yX12_favour cX12_favour 6 (some .int) 1148 [.ref (100 + 50), .int a1, .int a2, .int a3, .int a4, .int a5] (sh, i, lo, rv) (some (.int vR)) (sh, iR, lo, rvR) :=
  aM_of (by decide) (Nat.le_of_ble_eq_true rfl) (Nat.le_refl _) (Nat.le_refl _) (fun p e s m args below meth c D cA A ad0 hX hr hlk hnm => kX12_favour hX hr hlk (Nat.le_refl _) (Nat.le_refl _) hG hf)
end DC
