/-! decompiled: X4_readCondition X4_readUnit X4_readGuarded X4_readClause X4_read X9_linesDraft X5_kindOf X10_digit X5_readStep X5_read X11_canRead X10_at X11_fault X1_copyFrom J7_fill_53178 X1_sleepers X1_ruleOf X8_begin X6_clear X2_clear X11_board X11_noCar X8_coffees X11_rule X8_berthOf X1_papers X8_placeOf X8_saidFor X8_isAsleep X8_lostBy X1_hasOfficer X1_ofOfficer X11_officer X9_lawCount X9_lawAt X11_drowsy X8_copyTo X6_note -/
section DC
variable {p : Program} {l : Launch} {e : Env} {R : Room} {s : State} {m : MethodId} {args : Array Value} {below : List Frame} {meth : Method} {c : Code} {D : va_G} {cA : FieldType → ClassId} {A : Nat → Prop} {ad0 : Nat → Nat} {sh : List aSh} {i i0 : Nat → Nat → Int32} {lo lo0 : Nat → Nat → Int64} {rv rv0 : Nat → Nat → Option Nat}
def fX4_readCondition_15 (gs : Nat → Int32 → Int32 → (Nat → Nat → Int32) → Option ((Int32) × (Nat → Nat → Int32))) (p0 : Nat) : Nat → Int32 → Int32 → (Nat → Nat → Int32) → Option ((Int32) × (Nat → Nat → Int32))
  | 0, _, _, _ => none
  | n + 1, x2, x4, i => if 240 < x4 then (some (1, i)) else (bn2 (fX10_takes 124 i) fun v4 i5 =>
    if v4 = 0 then (some (1, i5)) else (bn2 (fX4_readTruth gs p0 x2 0 i5) fun v7 i8 =>
    if v7 = 0 then (some (0, i8)) else (bn1 (fX4_emit p0 (-124) i8) fun i10 =>
    fX4_readCondition_15 gs p0 n x2 (x4 + 1) i10)))
theorem kX4_readCondition_15  {gs : Nat → Int32 → Int32 → (Nat → Nat → Int32) → Option ((Int32) × (Nat → Nat → Int32))} {D0 : Nat} {p0 : Nat} {vR : Int32} {iR : Nat → Nat → Int32} (hX : aX p s m args c RX4 cX4_readCondition 5 D cA A ad0) (hr : meth.sig.returnType = (some .boolean)) (hlk : meth.locks = false) (hRf : (D0 + 3) ≤ R.frames) (hRl : 64 * (D0 + 3) ≤ R.locals) (Hgs : ∀ {p0 : Nat} {a2 : Int32} {a3 : Int32} {i : Nat → Nat → Int32} {lo : Nat → Nat → Int64} {rv : Nat → Nat → Option Nat} {vR : Int32} {iR : Nat → Nat → Int32}, aGood sh rv → isLaw sh rv p0 → gs p0 a2 a3 i = some (vR, iR) → aM l yX4_readUnit cX4_readUnit 7 (some .boolean) D0 [.ref (100 + p0), .ref (100 + 1), .int a2, .int a3] (sh, i, lo, rv) (some (.int vR)) (sh, iR, lo, rv)) (h0 : isLaw sh rv p0) : ∀ (n : Nat) (x2 : Int32) (x4 : Int32) (i : Nat → Nat → Int32), aGood sh rv → fX4_readCondition_15 gs p0 n x2 x4 i = some (vR, iR) → aJ p l e R s m args below meth c (MQ below (aPost D cA ad0 A (sh, i0, lo0, rv0) (some (.int vR)) (sh, iR, lo, rv)) args s (sh.length - sh.length) (aSn sh - aSn sh) A) D cA A ad0 5 sh.length (aSn sh) 15 [some (.ref (100 + p0)), some (.ref (100 + 1)), some (.int x2), none, some (.int x4)] [] (sh, i, lo, rv) := by
  intro n
  induction n with
  | zero => intros; rename_i hf; cases hf
  | succ n ih =>
    intro x2 x4 i hG hf
    rw [fX4_readCondition_15] at hf
    refine j_iload hX dX4_readCondition_15 rfl ?_
    refine j_sipush hX dX4_readCondition_17 sp_240 ?_
    refine j_icmp_gt (tgt := 56) hX dX4_readCondition_20 (by decide) (fun hc => ?_) (fun hc => ?_)
    · have hf := ifp hc hf
      refine j_iconst hX dX4_readCondition_56 ic_1 ?_
      cases hf
      exact j_ret hX hr hlk rfl dX4_readCondition_57
    · have hf := ifn hc hf
      refine j_aload_n hX dX4_readCondition_23 rfl ?_
      refine j_bipush hX dX4_readCondition_24 bp_124 ?_
      obtain ⟨v4, i5, hh6, hf⟩ := bd2 hf
      refine j_cV1i hX lk_X4_35 kX10 dX4_readCondition_26 (sh_1 hG) (okX10_takes hG hh6) rfl rfl (rmm (by omega) hRf hRl (by decide)) (Nat.le_of_ble_eq_true rfl) (Nat.le_add_right _ _) (Nat.le_add_right _ _) ?_
      refine j_if_eq (tgt := 56) hX dX4_readCondition_29 (by decide) (fun hc => ?_) (fun hc => ?_)
      · have hf := ifp hc hf
        refine j_iconst hX dX4_readCondition_56 ic_1 ?_
        cases hf
        exact j_ret hX hr hlk rfl dX4_readCondition_57
      · have hf := ifn hc hf
        refine j_aload_n hX dX4_readCondition_32 rfl ?_
        refine j_aload_n hX dX4_readCondition_33 rfl ?_
        refine j_iload_n hX dX4_readCondition_34 rfl ?_
        refine j_iconst hX dX4_readCondition_35 ic_0 ?_
        obtain ⟨v7, i8, hh9, hf⟩ := bd2 hf
        refine j_cV3i hX lk_X4_57 kX4 dX4_readCondition_36 h0.1 (okX4_readTruth Hgs hG h0 hh9) rfl rfl (rmm (by omega) hRf hRl (by decide)) (Nat.le_of_ble_eq_true rfl) (Nat.le_add_right _ _) (Nat.le_add_right _ _) ?_
        refine jpc (b := 39) rfl ?_
        refine j_if_ne (tgt := 44) hX dX4_readCondition_39 (by decide) (fun hc => ?_) (fun hc => ?_)
        · have hf := ifn hc hf
          refine j_aload_n hX dX4_readCondition_44 rfl ?_
          refine j_bipush hX dX4_readCondition_45 bp_m124 ?_
          obtain ⟨i10, hh11, hf⟩ := bd1 hf
          refine j_cV1v hX lk_X4_46 kX4 dX4_readCondition_47 h0.1 (okX4_emit hG h0 hh11) rfl rfl (rmm (by omega) hRf hRl (by decide)) (Nat.le_of_ble_eq_true rfl) (Nat.le_add_right _ _) (Nat.le_add_right _ _) ?_
          refine j_iinc hX dX4_readCondition_50 rfl (congrArg (_ + ·) ic_1) (by decide) rfl ?_
          refine j_goto (tgt := 15) hX dX4_readCondition_53 (by decide) ?_
          exact aJx (ih _ _ _ hG  hf) (And.intro rfl (And.intro rfl (And.intro rfl (And.intro rfl (rfl)))))
        · have hf := ifp hc hf
          refine j_iconst hX dX4_readCondition_42 ic_0 ?_
          cases hf
          exact j_ret hX hr hlk rfl dX4_readCondition_43
def fX4_readCondition (gs : Nat → Int32 → Int32 → (Nat → Nat → Int32) → Option ((Int32) × (Nat → Nat → Int32))) (p0 : Nat) (a2 : Int32) (a3 : Int32) (i : Nat → Nat → Int32) : Option ((Int32) × (Nat → Nat → Int32)) := bn2 (fX4_readTruth gs p0 a2 a3 i) fun v1 i2 =>
    if v1 = 0 then (some (0, i2)) else (fX4_readCondition_15 gs p0 fuel a2 0 i2)
theorem kX4_readCondition  {gs : Nat → Int32 → Int32 → (Nat → Nat → Int32) → Option ((Int32) × (Nat → Nat → Int32))} {D0 : Nat} {p0 : Nat} {vR : Int32} {iR : Nat → Nat → Int32} (hX : aX p s m args c RX4 cX4_readCondition 5 D cA A ad0) (hr : meth.sig.returnType = (some .boolean)) (hlk : meth.locks = false) (hRf : (D0 + 3) ≤ R.frames) (hRl : 64 * (D0 + 3) ≤ R.locals) (Hgs : ∀ {p0 : Nat} {a2 : Int32} {a3 : Int32} {i : Nat → Nat → Int32} {lo : Nat → Nat → Int64} {rv : Nat → Nat → Option Nat} {vR : Int32} {iR : Nat → Nat → Int32}, aGood sh rv → isLaw sh rv p0 → gs p0 a2 a3 i = some (vR, iR) → aM l yX4_readUnit cX4_readUnit 7 (some .boolean) D0 [.ref (100 + p0), .ref (100 + 1), .int a2, .int a3] (sh, i, lo, rv) (some (.int vR)) (sh, iR, lo, rv)) (h0 : isLaw sh rv p0) {a2 : Int32} {a3 : Int32} (hG : aGood sh rv) (hf : fX4_readCondition gs p0 a2 a3 i = some (vR, iR)) : aJ p l e R s m args below meth c (MQ below (aPost D cA ad0 A (sh, i0, lo0, rv0) (some (.int vR)) (sh, iR, lo, rv)) args s (sh.length - sh.length) (aSn sh - aSn sh) A) D cA A ad0 5 sh.length (aSn sh) 0 [some (.ref (100 + p0)), some (.ref (100 + 1)), some (.int a2), some (.int a3), none] [] (sh, i, lo, rv) := by
  unfold fX4_readCondition at hf
  refine j_aload_n hX dX4_readCondition_0 rfl ?_
  refine j_aload_n hX dX4_readCondition_1 rfl ?_
  refine j_iload_n hX dX4_readCondition_2 rfl ?_
  refine j_iload_n hX dX4_readCondition_3 rfl ?_
  obtain ⟨v1, i2, hh3, hf⟩ := bd2 hf
  refine j_cV3i hX lk_X4_57 kX4 dX4_readCondition_4 h0.1 (okX4_readTruth Hgs hG h0 hh3) rfl rfl (rmm (by omega) hRf hRl (by decide)) (Nat.le_of_ble_eq_true rfl) (Nat.le_add_right _ _) (Nat.le_add_right _ _) ?_
  refine jpc (b := 7) rfl ?_
  refine j_if_ne (tgt := 12) hX dX4_readCondition_7 (by decide) (fun hc => ?_) (fun hc => ?_)
  · have hf := ifn hc hf
    refine j_iconst hX dX4_readCondition_12 ic_0 ?_
    refine j_istore hX dX4_readCondition_13 (by decide) rfl ?_
    exact aJx (kX4_readCondition_15 hX hr hlk hRf hRl Hgs h0 fuel _ _ _ hG  hf) (And.intro rfl (And.intro rfl (And.intro rfl (And.intro rfl (rfl)))))
  · have hf := ifp hc hf
    refine j_iconst hX dX4_readCondition_10 ic_0 ?_
    cases hf
    exact j_ret hX hr hlk rfl dX4_readCondition_11
theorem okX4_readCondition {l : Launch} {sh : List aSh} {i : Nat → Nat → Int32} {lo : Nat → Nat → Int64} {rv : Nat → Nat → Option Nat} {gs : Nat → Int32 → Int32 → (Nat → Nat → Int32) → Option ((Int32) × (Nat → Nat → Int32))} {D0 : Nat} (Hgs : ∀ {p0 : Nat} {a2 : Int32} {a3 : Int32} {i : Nat → Nat → Int32} {lo : Nat → Nat → Int64} {rv : Nat → Nat → Option Nat} {vR : Int32} {iR : Nat → Nat → Int32}, aGood sh rv → isLaw sh rv p0 → gs p0 a2 a3 i = some (vR, iR) → aM l yX4_readUnit cX4_readUnit 7 (some .boolean) D0 [.ref (100 + p0), .ref (100 + 1), .int a2, .int a3] (sh, i, lo, rv) (some (.int vR)) (sh, iR, lo, rv)) {p0 : Nat} {a2 : Int32} {a3 : Int32} {vR : Int32} {iR : Nat → Nat → Int32} (hG : aGood sh rv) (h0 : isLaw sh rv p0) (hf : fX4_readCondition gs p0 a2 a3 i = some (vR, iR)) : aM l yX4_readCondition cX4_readCondition 5 (some .boolean) (D0 + 3) [.ref (100 + p0), .ref (100 + 1), .int a2, .int a3] (sh, i, lo, rv) (some (.int vR)) (sh, iR, lo, rv) :=
  aM_of (by decide) (Nat.le_of_ble_eq_true rfl) (Nat.le_refl _) (Nat.le_refl _) (fun p e s m args below meth c D cA A ad0 hX hr hlk hnm => kX4_readCondition hX hr hlk (Nat.le_refl _) (Nat.le_refl _) Hgs h0 hG hf)
def fX4_readUnit_24 (gs : Nat → Int32 → Int32 → (Nat → Nat → Int32) → Option ((Int32) × (Nat → Nat → Int32))) (p0 : Nat) (x2 : Int32) (x4 : Int32) (i : Nat → Nat → Int32) : Option ((Int32) × (Nat → Nat → Int32)) := if x2 < 6 then (bn1 (fX10_pass i) fun i7 =>
    if x4 = 40 then (bn2 (fX4_readCondition gs p0 (x2 + (1 : Int32)) 0 i7) fun v14 i15 =>
    if v14 = 0 then (some (0, i15)) else (bn2 (fX10_takes 41 i15) fun v17 i18 =>
    if v17 = 0 then (some (0, i18)) else (some (1, i18)))) else (bn2 (gs p0 (x2 + (1 : Int32)) 0 i7) fun v9 i10 =>
    bn1 (fX4_emit p0 (-33) i10) fun i12 =>
    if narrow .boolean (.int v9) = .int v9 then
    some (v9, i12) else none)) else (some (0, i))
theorem kX4_readUnit_24  {gs : Nat → Int32 → Int32 → (Nat → Nat → Int32) → Option ((Int32) × (Nat → Nat → Int32))} {D0 : Nat} {p0 : Nat} {vR : Int32} {iR : Nat → Nat → Int32} (hX : aX p s m args c RX4 cX4_readUnit 7 D cA A ad0) (hr : meth.sig.returnType = (some .boolean)) (hlk : meth.locks = false) (hRf : (D0 + 85) ≤ R.frames) (hRl : 64 * (D0 + 85) ≤ R.locals) (Hgs : ∀ {p0 : Nat} {a2 : Int32} {a3 : Int32} {i : Nat → Nat → Int32} {lo : Nat → Nat → Int64} {rv : Nat → Nat → Option Nat} {vR : Int32} {iR : Nat → Nat → Int32}, aGood sh rv → isLaw sh rv p0 → gs p0 a2 a3 i = some (vR, iR) → aM l yX4_readUnit cX4_readUnit 7 (some .boolean) D0 [.ref (100 + p0), .ref (100 + 1), .int a2, .int a3] (sh, i, lo, rv) (some (.int vR)) (sh, iR, lo, rv)) (h0 : isLaw sh rv p0) {x2 : Int32} {x4 : Int32} (hG : aGood sh rv) (hf : fX4_readUnit_24 gs p0 x2 x4 i = some (vR, iR)) : aJ p l e R s m args below meth c (MQ below (aPost D cA ad0 A (sh, i0, lo0, rv0) (some (.int vR)) (sh, iR, lo, rv)) args s (sh.length - sh.length) (aSn sh - aSn sh) A) D cA A ad0 7 sh.length (aSn sh) 24 [some (.ref (100 + p0)), some (.ref (100 + 1)), some (.int x2), none, some (.int x4), none, none] [] (sh, i, lo, rv) := by
  unfold fX4_readUnit_24 at hf
  refine j_iload_n hX dX4_readUnit_24 rfl ?_
  refine j_bipush hX dX4_readUnit_25 bp_6 ?_
  refine j_icmp_lt (tgt := 32) hX dX4_readUnit_27 (by decide) (fun hc => ?_) (fun hc => ?_)
  · have hf := ifp hc hf
    refine j_aload_n hX dX4_readUnit_32 rfl ?_
    obtain ⟨i7, hh8, hf⟩ := bd1 hf
    refine j_cV0v hX lk_X4_63 kX10 dX4_readUnit_33 (sh_1 hG) (okX10_pass hG hh8) rfl rfl (rmm (by omega) hRf hRl (by decide)) (Nat.le_of_ble_eq_true rfl) (Nat.le_add_right _ _) (Nat.le_add_right _ _) ?_
    refine j_iload hX dX4_readUnit_36 rfl ?_
    refine j_bipush hX dX4_readUnit_38 bp_40 ?_
    refine j_icmp_ne (tgt := 70) hX dX4_readUnit_40 (by decide) (fun hc => ?_) (fun hc => ?_)
    · have hf := ifn hc hf
      refine j_aload_n hX dX4_readUnit_70 rfl ?_
      refine j_aload_n hX dX4_readUnit_71 rfl ?_
      refine j_iload_n hX dX4_readUnit_72 rfl ?_
      refine j_iconst hX dX4_readUnit_73 ic_1 ?_
      refine j_iadd hX dX4_readUnit_74 ?_
      refine jpc (b := 75) rfl ?_
      refine j_iconst hX dX4_readUnit_75 ic_0 ?_
      obtain ⟨v9, i10, hh11, hf⟩ := bd2 hf
      refine j_cV3i hX lk_X4_60 kX4 dX4_readUnit_76 h0.1 (Hgs hG h0 hh11) rfl rfl (rmm (by omega) hRf hRl (by decide)) (Nat.le_of_ble_eq_true rfl) (Nat.le_add_right _ _) (Nat.le_add_right _ _) ?_
      refine j_istore hX dX4_readUnit_79 (by decide) rfl ?_
      refine j_aload_n hX dX4_readUnit_81 rfl ?_
      refine j_bipush hX dX4_readUnit_82 bp_m33 ?_
      obtain ⟨i12, hh13, hf⟩ := bd1 hf
      refine j_cV1v hX lk_X4_46 kX4 dX4_readUnit_84 h0.1 (okX4_emit hG h0 hh13) rfl rfl (rmm (by omega) hRf hRl (by decide)) (Nat.le_of_ble_eq_true rfl) (Nat.le_add_right _ _) (Nat.le_add_right _ _) ?_
      refine jpc (b := 87) rfl ?_
      refine j_iload hX dX4_readUnit_87 rfl ?_
      obtain ⟨hg, hf⟩ := gd hf
      cases hf
      exact j_ret hX hr hlk hg dX4_readUnit_89
    · have hf := ifp hc hf
      refine j_aload_n hX dX4_readUnit_43 rfl ?_
      refine j_aload_n hX dX4_readUnit_44 rfl ?_
      refine j_iload_n hX dX4_readUnit_45 rfl ?_
      refine j_iconst hX dX4_readUnit_46 ic_1 ?_
      refine j_iadd hX dX4_readUnit_47 ?_
      refine jpc (b := 48) rfl ?_
      refine j_iconst hX dX4_readUnit_48 ic_0 ?_
      obtain ⟨v14, i15, hh16, hf⟩ := bd2 hf
      refine j_cV3i hX lk_X4_50 kX4 dX4_readUnit_49 h0.1 (okX4_readCondition Hgs hG h0 hh16) rfl rfl (rmm (by omega) hRf hRl (by decide)) (Nat.le_of_ble_eq_true rfl) (Nat.le_add_right _ _) (Nat.le_add_right _ _) ?_
      refine j_if_eq (tgt := 68) hX dX4_readUnit_52 (by decide) (fun hc => ?_) (fun hc => ?_)
      · have hf := ifp hc hf
        refine j_iconst hX dX4_readUnit_68 ic_0 ?_
        cases hf
        exact j_ret hX hr hlk rfl dX4_readUnit_69
      · have hf := ifn hc hf
        refine j_aload_n hX dX4_readUnit_55 rfl ?_
        refine j_bipush hX dX4_readUnit_56 bp_41 ?_
        obtain ⟨v17, i18, hh19, hf⟩ := bd2 hf
        refine j_cV1i hX lk_X4_35 kX10 dX4_readUnit_58 (sh_1 hG) (okX10_takes hG hh19) rfl rfl (rmm (by omega) hRf hRl (by decide)) (Nat.le_of_ble_eq_true rfl) (Nat.le_add_right _ _) (Nat.le_add_right _ _) ?_
        refine j_if_eq (tgt := 68) hX dX4_readUnit_61 (by decide) (fun hc => ?_) (fun hc => ?_)
        · have hf := ifp hc hf
          refine j_iconst hX dX4_readUnit_68 ic_0 ?_
          cases hf
          exact j_ret hX hr hlk rfl dX4_readUnit_69
        · have hf := ifn hc hf
          refine j_iconst hX dX4_readUnit_64 ic_1 ?_
          refine j_goto (tgt := 69) hX dX4_readUnit_65 (by decide) ?_
          cases hf
          exact j_ret hX hr hlk rfl dX4_readUnit_69
  · have hf := ifn hc hf
    refine j_iconst hX dX4_readUnit_30 ic_0 ?_
    cases hf
    exact j_ret hX hr hlk rfl dX4_readUnit_31
def fX4_readUnit_105 (gs : Nat → Int32 → Int32 → (Nat → Nat → Int32) → Option ((Int32) × (Nat → Nat → Int32))) (p0 : Nat) (x2 : Int32) (i : Nat → Nat → Int32) : Option ((Int32) × (Nat → Nat → Int32)) := bn2 (fX10_ahead i) fun v20 i21 =>
    bn1 (fX4_isComparison v20) fun v23 =>
    if v23 = 0 then (some (0, i21)) else (bn1 (fX10_pass i21) fun i25 =>
    bn2 (fX4_readSum 12 p0 x2 i25) fun v27 i28 =>
    bn1 (fX4_emit p0 (-v20) i28) fun i30 =>
    if narrow .boolean (.int v27) = .int v27 then
    some (v27, i30) else none)
theorem kX4_readUnit_105  {gs : Nat → Int32 → Int32 → (Nat → Nat → Int32) → Option ((Int32) × (Nat → Nat → Int32))} {D0 : Nat} {p0 : Nat} {vR : Int32} {iR : Nat → Nat → Int32} (hX : aX p s m args c RX4 cX4_readUnit 7 D cA A ad0) (hr : meth.sig.returnType = (some .boolean)) (hlk : meth.locks = false) (hRf : (D0 + 85) ≤ R.frames) (hRl : 64 * (D0 + 85) ≤ R.locals) (Hgs : ∀ {p0 : Nat} {a2 : Int32} {a3 : Int32} {i : Nat → Nat → Int32} {lo : Nat → Nat → Int64} {rv : Nat → Nat → Option Nat} {vR : Int32} {iR : Nat → Nat → Int32}, aGood sh rv → isLaw sh rv p0 → gs p0 a2 a3 i = some (vR, iR) → aM l yX4_readUnit cX4_readUnit 7 (some .boolean) D0 [.ref (100 + p0), .ref (100 + 1), .int a2, .int a3] (sh, i, lo, rv) (some (.int vR)) (sh, iR, lo, rv)) (h0 : isLaw sh rv p0) {x2 : Int32} (hG : aGood sh rv) (hf : fX4_readUnit_105 gs p0 x2 i = some (vR, iR)) : aJ p l e R s m args below meth c (MQ below (aPost D cA ad0 A (sh, i0, lo0, rv0) (some (.int vR)) (sh, iR, lo, rv)) args s (sh.length - sh.length) (aSn sh - aSn sh) A) D cA A ad0 7 sh.length (aSn sh) 105 [some (.ref (100 + p0)), some (.ref (100 + 1)), some (.int x2), none, none, none, none] [] (sh, i, lo, rv) := by
  unfold fX4_readUnit_105 at hf
  refine j_aload_n hX dX4_readUnit_105 rfl ?_
  obtain ⟨v20, i21, hh22, hf⟩ := bd2 hf
  refine j_cV0i hX lk_X4_31 kX10 dX4_readUnit_106 (sh_1 hG) (okX10_ahead hG hh22) rfl rfl (rmm (by omega) hRf hRl (by decide)) (Nat.le_of_ble_eq_true rfl) (Nat.le_add_right _ _) (Nat.le_add_right _ _) ?_
  refine j_istore hX dX4_readUnit_109 (by decide) rfl ?_
  refine j_iload hX dX4_readUnit_111 rfl ?_
  obtain ⟨v23, hh24, hf⟩ := bd1 hf
  refine j_cS1i hX lk_X4_43 dX4_readUnit_113 (okX4_isComparison hG hh24) rfl rfl (rmm (by omega) hRf hRl (by decide)) (Nat.le_of_ble_eq_true rfl) (Nat.le_add_right _ _) (Nat.le_add_right _ _) ?_
  refine jpc (b := 116) rfl ?_
  refine j_if_ne (tgt := 121) hX dX4_readUnit_116 (by decide) (fun hc => ?_) (fun hc => ?_)
  · have hf := ifn hc hf
    refine j_aload_n hX dX4_readUnit_121 rfl ?_
    obtain ⟨i25, hh26, hf⟩ := bd1 hf
    refine j_cV0v hX lk_X4_63 kX10 dX4_readUnit_122 (sh_1 hG) (okX10_pass hG hh26) rfl rfl (rmm (by omega) hRf hRl (by decide)) (Nat.le_of_ble_eq_true rfl) (Nat.le_add_right _ _) (Nat.le_add_right _ _) ?_
    refine j_aload_n hX dX4_readUnit_125 rfl ?_
    refine j_aload_n hX dX4_readUnit_126 rfl ?_
    refine j_iload_n hX dX4_readUnit_127 rfl ?_
    refine jpc (b := 128) rfl ?_
    obtain ⟨v27, i28, hh29, hf⟩ := bd2 hf
    refine j_cV2i hX lk_X4_39 kX4 dX4_readUnit_128 h0.1 (okX4_readSum 12 hG h0 hh29) rfl rfl (rmm (by omega) hRf hRl (by decide)) (Nat.le_of_ble_eq_true rfl) (Nat.le_add_right _ _) (Nat.le_add_right _ _) ?_
    refine j_istore hX dX4_readUnit_131 (by decide) rfl ?_
    refine j_aload_n hX dX4_readUnit_133 rfl ?_
    refine j_iload hX dX4_readUnit_134 rfl ?_
    refine j_ineg hX dX4_readUnit_136 ?_
    obtain ⟨i30, hh31, hf⟩ := bd1 hf
    refine j_cV1v hX lk_X4_46 kX4 dX4_readUnit_137 h0.1 (okX4_emit hG h0 hh31) rfl rfl (rmm (by omega) hRf hRl (by decide)) (Nat.le_of_ble_eq_true rfl) (Nat.le_add_right _ _) (Nat.le_add_right _ _) ?_
    refine jpc (b := 140) rfl ?_
    refine j_iload hX dX4_readUnit_140 rfl ?_
    obtain ⟨hg, hf⟩ := gd hf
    cases hf
    exact j_ret hX hr hlk hg dX4_readUnit_142
  · have hf := ifp hc hf
    refine j_iconst hX dX4_readUnit_119 ic_0 ?_
    cases hf
    exact j_ret hX hr hlk rfl dX4_readUnit_120
def fX4_readUnit_90 (gs : Nat → Int32 → Int32 → (Nat → Nat → Int32) → Option ((Int32) × (Nat → Nat → Int32))) (p0 : Nat) (x2 : Int32) (x3 : Int32) (i : Nat → Nat → Int32) : Option ((Int32) × (Nat → Nat → Int32)) := if x3 = 0 then (bn2 (fX4_readSum 12 p0 x2 i) fun v4 i5 =>
    if v4 = 0 then (some (0, i5)) else (fX4_readUnit_105 gs p0 x2 i5)) else (fX4_readUnit_105 gs p0 x2 i)
theorem kX4_readUnit_90  {gs : Nat → Int32 → Int32 → (Nat → Nat → Int32) → Option ((Int32) × (Nat → Nat → Int32))} {D0 : Nat} {p0 : Nat} {vR : Int32} {iR : Nat → Nat → Int32} (hX : aX p s m args c RX4 cX4_readUnit 7 D cA A ad0) (hr : meth.sig.returnType = (some .boolean)) (hlk : meth.locks = false) (hRf : (D0 + 85) ≤ R.frames) (hRl : 64 * (D0 + 85) ≤ R.locals) (Hgs : ∀ {p0 : Nat} {a2 : Int32} {a3 : Int32} {i : Nat → Nat → Int32} {lo : Nat → Nat → Int64} {rv : Nat → Nat → Option Nat} {vR : Int32} {iR : Nat → Nat → Int32}, aGood sh rv → isLaw sh rv p0 → gs p0 a2 a3 i = some (vR, iR) → aM l yX4_readUnit cX4_readUnit 7 (some .boolean) D0 [.ref (100 + p0), .ref (100 + 1), .int a2, .int a3] (sh, i, lo, rv) (some (.int vR)) (sh, iR, lo, rv)) (h0 : isLaw sh rv p0) {x2 : Int32} {x3 : Int32} (hG : aGood sh rv) (hf : fX4_readUnit_90 gs p0 x2 x3 i = some (vR, iR)) : aJ p l e R s m args below meth c (MQ below (aPost D cA ad0 A (sh, i0, lo0, rv0) (some (.int vR)) (sh, iR, lo, rv)) args s (sh.length - sh.length) (aSn sh - aSn sh) A) D cA A ad0 7 sh.length (aSn sh) 90 [some (.ref (100 + p0)), some (.ref (100 + 1)), some (.int x2), some (.int x3), none, none, none] [] (sh, i, lo, rv) := by
  unfold fX4_readUnit_90 at hf
  refine j_iload_n hX dX4_readUnit_90 rfl ?_
  refine j_if_ne (tgt := 105) hX dX4_readUnit_91 (by decide) (fun hc => ?_) (fun hc => ?_)
  · have hf := ifn hc hf
    exact aJx (kX4_readUnit_105 hX hr hlk hRf hRl Hgs h0 hG  hf) (And.intro rfl (And.intro rfl (And.intro rfl (rfl))))
  · have hf := ifp hc hf
    refine j_aload_n hX dX4_readUnit_94 rfl ?_
    refine j_aload_n hX dX4_readUnit_95 rfl ?_
    refine j_iload_n hX dX4_readUnit_96 rfl ?_
    obtain ⟨v4, i5, hh6, hf⟩ := bd2 hf
    refine j_cV2i hX lk_X4_39 kX4 dX4_readUnit_97 h0.1 (okX4_readSum 12 hG h0 hh6) rfl rfl (rmm (by omega) hRf hRl (by decide)) (Nat.le_of_ble_eq_true rfl) (Nat.le_add_right _ _) (Nat.le_add_right _ _) ?_
    refine j_if_ne (tgt := 105) hX dX4_readUnit_100 (by decide) (fun hc => ?_) (fun hc => ?_)
    · have hf := ifn hc hf
      exact aJx (kX4_readUnit_105 hX hr hlk hRf hRl Hgs h0 hG  hf) (And.intro rfl (And.intro rfl (And.intro rfl (rfl))))
    · have hf := ifp hc hf
      refine j_iconst hX dX4_readUnit_103 ic_0 ?_
      cases hf
      exact j_ret hX hr hlk rfl dX4_readUnit_104
def fX4_readUnitb (gs : Nat → Int32 → Int32 → (Nat → Nat → Int32) → Option ((Int32) × (Nat → Nat → Int32))) (p0 : Nat) (a2 : Int32) (a3 : Int32) (i : Nat → Nat → Int32) : Option ((Int32) × (Nat → Nat → Int32)) := bn2 (fX10_ahead i) fun v1 i2 =>
    if a3 = 0 then (if v1 = 33 then (fX4_readUnit_24 gs p0 a2 v1 i2) else (if v1 = 40 then (fX4_readUnit_24 gs p0 a2 v1 i2) else (fX4_readUnit_90 gs p0 a2 a3 i2))) else (fX4_readUnit_90 gs p0 a2 a3 i2)
theorem kX4_readUnit  {gs : Nat → Int32 → Int32 → (Nat → Nat → Int32) → Option ((Int32) × (Nat → Nat → Int32))} {D0 : Nat} {p0 : Nat} {vR : Int32} {iR : Nat → Nat → Int32} (hX : aX p s m args c RX4 cX4_readUnit 7 D cA A ad0) (hr : meth.sig.returnType = (some .boolean)) (hlk : meth.locks = false) (hRf : (D0 + 85) ≤ R.frames) (hRl : 64 * (D0 + 85) ≤ R.locals) (Hgs : ∀ {p0 : Nat} {a2 : Int32} {a3 : Int32} {i : Nat → Nat → Int32} {lo : Nat → Nat → Int64} {rv : Nat → Nat → Option Nat} {vR : Int32} {iR : Nat → Nat → Int32}, aGood sh rv → isLaw sh rv p0 → gs p0 a2 a3 i = some (vR, iR) → aM l yX4_readUnit cX4_readUnit 7 (some .boolean) D0 [.ref (100 + p0), .ref (100 + 1), .int a2, .int a3] (sh, i, lo, rv) (some (.int vR)) (sh, iR, lo, rv)) (h0 : isLaw sh rv p0) {a2 : Int32} {a3 : Int32} (hG : aGood sh rv) (hf : fX4_readUnitb gs p0 a2 a3 i = some (vR, iR)) : aJ p l e R s m args below meth c (MQ below (aPost D cA ad0 A (sh, i0, lo0, rv0) (some (.int vR)) (sh, iR, lo, rv)) args s (sh.length - sh.length) (aSn sh - aSn sh) A) D cA A ad0 7 sh.length (aSn sh) 0 [some (.ref (100 + p0)), some (.ref (100 + 1)), some (.int a2), some (.int a3), none, none, none] [] (sh, i, lo, rv) := by
  unfold fX4_readUnitb at hf
  refine j_aload_n hX dX4_readUnit_0 rfl ?_
  obtain ⟨v1, i2, hh3, hf⟩ := bd2 hf
  refine j_cV0i hX lk_X4_31 kX10 dX4_readUnit_1 (sh_1 hG) (okX10_ahead hG hh3) rfl rfl (rmm (by omega) hRf hRl (by decide)) (Nat.le_of_ble_eq_true rfl) (Nat.le_add_right _ _) (Nat.le_add_right _ _) ?_
  refine j_istore hX dX4_readUnit_4 (by decide) rfl ?_
  refine j_iload_n hX dX4_readUnit_6 rfl ?_
  refine j_if_ne (tgt := 90) hX dX4_readUnit_7 (by decide) (fun hc => ?_) (fun hc => ?_)
  · have hf := ifn hc hf
    exact aJx (kX4_readUnit_90 hX hr hlk hRf hRl Hgs h0 hG  hf) (And.intro rfl (And.intro rfl (And.intro rfl (And.intro rfl (rfl)))))
  · have hf := ifp hc hf
    refine j_iload hX dX4_readUnit_10 rfl ?_
    refine j_bipush hX dX4_readUnit_12 bp_33 ?_
    refine j_icmp_eq (tgt := 24) hX dX4_readUnit_14 (by decide) (fun hc => ?_) (fun hc => ?_)
    · have hf := ifp hc hf
      exact aJx (kX4_readUnit_24 hX hr hlk hRf hRl Hgs h0 hG  hf) (And.intro rfl (And.intro rfl (And.intro rfl (And.intro rfl (rfl)))))
    · have hf := ifn hc hf
      refine j_iload hX dX4_readUnit_17 rfl ?_
      refine j_bipush hX dX4_readUnit_19 bp_40 ?_
      refine j_icmp_ne (tgt := 90) hX dX4_readUnit_21 (by decide) (fun hc => ?_) (fun hc => ?_)
      · have hf := ifn hc hf
        exact aJx (kX4_readUnit_90 hX hr hlk hRf hRl Hgs h0 hG  hf) (And.intro rfl (And.intro rfl (And.intro rfl (And.intro rfl (rfl)))))
      · have hf := ifp hc hf
        exact aJx (kX4_readUnit_24 hX hr hlk hRf hRl Hgs h0 hG  hf) (And.intro rfl (And.intro rfl (And.intro rfl (And.intro rfl (rfl)))))
theorem okX4_readUnitb {l : Launch} {sh : List aSh} {i : Nat → Nat → Int32} {lo : Nat → Nat → Int64} {rv : Nat → Nat → Option Nat} {gs : Nat → Int32 → Int32 → (Nat → Nat → Int32) → Option ((Int32) × (Nat → Nat → Int32))} {D0 : Nat} (Hgs : ∀ {p0 : Nat} {a2 : Int32} {a3 : Int32} {i : Nat → Nat → Int32} {lo : Nat → Nat → Int64} {rv : Nat → Nat → Option Nat} {vR : Int32} {iR : Nat → Nat → Int32}, aGood sh rv → isLaw sh rv p0 → gs p0 a2 a3 i = some (vR, iR) → aM l yX4_readUnit cX4_readUnit 7 (some .boolean) D0 [.ref (100 + p0), .ref (100 + 1), .int a2, .int a3] (sh, i, lo, rv) (some (.int vR)) (sh, iR, lo, rv)) {p0 : Nat} {a2 : Int32} {a3 : Int32} {vR : Int32} {iR : Nat → Nat → Int32} (hG : aGood sh rv) (h0 : isLaw sh rv p0) (hf : fX4_readUnitb gs p0 a2 a3 i = some (vR, iR)) : aM l yX4_readUnit cX4_readUnit 7 (some .boolean) (D0 + 85) [.ref (100 + p0), .ref (100 + 1), .int a2, .int a3] (sh, i, lo, rv) (some (.int vR)) (sh, iR, lo, rv) :=
  aM_of (by decide) (Nat.le_of_ble_eq_true rfl) (Nat.le_refl _) (Nat.le_refl _) (fun p e s m args below meth c D cA A ad0 hX hr hlk hnm => kX4_readUnit hX hr hlk (Nat.le_refl _) (Nat.le_refl _) Hgs h0 hG hf)
def fX4_readUnit : Nat → Nat → Int32 → Int32 → (Nat → Nat → Int32) → Option ((Int32) × (Nat → Nat → Int32))
  | 0, _, _, _, _ => none
  | n + 1, p0, a2, a3, i => fX4_readUnitb (fX4_readUnit n) p0 a2 a3 i
theorem okX4_readUnit {l : Launch} {sh : List aSh} : ∀ (n : Nat) {p0 : Nat} {a2 : Int32} {a3 : Int32} {i : Nat → Nat → Int32} {lo : Nat → Nat → Int64} {rv : Nat → Nat → Option Nat} {vR : Int32} {iR : Nat → Nat → Int32}, aGood sh rv → isLaw sh rv p0 → fX4_readUnit n p0 a2 a3 i = some (vR, iR) → aM l yX4_readUnit cX4_readUnit 7 (some .boolean) (85 * n) [.ref (100 + p0), .ref (100 + 1), .int a2, .int a3] (sh, i, lo, rv) (some (.int vR)) (sh, iR, lo, rv) := by
  intro n
  induction n with
  | zero => intros; rename_i hf; cases hf
  | succ n ih =>
    intro _ _ _ _ _ _ _ _ hG h0 hf
    exact okX4_readUnitb (fun hG h0 hf => ih hG h0 hf) hG h0 hf
def fX4_readGuarded (p0 : Nat) (i : Nat → Nat → Int32) : Option ((Int32) × (Nat → Nat → Int32)) := bn1 (fX4_emit p0 (-1000) i) fun i1 =>
    bn2 (fX4_readSum 12 p0 0 i1) fun v3 i4 =>
    if v3 = 0 then (some (0, i4)) else (bn1 (fX4_emit p0 (-7) i4) fun i6 =>
    if (nI 240) ≤ (i p0 2) then (some (1, i6)) else (if aIn (i p0 2) 240 = true then
    (lt (u2 i6 (p0 + 1) ((i p0 2) : Int32).toNatClampNeg (((-1000) : Int32) - (i6 p0 2))) fun i8 => some (1, i8)) else none))
theorem kX4_readGuarded  {p0 : Nat} {vR : Int32} {iR : Nat → Nat → Int32} (hX : aX p s m args c RX4 cX4_readGuarded 3 D cA A ad0) (hr : meth.sig.returnType = (some .boolean)) (hlk : meth.locks = false) (hRf : 85 ≤ R.frames) (hRl : 64 * 85 ≤ R.locals) (h0 : isLaw sh rv p0) (hG : aGood sh rv) (hf : fX4_readGuarded p0 i = some (vR, iR)) : aJ p l e R s m args below meth c (MQ below (aPost D cA ad0 A (sh, i0, lo0, rv0) (some (.int vR)) (sh, iR, lo, rv)) args s (sh.length - sh.length) (aSn sh - aSn sh) A) D cA A ad0 3 sh.length (aSn sh) 0 [some (.ref (100 + p0)), some (.ref (100 + 1)), none] [] (sh, i, lo, rv) := by
  unfold fX4_readGuarded at hf
  refine j_aload_n hX dX4_readGuarded_0 rfl ?_
  refine j_getI (k := 2) hX kX4 (by decide) fk_X4_20 dX4_readGuarded_1 h0.1 rfl ?_
  refine j_istore_n hX dX4_readGuarded_4 (by decide) rfl ?_
  refine j_aload_n hX dX4_readGuarded_5 rfl ?_
  refine j_sipush hX dX4_readGuarded_6 sp_m1000 ?_
  refine jpc (b := 9) rfl ?_
  obtain ⟨i1, hh2, hf⟩ := bd1 hf
  refine j_cV1v hX lk_X4_46 kX4 dX4_readGuarded_9 h0.1 (okX4_emit hG h0 hh2) rfl rfl (rmm (by omega) hRf hRl (by decide)) (Nat.le_of_ble_eq_true rfl) (Nat.le_add_right _ _) (Nat.le_add_right _ _) ?_
  refine j_aload_n hX dX4_readGuarded_12 rfl ?_
  refine j_aload_n hX dX4_readGuarded_13 rfl ?_
  refine j_iconst hX dX4_readGuarded_14 ic_0 ?_
  obtain ⟨v3, i4, hh5, hf⟩ := bd2 hf
  refine j_cV2i hX lk_X4_39 kX4 dX4_readGuarded_15 h0.1 (okX4_readSum 12 hG h0 hh5) rfl rfl (rmm (by omega) hRf hRl (by decide)) (Nat.le_of_ble_eq_true rfl) (Nat.le_add_right _ _) (Nat.le_add_right _ _) ?_
  refine j_if_ne (tgt := 23) hX dX4_readGuarded_18 (by decide) (fun hc => ?_) (fun hc => ?_)
  · have hf := ifn hc hf
    refine j_aload_n hX dX4_readGuarded_23 rfl ?_
    refine j_bipush hX dX4_readGuarded_24 bp_m7 ?_
    obtain ⟨i6, hh7, hf⟩ := bd1 hf
    refine j_cV1v hX lk_X4_46 kX4 dX4_readGuarded_26 h0.1 (okX4_emit hG h0 hh7) rfl rfl (rmm (by omega) hRf hRl (by decide)) (Nat.le_of_ble_eq_true rfl) (Nat.le_add_right _ _) (Nat.le_add_right _ _) ?_
    refine j_iload_n hX dX4_readGuarded_29 rfl ?_
    refine j_aload_n hX dX4_readGuarded_30 rfl ?_
    refine jpc (b := 31) rfl ?_
    refine j_getR (k := 0) hX kX4 (by decide) fk_X4_11 h0.2.2.2.1 dX4_readGuarded_31 h0.1 rfl ?_
    refine j_alen (t0 := 0) hX h0.2.1 (fun _ => rfl) dX4_readGuarded_34 ?_
    refine j_icmp_ge (tgt := 52) hX dX4_readGuarded_35 (by decide) (fun hc => ?_) (fun hc => ?_)
    · have hf := ifp hc hf
      refine j_iconst hX dX4_readGuarded_52 ic_1 ?_
      cases hf
      exact j_ret hX hr hlk rfl dX4_readGuarded_53
    · have hf := ifn hc hf
      refine j_aload_n hX dX4_readGuarded_38 rfl ?_
      refine j_getR (k := 0) hX kX4 (by decide) fk_X4_11 h0.2.2.2.1 dX4_readGuarded_39 h0.1 rfl ?_
      refine j_iload_n hX dX4_readGuarded_42 rfl ?_
      refine j_sipush hX dX4_readGuarded_43 sp_m1000 ?_
      refine j_aload_n hX dX4_readGuarded_46 rfl ?_
      refine jpc (b := 47) rfl ?_
      refine j_getI (k := 2) hX kX4 (by decide) fk_X4_20 dX4_readGuarded_47 h0.1 rfl ?_
      refine j_isub hX dX4_readGuarded_50 ?_
      obtain ⟨hg, hf⟩ := gd hf
      have hf := ltd hf
      refine j_iast hX h0.2.1 hg dX4_readGuarded_51 ?_
      refine j_iconst hX dX4_readGuarded_52 ic_1 ?_
      cases hf
      exact j_ret hX hr hlk rfl dX4_readGuarded_53
  · have hf := ifp hc hf
    refine j_iconst hX dX4_readGuarded_21 ic_0 ?_
    cases hf
    exact j_ret hX hr hlk rfl dX4_readGuarded_22
theorem okX4_readGuarded {l : Launch} {sh : List aSh} {i : Nat → Nat → Int32} {lo : Nat → Nat → Int64} {rv : Nat → Nat → Option Nat}  {p0 : Nat} {vR : Int32} {iR : Nat → Nat → Int32} (hG : aGood sh rv) (h0 : isLaw sh rv p0) (hf : fX4_readGuarded p0 i = some (vR, iR)) : aM l yX4_readGuarded cX4_readGuarded 3 (some .boolean) 85 [.ref (100 + p0), .ref (100 + 1)] (sh, i, lo, rv) (some (.int vR)) (sh, iR, lo, rv) :=
  aM_of (by decide) (Nat.le_of_ble_eq_true rfl) (Nat.le_refl _) (Nat.le_refl _) (fun p e s m args below meth c D cA A ad0 hX hr hlk hnm => kX4_readGuarded hX hr hlk (Nat.le_refl _) (Nat.le_refl _) h0 hG hf)
def fX4_readClause_77 (p0 : Nat) (x2 : Int32) (i : Nat → Nat → Int32) : Option ((Int32) × (Nat → Nat → Int32)) := bn2 (fX4_readCondition (fX4_readUnit 12) p0 0 x2 i) fun v23 i24 =>
    if v23 = 0 then (some (0, i24)) else (bn2 (fX10_takes 63 i24) fun v26 i27 =>
    if v26 = 0 then (some (0, i27)) else (bn2 (fX4_readGuarded p0 i27) fun v29 i30 =>
    if v29 = 0 then (some (0, i30)) else (some (1, i30))))
theorem kX4_readClause_77  {p0 : Nat} {vR : Int32} {iR : Nat → Nat → Int32} (hX : aX p s m args c RX4 cX4_readClause 3 D cA A ad0) (hr : meth.sig.returnType = (some .boolean)) (hlk : meth.locks = false) (hRf : 1024 ≤ R.frames) (hRl : 64 * 1024 ≤ R.locals) (h0 : isLaw sh rv p0) {x2 : Int32} (hG : aGood sh rv) (hf : fX4_readClause_77 p0 x2 i = some (vR, iR)) : aJ p l e R s m args below meth c (MQ below (aPost D cA ad0 A (sh, i0, lo0, rv0) (some (.int vR)) (sh, iR, lo, rv)) args s (sh.length - sh.length) (aSn sh - aSn sh) A) D cA A ad0 3 sh.length (aSn sh) 77 [some (.ref (100 + p0)), some (.ref (100 + 1)), some (.int x2)] [] (sh, i, lo, rv) := by
  unfold fX4_readClause_77 at hf
  refine j_aload_n hX dX4_readClause_77 rfl ?_
  refine j_aload_n hX dX4_readClause_78 rfl ?_
  refine j_iconst hX dX4_readClause_79 ic_0 ?_
  refine j_iload_n hX dX4_readClause_80 rfl ?_
  obtain ⟨v23, i24, hh25, hf⟩ := bd2 hf
  refine j_cV3i hX lk_X4_50 kX4 dX4_readClause_81 h0.1 (okX4_readCondition (okX4_readUnit 12) hG h0 hh25) rfl rfl (rmm (by omega) hRf hRl (by decide)) (Nat.le_of_ble_eq_true rfl) (Nat.le_add_right _ _) (Nat.le_add_right _ _) ?_
  refine jpc (b := 84) rfl ?_
  refine j_if_eq (tgt := 108) hX dX4_readClause_84 (by decide) (fun hc => ?_) (fun hc => ?_)
  · have hf := ifp hc hf
    refine j_iconst hX dX4_readClause_108 ic_0 ?_
    cases hf
    exact j_ret hX hr hlk rfl dX4_readClause_109
  · have hf := ifn hc hf
    refine j_aload_n hX dX4_readClause_87 rfl ?_
    refine j_bipush hX dX4_readClause_88 bp_63 ?_
    obtain ⟨v26, i27, hh28, hf⟩ := bd2 hf
    refine j_cV1i hX lk_X4_35 kX10 dX4_readClause_90 (sh_1 hG) (okX10_takes hG hh28) rfl rfl (rmm (by omega) hRf hRl (by decide)) (Nat.le_of_ble_eq_true rfl) (Nat.le_add_right _ _) (Nat.le_add_right _ _) ?_
    refine j_if_eq (tgt := 108) hX dX4_readClause_93 (by decide) (fun hc => ?_) (fun hc => ?_)
    · have hf := ifp hc hf
      refine j_iconst hX dX4_readClause_108 ic_0 ?_
      cases hf
      exact j_ret hX hr hlk rfl dX4_readClause_109
    · have hf := ifn hc hf
      refine j_aload_n hX dX4_readClause_96 rfl ?_
      refine j_aload_n hX dX4_readClause_97 rfl ?_
      obtain ⟨v29, i30, hh31, hf⟩ := bd2 hf
      refine j_cV1i hX lk_X4_54 kX4 dX4_readClause_98 h0.1 (okX4_readGuarded hG h0 hh31) rfl rfl (rmm (by omega) hRf hRl (by decide)) (Nat.le_of_ble_eq_true rfl) (Nat.le_add_right _ _) (Nat.le_add_right _ _) ?_
      refine j_if_eq (tgt := 108) hX dX4_readClause_101 (by decide) (fun hc => ?_) (fun hc => ?_)
      · have hf := ifp hc hf
        refine j_iconst hX dX4_readClause_108 ic_0 ?_
        cases hf
        exact j_ret hX hr hlk rfl dX4_readClause_109
      · have hf := ifn hc hf
        refine j_iconst hX dX4_readClause_104 ic_1 ?_
        refine j_goto (tgt := 109) hX dX4_readClause_105 (by decide) ?_
        cases hf
        exact j_ret hX hr hlk rfl dX4_readClause_109
def fX4_readClause_43 (p0 : Nat) (s0 : Int32) (i : Nat → Nat → Int32) : Option ((Int32) × (Nat → Nat → Int32)) := if s0 = 0 then (fX4_readClause_77 p0 s0 i) else (bn2 (fX4_readSum 12 p0 0 i) fun v13 i14 =>
    if v13 = 0 then (some (0, i14)) else (bn2 (fX10_ahead i14) fun v16 i17 =>
    bn1 (fX4_isComparison v16) fun v19 =>
    if v19 = 0 then (bn1 (fX4_emit p0 (-7) i17) fun i21 =>
    some (1, i21)) else (fX4_readClause_77 p0 s0 i17)))
theorem kX4_readClause_43  {p0 : Nat} {vR : Int32} {iR : Nat → Nat → Int32} (hX : aX p s m args c RX4 cX4_readClause 3 D cA A ad0) (hr : meth.sig.returnType = (some .boolean)) (hlk : meth.locks = false) (hRf : 1024 ≤ R.frames) (hRl : 64 * 1024 ≤ R.locals) (h0 : isLaw sh rv p0) {s0 : Int32} (hG : aGood sh rv) (hf : fX4_readClause_43 p0 s0 i = some (vR, iR)) : aJ p l e R s m args below meth c (MQ below (aPost D cA ad0 A (sh, i0, lo0, rv0) (some (.int vR)) (sh, iR, lo, rv)) args s (sh.length - sh.length) (aSn sh - aSn sh) A) D cA A ad0 3 sh.length (aSn sh) 43 [some (.ref (100 + p0)), some (.ref (100 + 1)), none] [.int s0] (sh, i, lo, rv) := by
  unfold fX4_readClause_43 at hf
  refine j_istore_n hX dX4_readClause_43 (by decide) rfl ?_
  refine j_iload_n hX dX4_readClause_44 rfl ?_
  refine j_if_eq (tgt := 77) hX dX4_readClause_45 (by decide) (fun hc => ?_) (fun hc => ?_)
  · have hf := ifp hc hf
    exact aJx (kX4_readClause_77 hX hr hlk hRf hRl h0 hG  hf) (And.intro rfl (And.intro rfl (And.intro rfl (rfl))))
  · have hf := ifn hc hf
    refine j_aload_n hX dX4_readClause_48 rfl ?_
    refine j_aload_n hX dX4_readClause_49 rfl ?_
    refine j_iconst hX dX4_readClause_50 ic_0 ?_
    obtain ⟨v13, i14, hh15, hf⟩ := bd2 hf
    refine j_cV2i hX lk_X4_39 kX4 dX4_readClause_51 h0.1 (okX4_readSum 12 hG h0 hh15) rfl rfl (rmm (by omega) hRf hRl (by decide)) (Nat.le_of_ble_eq_true rfl) (Nat.le_add_right _ _) (Nat.le_add_right _ _) ?_
    refine j_if_ne (tgt := 59) hX dX4_readClause_54 (by decide) (fun hc => ?_) (fun hc => ?_)
    · have hf := ifn hc hf
      refine j_aload_n hX dX4_readClause_59 rfl ?_
      obtain ⟨v16, i17, hh18, hf⟩ := bd2 hf
      refine j_cV0i hX lk_X4_31 kX10 dX4_readClause_60 (sh_1 hG) (okX10_ahead hG hh18) rfl rfl (rmm (by omega) hRf hRl (by decide)) (Nat.le_of_ble_eq_true rfl) (Nat.le_add_right _ _) (Nat.le_add_right _ _) ?_
      obtain ⟨v19, hh20, hf⟩ := bd1 hf
      refine j_cS1i hX lk_X4_43 dX4_readClause_63 (okX4_isComparison hG hh20) rfl rfl (rmm (by omega) hRf hRl (by decide)) (Nat.le_of_ble_eq_true rfl) (Nat.le_add_right _ _) (Nat.le_add_right _ _) ?_
      refine j_if_ne (tgt := 77) hX dX4_readClause_66 (by decide) (fun hc => ?_) (fun hc => ?_)
      · have hf := ifn hc hf
        exact aJx (kX4_readClause_77 hX hr hlk hRf hRl h0 hG  hf) (And.intro rfl (And.intro rfl (And.intro rfl (rfl))))
      · have hf := ifp hc hf
        refine j_aload_n hX dX4_readClause_69 rfl ?_
        refine j_bipush hX dX4_readClause_70 bp_m7 ?_
        obtain ⟨i21, hh22, hf⟩ := bd1 hf
        refine j_cV1v hX lk_X4_46 kX4 dX4_readClause_72 h0.1 (okX4_emit hG h0 hh22) rfl rfl (rmm (by omega) hRf hRl (by decide)) (Nat.le_of_ble_eq_true rfl) (Nat.le_add_right _ _) (Nat.le_add_right _ _) ?_
        refine j_iconst hX dX4_readClause_75 ic_1 ?_
        cases hf
        exact j_ret hX hr hlk rfl dX4_readClause_76
    · have hf := ifp hc hf
      refine j_iconst hX dX4_readClause_57 ic_0 ?_
      cases hf
      exact j_ret hX hr hlk rfl dX4_readClause_58
def fX4_readClause_42 (p0 : Nat) (i : Nat → Nat → Int32) : Option ((Int32) × (Nat → Nat → Int32)) := fX4_readClause_43 p0 0 i
theorem kX4_readClause_42  {p0 : Nat} {vR : Int32} {iR : Nat → Nat → Int32} (hX : aX p s m args c RX4 cX4_readClause 3 D cA A ad0) (hr : meth.sig.returnType = (some .boolean)) (hlk : meth.locks = false) (hRf : 1024 ≤ R.frames) (hRl : 64 * 1024 ≤ R.locals) (h0 : isLaw sh rv p0) (hG : aGood sh rv) (hf : fX4_readClause_42 p0 i = some (vR, iR)) : aJ p l e R s m args below meth c (MQ below (aPost D cA ad0 A (sh, i0, lo0, rv0) (some (.int vR)) (sh, iR, lo, rv)) args s (sh.length - sh.length) (aSn sh - aSn sh) A) D cA A ad0 3 sh.length (aSn sh) 42 [some (.ref (100 + p0)), some (.ref (100 + 1)), none] [] (sh, i, lo, rv) := by
  unfold fX4_readClause_42 at hf
  refine j_iconst hX dX4_readClause_42 ic_0 ?_
  exact aJx (kX4_readClause_43 hX hr hlk hRf hRl h0 hG  hf) (And.intro rfl (And.intro rfl (rfl)))
def fX4_readClause (p0 : Nat) (i : Nat → Nat → Int32) : Option ((Int32) × (Nat → Nat → Int32)) := bn2 (fX10_takes 121 i) fun v1 i2 =>
    if v1 = 0 then (some (0, i2)) else (bn2 (fX10_takes 58 i2) fun v4 i5 =>
    if v4 = 0 then (some (0, i5)) else (bn2 (fX10_ahead i5) fun v7 i8 =>
    if v7 = 33 then (fX4_readClause_42 p0 i8) else (bn2 (fX10_ahead i8) fun v10 i11 =>
    if v10 = 40 then (fX4_readClause_42 p0 i11) else (fX4_readClause_43 p0 1 i11))))
theorem kX4_readClause  {p0 : Nat} {vR : Int32} {iR : Nat → Nat → Int32} (hX : aX p s m args c RX4 cX4_readClause 3 D cA A ad0) (hr : meth.sig.returnType = (some .boolean)) (hlk : meth.locks = false) (hRf : 1024 ≤ R.frames) (hRl : 64 * 1024 ≤ R.locals) (h0 : isLaw sh rv p0) (hG : aGood sh rv) (hf : fX4_readClause p0 i = some (vR, iR)) : aJ p l e R s m args below meth c (MQ below (aPost D cA ad0 A (sh, i0, lo0, rv0) (some (.int vR)) (sh, iR, lo, rv)) args s (sh.length - sh.length) (aSn sh - aSn sh) A) D cA A ad0 3 sh.length (aSn sh) 0 [some (.ref (100 + p0)), some (.ref (100 + 1)), none] [] (sh, i, lo, rv) := by
  unfold fX4_readClause at hf
  refine j_aload_n hX dX4_readClause_0 rfl ?_
  refine j_bipush hX dX4_readClause_1 bp_121 ?_
  obtain ⟨v1, i2, hh3, hf⟩ := bd2 hf
  refine j_cV1i hX lk_X4_35 kX10 dX4_readClause_3 (sh_1 hG) (okX10_takes hG hh3) rfl rfl (rmm (by omega) hRf hRl (by decide)) (Nat.le_of_ble_eq_true rfl) (Nat.le_add_right _ _) (Nat.le_add_right _ _) ?_
  refine j_if_eq (tgt := 18) hX dX4_readClause_6 (by decide) (fun hc => ?_) (fun hc => ?_)
  · have hf := ifp hc hf
    refine j_iconst hX dX4_readClause_18 ic_0 ?_
    cases hf
    exact j_ret hX hr hlk rfl dX4_readClause_19
  · have hf := ifn hc hf
    refine j_aload_n hX dX4_readClause_9 rfl ?_
    refine j_bipush hX dX4_readClause_10 bp_58 ?_
    obtain ⟨v4, i5, hh6, hf⟩ := bd2 hf
    refine j_cV1i hX lk_X4_35 kX10 dX4_readClause_12 (sh_1 hG) (okX10_takes hG hh6) rfl rfl (rmm (by omega) hRf hRl (by decide)) (Nat.le_of_ble_eq_true rfl) (Nat.le_add_right _ _) (Nat.le_add_right _ _) ?_
    refine j_if_ne (tgt := 20) hX dX4_readClause_15 (by decide) (fun hc => ?_) (fun hc => ?_)
    · have hf := ifn hc hf
      refine j_aload_n hX dX4_readClause_20 rfl ?_
      obtain ⟨v7, i8, hh9, hf⟩ := bd2 hf
      refine j_cV0i hX lk_X4_31 kX10 dX4_readClause_21 (sh_1 hG) (okX10_ahead hG hh9) rfl rfl (rmm (by omega) hRf hRl (by decide)) (Nat.le_of_ble_eq_true rfl) (Nat.le_add_right _ _) (Nat.le_add_right _ _) ?_
      refine j_bipush hX dX4_readClause_24 bp_33 ?_
      refine j_icmp_eq (tgt := 42) hX dX4_readClause_26 (by decide) (fun hc => ?_) (fun hc => ?_)
      · have hf := ifp hc hf
        exact aJx (kX4_readClause_42 hX hr hlk hRf hRl h0 hG  hf) (And.intro rfl (And.intro rfl (rfl)))
      · have hf := ifn hc hf
        refine j_aload_n hX dX4_readClause_29 rfl ?_
        obtain ⟨v10, i11, hh12, hf⟩ := bd2 hf
        refine j_cV0i hX lk_X4_31 kX10 dX4_readClause_30 (sh_1 hG) (okX10_ahead hG hh12) rfl rfl (rmm (by omega) hRf hRl (by decide)) (Nat.le_of_ble_eq_true rfl) (Nat.le_add_right _ _) (Nat.le_add_right _ _) ?_
        refine j_bipush hX dX4_readClause_33 bp_40 ?_
        refine j_icmp_eq (tgt := 42) hX dX4_readClause_35 (by decide) (fun hc => ?_) (fun hc => ?_)
        · have hf := ifp hc hf
          exact aJx (kX4_readClause_42 hX hr hlk hRf hRl h0 hG  hf) (And.intro rfl (And.intro rfl (rfl)))
        · have hf := ifn hc hf
          refine j_iconst hX dX4_readClause_38 ic_1 ?_
          refine j_goto (tgt := 43) hX dX4_readClause_39 (by decide) ?_
          exact aJx (kX4_readClause_43 hX hr hlk hRf hRl h0 hG  hf) (And.intro rfl (And.intro rfl (rfl)))
    · have hf := ifp hc hf
      refine j_iconst hX dX4_readClause_18 ic_0 ?_
      cases hf
      exact j_ret hX hr hlk rfl dX4_readClause_19
theorem okX4_readClause {l : Launch} {sh : List aSh} {i : Nat → Nat → Int32} {lo : Nat → Nat → Int64} {rv : Nat → Nat → Option Nat}  {p0 : Nat} {vR : Int32} {iR : Nat → Nat → Int32} (hG : aGood sh rv) (h0 : isLaw sh rv p0) (hf : fX4_readClause p0 i = some (vR, iR)) : aM l yX4_readClause cX4_readClause 3 (some .boolean) 1024 [.ref (100 + p0), .ref (100 + 1)] (sh, i, lo, rv) (some (.int vR)) (sh, iR, lo, rv) :=
  aM_of (by decide) (Nat.le_of_ble_eq_true rfl) (Nat.le_refl _) (Nat.le_refl _) (fun p e s m args below meth c D cA A ad0 hX hr hlk hnm => kX4_readClause hX hr hlk (Nat.le_refl _) (Nat.le_refl _) h0 hG hf)
def fX4_read_11 (p0 : Nat) : Nat → Int32 → (Nat → Nat → Int32) → Option ((Int32) × (Nat → Nat → Int32))
  | 0, _, _ => none
  | n + 1, x2, i => if 240 < x2 then (some (0, i)) else (bn2 (fX4_readClause p0 i) fun v4 i5 =>
    if v4 = 0 then (some (0, i5)) else (bn2 (fX10_ahead i5) fun v7 i8 =>
    if v7 = (-1) then (some (1, i8)) else (bn2 (fX10_takes 59 i8) fun v10 i11 =>
    if v10 = 0 then (some (0, i11)) else (fX4_read_11 p0 n (x2 + 1) i11))))
theorem kX4_read_11  {p0 : Nat} {vR : Int32} {iR : Nat → Nat → Int32} (hX : aX p s m args c RX4 cX4_read 3 D cA A ad0) (hr : meth.sig.returnType = (some .boolean)) (hlk : meth.locks = false) (hRf : 1025 ≤ R.frames) (hRl : 64 * 1025 ≤ R.locals) (h0 : isLaw sh rv p0) : ∀ (n : Nat) (x2 : Int32) (i : Nat → Nat → Int32), aGood sh rv → fX4_read_11 p0 n x2 i = some (vR, iR) → aJ p l e R s m args below meth c (MQ below (aPost D cA ad0 A (sh, i0, lo0, rv0) (some (.int vR)) (sh, iR, lo, rv)) args s (sh.length - sh.length) (aSn sh - aSn sh) A) D cA A ad0 3 sh.length (aSn sh) 11 [some (.ref (100 + p0)), some (.ref (100 + 1)), some (.int x2)] [] (sh, i, lo, rv) := by
  intro n
  induction n with
  | zero => intros; rename_i hf; cases hf
  | succ n ih =>
    intro x2 i hG hf
    rw [fX4_read_11] at hf
    refine j_iload_n hX dX4_read_11 rfl ?_
    refine j_sipush hX dX4_read_12 sp_240 ?_
    refine j_icmp_gt (tgt := 55) hX dX4_read_15 (by decide) (fun hc => ?_) (fun hc => ?_)
    · have hf := ifp hc hf
      refine j_iconst hX dX4_read_55 ic_0 ?_
      cases hf
      exact j_ret hX hr hlk rfl dX4_read_56
    · have hf := ifn hc hf
      refine j_aload_n hX dX4_read_18 rfl ?_
      refine j_aload_n hX dX4_read_19 rfl ?_
      obtain ⟨v4, i5, hh6, hf⟩ := bd2 hf
      refine j_cV1i hX lk_X4_27 kX4 dX4_read_20 h0.1 (okX4_readClause hG h0 hh6) rfl rfl (rmm (by omega) hRf hRl (by decide)) (Nat.le_of_ble_eq_true rfl) (Nat.le_add_right _ _) (Nat.le_add_right _ _) ?_
      refine j_if_ne (tgt := 28) hX dX4_read_23 (by decide) (fun hc => ?_) (fun hc => ?_)
      · have hf := ifn hc hf
        refine j_aload_n hX dX4_read_28 rfl ?_
        obtain ⟨v7, i8, hh9, hf⟩ := bd2 hf
        refine j_cV0i hX lk_X4_31 kX10 dX4_read_29 (sh_1 hG) (okX10_ahead hG hh9) rfl rfl (rmm (by omega) hRf hRl (by decide)) (Nat.le_of_ble_eq_true rfl) (Nat.le_add_right _ _) (Nat.le_add_right _ _) ?_
        refine j_iconst hX dX4_read_32 ic_m1 ?_
        refine j_icmp_ne (tgt := 38) hX dX4_read_33 (by decide) (fun hc => ?_) (fun hc => ?_)
        · have hf := ifn hc hf
          refine j_aload_n hX dX4_read_38 rfl ?_
          refine j_bipush hX dX4_read_39 bp_59 ?_
          obtain ⟨v10, i11, hh12, hf⟩ := bd2 hf
          refine j_cV1i hX lk_X4_35 kX10 dX4_read_41 (sh_1 hG) (okX10_takes hG hh12) rfl rfl (rmm (by omega) hRf hRl (by decide)) (Nat.le_of_ble_eq_true rfl) (Nat.le_add_right _ _) (Nat.le_add_right _ _) ?_
          refine j_if_ne (tgt := 49) hX dX4_read_44 (by decide) (fun hc => ?_) (fun hc => ?_)
          · have hf := ifn hc hf
            refine j_iinc hX dX4_read_49 rfl (congrArg (_ + ·) ic_1) (by decide) rfl ?_
            refine j_goto (tgt := 11) hX dX4_read_52 (by decide) ?_
            exact aJx (ih _ _ hG  hf) (And.intro rfl (And.intro rfl (And.intro rfl (rfl))))
          · have hf := ifp hc hf
            refine j_iconst hX dX4_read_47 ic_0 ?_
            cases hf
            exact j_ret hX hr hlk rfl dX4_read_48
        · have hf := ifp hc hf
          refine j_iconst hX dX4_read_36 ic_1 ?_
          cases hf
          exact j_ret hX hr hlk rfl dX4_read_37
      · have hf := ifp hc hf
        refine j_iconst hX dX4_read_26 ic_0 ?_
        cases hf
        exact j_ret hX hr hlk rfl dX4_read_27
def fX4_read (p0 : Nat) (i : Nat → Nat → Int32) : Option ((Int32) × (Nat → Nat → Int32)) := lt (u2 i p0 2 0) fun i1 =>
    bn1 (fX10_rewind i1) fun i2 =>
    fX4_read_11 p0 fuel 0 i2
theorem kX4_read  {p0 : Nat} {vR : Int32} {iR : Nat → Nat → Int32} (hX : aX p s m args c RX4 cX4_read 3 D cA A ad0) (hr : meth.sig.returnType = (some .boolean)) (hlk : meth.locks = false) (hRf : 1025 ≤ R.frames) (hRl : 64 * 1025 ≤ R.locals) (h0 : isLaw sh rv p0) (hG : aGood sh rv) (hf : fX4_read p0 i = some (vR, iR)) : aJ p l e R s m args below meth c (MQ below (aPost D cA ad0 A (sh, i0, lo0, rv0) (some (.int vR)) (sh, iR, lo, rv)) args s (sh.length - sh.length) (aSn sh - aSn sh) A) D cA A ad0 3 sh.length (aSn sh) 0 [some (.ref (100 + p0)), some (.ref (100 + 1)), none] [] (sh, i, lo, rv) := by
  unfold fX4_read at hf
  refine j_aload_n hX dX4_read_0 rfl ?_
  refine j_iconst hX dX4_read_1 ic_0 ?_
  have hf := ltd hf
  refine j_putI (k := 2) hX kX4 (by decide) fk_X4_20 dX4_read_2 h0.1 rfl rfl rfl rfl ?_
  refine j_aload_n hX dX4_read_5 rfl ?_
  obtain ⟨i2, hh3, hf⟩ := bd1 hf
  refine j_cV0v hX lk_X4_24 kX10 dX4_read_6 (sh_1 hG) (okX10_rewind hG hh3) rfl rfl (rmm (by omega) hRf hRl (by decide)) (Nat.le_of_ble_eq_true rfl) (Nat.le_add_right _ _) (Nat.le_add_right _ _) ?_
  refine jpc (b := 9) rfl ?_
  refine j_iconst hX dX4_read_9 ic_0 ?_
  refine j_istore_n hX dX4_read_10 (by decide) rfl ?_
  exact aJx (kX4_read_11 hX hr hlk hRf hRl h0 fuel _ _ hG  hf) (And.intro rfl (And.intro rfl (And.intro rfl (rfl))))
theorem okX4_read {l : Launch} {sh : List aSh} {i : Nat → Nat → Int32} {lo : Nat → Nat → Int64} {rv : Nat → Nat → Option Nat}  {p0 : Nat} {vR : Int32} {iR : Nat → Nat → Int32} (hG : aGood sh rv) (h0 : isLaw sh rv p0) (hf : fX4_read p0 i = some (vR, iR)) : aM l yX4_read cX4_read 3 (some .boolean) 1025 [.ref (100 + p0), .ref (100 + 1)] (sh, i, lo, rv) (some (.int vR)) (sh, iR, lo, rv) :=
  aM_of (by decide) (Nat.le_of_ble_eq_true rfl) (Nat.le_refl _) (Nat.le_refl _) (fun p e s m args below meth c D cA A ad0 hX hr hlk hnm => kX4_read hX hr hlk (Nat.le_refl _) (Nat.le_refl _) h0 hG hf)
def fX9_linesDraft (rv : Nat → Nat → Option Nat) : Option ((Option Nat)) := some ((some (100 + (plc (rv 3 3)))))
theorem kX9_linesDraft  {vR : Option Nat} (hX : aX p s m args c RX9 cX9_linesDraft 1 D cA A ad0) (hr : meth.sig.returnType = (some (.object "WokenBorder$Lines"))) (hlk : meth.locks = false) (hRf : 0 ≤ R.frames) (hRl : 64 * 0 ≤ R.locals) (hG : aGood sh rv) (hf : fX9_linesDraft rv = some (vR)) : aJ p l e R s m args below meth c (MQ below (aPost D cA ad0 A (sh, i0, lo0, rv0) (some (va_rf vR)) (sh, i, lo, rv)) args s (sh.length - sh.length) (aSn sh - aSn sh) A) D cA A ad0 1 sh.length (aSn sh) 0 [some (.ref (100 + 3))] [] (sh, i, lo, rv) := by
  unfold fX9_linesDraft at hf
  refine j_aload_n hX dX9_linesDraft_0 rfl ?_
  refine j_getR (k := 3) hX kX9 (by decide) fk_X9_29 hG.2.2.2.2.1.1 dX9_linesDraft_1 (sh_3 hG) rfl ?_
  cases hf
  exact j_aret hX hr hlk (Or.inr ⟨_, rfl⟩) dX9_linesDraft_4
theorem okX9_linesDraft {l : Launch} {sh : List aSh} {i : Nat → Nat → Int32} {lo : Nat → Nat → Int64} {rv : Nat → Nat → Option Nat}  {vR : Option Nat} (hG : aGood sh rv) (hf : fX9_linesDraft rv = some (vR)) : aM l yX9_linesDraft cX9_linesDraft 1 (some (.object "WokenBorder$Lines")) 0 [.ref (100 + 3)] (sh, i, lo, rv) (some (va_rf vR)) (sh, i, lo, rv) :=
  aM_of (by decide) (Nat.le_of_ble_eq_true rfl) (Nat.le_refl _) (Nat.le_refl _) (fun p e s m args below meth c D cA A ad0 hX hr hlk hnm => kX9_linesDraft hX hr hlk (Nat.le_refl _) (Nat.le_refl _) hG hf)
theorem vrX9_linesDraft {r : Nat} (hG : aGood sh rv) (hf : fX9_linesDraft rv = some (some r)) : r = 100 + (r - 100) ∧ isLin sh rv (r - 100) := by
  unfold fX9_linesDraft at hf
  have e2 : 100 + plc (rv 3 3) = r := by simpa using hf
  subst e2
  rw [Nat.add_sub_cancel_left]
  exact ⟨rfl, hG.2.2.2.2.1.2⟩
def fX5_kindOf_2 : Nat → Int32 → Int32 → Option ((Int32))
  | 0, _, _ => none
  | n + 1, x0, x1 => if 6 ≤ x1 then (some ((-1))) else (bn1 (fJ0_charAt_5068e 3 x1) fun v1 =>
    if v1 = x0 then (some (x1)) else (fX5_kindOf_2 n x0 (x1 + 1)))
theorem kX5_kindOf_2  {vR : Int32} (hX : aX p s m args c RX5 cX5_kindOf 2 D cA A ad0) (hr : meth.sig.returnType = (some .int)) (hlk : meth.locks = false) (hRf : 4 ≤ R.frames) (hRl : 64 * 4 ≤ R.locals) : ∀ (n : Nat) (x0 : Int32) (x1 : Int32), aGood sh rv → fX5_kindOf_2 n x0 x1 = some (vR) → aJ p l e R s m args below meth c (MQ below (aPost D cA ad0 A (sh, i0, lo0, rv0) (some (.int vR)) (sh, i, lo, rv)) args s (sh.length - sh.length) (aSn sh - aSn sh) A) D cA A ad0 2 sh.length (aSn sh) 2 [some (.int x0), some (.int x1)] [] (sh, i, lo, rv) := by
  intro n
  induction n with
  | zero => intros; rename_i hf; cases hf
  | succ n ih =>
    intro x0 x1 hG hf
    rw [fX5_kindOf_2] at hf
    refine j_iload_n hX dX5_kindOf_2 rfl ?_
    refine j_bipush hX dX5_kindOf_3 bp_6 ?_
    refine j_icmp_ge (tgt := 26) hX dX5_kindOf_5 (by decide) (fun hc => ?_) (fun hc => ?_)
    · have hf := ifp hc hf
      refine j_iconst hX dX5_kindOf_26 ic_m1 ?_
      cases hf
      exact j_ret hX hr hlk rfl dX5_kindOf_27
    · have hf := ifn hc hf
      refine j_ldcS (j := 3) (tx := "mywlxb") hX (by decide) (by decide) dX5_kindOf_8 ?_
      refine j_iload_n hX dX5_kindOf_10 rfl ?_
      obtain ⟨v1, hh2, hf⟩ := bd1 hf
      refine j_cT1i hX lk_X5_51 rfl (by decide) dX5_kindOf_11 (okJ0_charAt_5068e hG (by decide) hh2) (rmm (by omega) hRf hRl (by decide)) (Nat.le_of_ble_eq_true rfl) (Nat.le_add_right _ _) (Nat.le_add_right _ _) ?_
      refine j_iload_n hX dX5_kindOf_14 rfl ?_
      refine j_icmp_ne (tgt := 20) hX dX5_kindOf_15 (by decide) (fun hc => ?_) (fun hc => ?_)
      · have hf := ifn hc hf
        refine j_iinc hX dX5_kindOf_20 rfl (congrArg (_ + ·) ic_1) (by decide) rfl ?_
        refine j_goto (tgt := 2) hX dX5_kindOf_23 (by decide) ?_
        exact aJx (ih _ _ hG  hf) (And.intro rfl (And.intro rfl (rfl)))
      · have hf := ifp hc hf
        refine j_iload_n hX dX5_kindOf_18 rfl ?_
        cases hf
        exact j_ret hX hr hlk rfl dX5_kindOf_19
def fX5_kindOf (a0 : Int32) : Option ((Int32)) := fX5_kindOf_2 fuel a0 0
theorem kX5_kindOf  {vR : Int32} (hX : aX p s m args c RX5 cX5_kindOf 2 D cA A ad0) (hr : meth.sig.returnType = (some .int)) (hlk : meth.locks = false) (hRf : 4 ≤ R.frames) (hRl : 64 * 4 ≤ R.locals) {a0 : Int32} (hG : aGood sh rv) (hf : fX5_kindOf a0 = some (vR)) : aJ p l e R s m args below meth c (MQ below (aPost D cA ad0 A (sh, i0, lo0, rv0) (some (.int vR)) (sh, i, lo, rv)) args s (sh.length - sh.length) (aSn sh - aSn sh) A) D cA A ad0 2 sh.length (aSn sh) 0 [some (.int a0), none] [] (sh, i, lo, rv) := by
  unfold fX5_kindOf at hf
  refine j_iconst hX dX5_kindOf_0 ic_0 ?_
  refine j_istore_n hX dX5_kindOf_1 (by decide) rfl ?_
  exact aJx (kX5_kindOf_2 hX hr hlk hRf hRl fuel _ _ hG  hf) (And.intro rfl (And.intro rfl (rfl)))
theorem okX5_kindOf {l : Launch} {sh : List aSh} {i : Nat → Nat → Int32} {lo : Nat → Nat → Int64} {rv : Nat → Nat → Option Nat}  {a0 : Int32} {vR : Int32} (hG : aGood sh rv) (hf : fX5_kindOf a0 = some (vR)) : aM l yX5_kindOf cX5_kindOf 2 (some .int) 4 [.int a0] (sh, i, lo, rv) (some (.int vR)) (sh, i, lo, rv) :=
  aM_of (by decide) (Nat.le_of_ble_eq_true rfl) (Nat.le_refl _) (Nat.le_refl _) (fun p e s m args below meth c D cA A ad0 hX hr hlk hnm => kX5_kindOf hX hr hlk (Nat.le_refl _) (Nat.le_refl _) hG hf)
def fX10_digit (i : Nat → Nat → Int32) : Option ((Int32) × (Nat → Nat → Int32)) := bn2 (fX10_ahead i) fun v1 i2 =>
    bn1 (fX10_atDigit i2) fun v4 =>
    if v4 = 0 then (some ((-1), i2)) else (if aIn (i2 1 2) 240 = true then
    (lt ((i2 2 ((i2 1 2) : Int32).toNatClampNeg) - (48 : Int32)) fun t6 =>
    lt (u2 i2 1 2 ((i2 1 2) + (1 : Int32))) fun i7 =>
    some (t6, i7)) else none)
theorem kX10_digit  {vR : Int32} {iR : Nat → Nat → Int32} (hX : aX p s m args c RX10 cX10_digit 2 D cA A ad0) (hr : meth.sig.returnType = (some .int)) (hlk : meth.locks = false) (hRf : 1 ≤ R.frames) (hRl : 64 * 1 ≤ R.locals) (hG : aGood sh rv) (hf : fX10_digit i = some (vR, iR)) : aJ p l e R s m args below meth c (MQ below (aPost D cA ad0 A (sh, i0, lo0, rv0) (some (.int vR)) (sh, iR, lo, rv)) args s (sh.length - sh.length) (aSn sh - aSn sh) A) D cA A ad0 2 sh.length (aSn sh) 0 [some (.ref (100 + 1)), none] [] (sh, i, lo, rv) := by
  unfold fX10_digit at hf
  refine j_aload_n hX dX10_digit_0 rfl ?_
  obtain ⟨v1, i2, hh3, hf⟩ := bd2 hf
  refine j_cV0i hX lk_X10_22 kX10 dX10_digit_1 (sh_1 hG) (okX10_ahead hG hh3) rfl rfl (rmm (by omega) hRf hRl (by decide)) (Nat.le_of_ble_eq_true rfl) (Nat.le_add_right _ _) (Nat.le_add_right _ _) ?_
  refine j_pop hX dX10_digit_4 rfl ?_
  refine j_aload_n hX dX10_digit_5 rfl ?_
  obtain ⟨v4, hh5, hf⟩ := bd1 hf
  refine j_cV0i hX lk_X10_29 kX10 dX10_digit_6 (sh_1 hG) (okX10_atDigit hG hh5) rfl rfl (rmm (by omega) hRf hRl (by decide)) (Nat.le_of_ble_eq_true rfl) (Nat.le_add_right _ _) (Nat.le_add_right _ _) ?_
  refine jpc (b := 9) rfl ?_
  refine j_if_ne (tgt := 14) hX dX10_digit_9 (by decide) (fun hc => ?_) (fun hc => ?_)
  · have hf := ifn hc hf
    refine j_aload_n hX dX10_digit_14 rfl ?_
    refine j_getR (k := 0) hX kX10 (by decide) fk_X10_11 (rf_1_0 hG) dX10_digit_15 (sh_1 hG) rfl ?_
    refine j_aload_n hX dX10_digit_18 rfl ?_
    refine j_getI (k := 2) hX kX10 (by decide) fk_X10_19 dX10_digit_19 (sh_1 hG) rfl ?_
    obtain ⟨hg, hf⟩ := gd hf
    refine j_iald hX (sh_2 hG) hg dX10_digit_22 ?_
    refine j_bipush hX dX10_digit_23 bp_48 ?_
    refine j_isub hX dX10_digit_25 ?_
    have hf := ltd hf
    refine j_istore_n hX dX10_digit_26 (by decide) rfl ?_
    refine j_aload_n hX dX10_digit_27 rfl ?_
    refine j_dup hX dX10_digit_28 rfl ?_
    refine jpc (b := 29) rfl ?_
    refine j_getI (k := 2) hX kX10 (by decide) fk_X10_19 dX10_digit_29 (sh_1 hG) rfl ?_
    refine j_iconst hX dX10_digit_32 ic_1 ?_
    refine j_iadd hX dX10_digit_33 ?_
    have hf := ltd hf
    refine j_putI (k := 2) hX kX10 (by decide) fk_X10_19 dX10_digit_34 (sh_1 hG) rfl rfl rfl rfl ?_
    refine j_iload_n hX dX10_digit_37 rfl ?_
    cases hf
    exact j_ret hX hr hlk rfl dX10_digit_38
  · have hf := ifp hc hf
    refine j_iconst hX dX10_digit_12 ic_m1 ?_
    cases hf
    exact j_ret hX hr hlk rfl dX10_digit_13
theorem okX10_digit {l : Launch} {sh : List aSh} {i : Nat → Nat → Int32} {lo : Nat → Nat → Int64} {rv : Nat → Nat → Option Nat}  {vR : Int32} {iR : Nat → Nat → Int32} (hG : aGood sh rv) (hf : fX10_digit i = some (vR, iR)) : aM l yX10_digit cX10_digit 2 (some .int) 1 [.ref (100 + 1)] (sh, i, lo, rv) (some (.int vR)) (sh, iR, lo, rv) :=
  aM_of (by decide) (Nat.le_of_ble_eq_true rfl) (Nat.le_refl _) (Nat.le_refl _) (fun p e s m args below meth c D cA A ad0 hX hr hlk hnm => kX10_digit hX hr hlk (Nat.le_refl _) (Nat.le_refl _) hG hf)
def fX5_readStep_100 (p0 : Nat) (x2 : Int32) (x4 : Int32) (i : Nat → Nat → Int32) : Option ((Int32) × (Nat → Nat → Int32)) := if aIn (x2 + (2 : Int32)) 48 = true then
    (lt (u2 i (p0 + 1) ((x2 + (2 : Int32)) : Int32).toNatClampNeg x4) fun i19 => if x4 = (-1) then (some (0, i19)) else (some (1, i19))) else none
theorem kX5_readStep_100  {p0 : Nat} {vR : Int32} {iR : Nat → Nat → Int32} (hX : aX p s m args c RX5 cX5_readStep 5 D cA A ad0) (hr : meth.sig.returnType = (some .boolean)) (hlk : meth.locks = false) (hRf : 5 ≤ R.frames) (hRl : 64 * 5 ≤ R.locals) (h0 : isLin sh rv p0) {x2 : Int32} {x4 : Int32} (hG : aGood sh rv) (hf : fX5_readStep_100 p0 x2 x4 i = some (vR, iR)) : aJ p l e R s m args below meth c (MQ below (aPost D cA ad0 A (sh, i0, lo0, rv0) (some (.int vR)) (sh, iR, lo, rv)) args s (sh.length - sh.length) (aSn sh - aSn sh) A) D cA A ad0 5 sh.length (aSn sh) 100 [some (.ref (100 + p0)), none, some (.int x2), none, some (.int x4)] [] (sh, i, lo, rv) := by
  unfold fX5_readStep_100 at hf
  refine j_aload_n hX dX5_readStep_100 rfl ?_
  refine j_getR (k := 0) hX kX5 (by decide) fk_X5_11 h0.2.2 dX5_readStep_101 h0.1 rfl ?_
  refine j_iload_n hX dX5_readStep_104 rfl ?_
  refine j_iconst hX dX5_readStep_105 ic_2 ?_
  refine j_iadd hX dX5_readStep_106 ?_
  refine jpc (b := 107) rfl ?_
  refine j_iload hX dX5_readStep_107 rfl ?_
  obtain ⟨hg, hf⟩ := gd hf
  have hf := ltd hf
  refine j_iast hX h0.2.1 hg dX5_readStep_109 ?_
  refine j_iload hX dX5_readStep_110 rfl ?_
  refine j_iconst hX dX5_readStep_112 ic_m1 ?_
  refine j_icmp_eq (tgt := 120) hX dX5_readStep_113 (by decide) (fun hc => ?_) (fun hc => ?_)
  · have hf := ifp hc hf
    refine j_iconst hX dX5_readStep_120 ic_0 ?_
    cases hf
    exact j_ret hX hr hlk rfl dX5_readStep_121
  · have hf := ifn hc hf
    refine j_iconst hX dX5_readStep_116 ic_1 ?_
    refine j_goto (tgt := 121) hX dX5_readStep_117 (by decide) ?_
    cases hf
    exact j_ret hX hr hlk rfl dX5_readStep_121
def fX5_readStep_77 (p0 : Nat) (x2 : Int32) (x3 : Int32) (i : Nat → Nat → Int32) : Option ((Int32) × (Nat → Nat → Int32)) := bn2 (fX10_digit i) fun v14 i15 =>
    if x3 = 1 then (if v14 ≤ 2 then (fX5_readStep_100 p0 x2 v14 i15) else (bn1 (fX10_stayAtLastDigit i15) fun i17 =>
    some (0, i17))) else (fX5_readStep_100 p0 x2 v14 i15)
theorem kX5_readStep_77  {p0 : Nat} {vR : Int32} {iR : Nat → Nat → Int32} (hX : aX p s m args c RX5 cX5_readStep 5 D cA A ad0) (hr : meth.sig.returnType = (some .boolean)) (hlk : meth.locks = false) (hRf : 5 ≤ R.frames) (hRl : 64 * 5 ≤ R.locals) (h0 : isLin sh rv p0) {x2 : Int32} {x3 : Int32} (hG : aGood sh rv) (hf : fX5_readStep_77 p0 x2 x3 i = some (vR, iR)) : aJ p l e R s m args below meth c (MQ below (aPost D cA ad0 A (sh, i0, lo0, rv0) (some (.int vR)) (sh, iR, lo, rv)) args s (sh.length - sh.length) (aSn sh - aSn sh) A) D cA A ad0 5 sh.length (aSn sh) 77 [some (.ref (100 + p0)), some (.ref (100 + 1)), some (.int x2), some (.int x3), none] [] (sh, i, lo, rv) := by
  unfold fX5_readStep_77 at hf
  refine j_aload_n hX dX5_readStep_77 rfl ?_
  obtain ⟨v14, i15, hh16, hf⟩ := bd2 hf
  refine j_cV0i hX lk_X5_43 kX10 dX5_readStep_78 (sh_1 hG) (okX10_digit hG hh16) rfl rfl (rmm (by omega) hRf hRl (by decide)) (Nat.le_of_ble_eq_true rfl) (Nat.le_add_right _ _) (Nat.le_add_right _ _) ?_
  refine j_istore hX dX5_readStep_81 (by decide) rfl ?_
  refine j_iload_n hX dX5_readStep_83 rfl ?_
  refine j_iconst hX dX5_readStep_84 ic_1 ?_
  refine jpc (b := 85) rfl ?_
  refine j_icmp_ne (tgt := 100) hX dX5_readStep_85 (by decide) (fun hc => ?_) (fun hc => ?_)
  · have hf := ifn hc hf
    exact aJx (kX5_readStep_100 hX hr hlk hRf hRl h0 hG  hf) (And.intro rfl (And.intro rfl (And.intro rfl (rfl))))
  · have hf := ifp hc hf
    refine j_iload hX dX5_readStep_88 rfl ?_
    refine j_iconst hX dX5_readStep_90 ic_2 ?_
    refine j_icmp_le (tgt := 100) hX dX5_readStep_91 (by decide) (fun hc => ?_) (fun hc => ?_)
    · have hf := ifp hc hf
      exact aJx (kX5_readStep_100 hX hr hlk hRf hRl h0 hG  hf) (And.intro rfl (And.intro rfl (And.intro rfl (rfl))))
    · have hf := ifn hc hf
      refine j_aload_n hX dX5_readStep_94 rfl ?_
      obtain ⟨i17, hh18, hf⟩ := bd1 hf
      refine j_cV0v hX lk_X5_46 kX10 dX5_readStep_95 (sh_1 hG) (okX10_stayAtLastDigit hG hh18) rfl rfl (rmm (by omega) hRf hRl (by decide)) (Nat.le_of_ble_eq_true rfl) (Nat.le_add_right _ _) (Nat.le_add_right _ _) ?_
      refine j_iconst hX dX5_readStep_98 ic_0 ?_
      cases hf
      exact j_ret hX hr hlk rfl dX5_readStep_99
def fX5_readStep (p0 : Nat) (a2 : Int32) (i : Nat → Nat → Int32) : Option ((Int32) × (Nat → Nat → Int32)) := bn2 (fX10_ahead i) fun v1 i2 =>
    bn1 (fX5_kindOf v1) fun v4 =>
    if v4 = (-1) then (some (0, i2)) else (bn1 (fX10_pass i2) fun i6 =>
    if aIn a2 48 = true then
    (lt (u2 i6 (p0 + 1) (a2 : Int32).toNatClampNeg v4) fun i8 => bn2 (fX10_digit i8) fun v9 i10 =>
    if aIn (a2 + (1 : Int32)) 48 = true then
    (lt (u2 i10 (p0 + 1) ((a2 + (1 : Int32)) : Int32).toNatClampNeg v9) fun i12 => if aIn (a2 + (2 : Int32)) 48 = true then
    (lt (u2 i12 (p0 + 1) ((a2 + (2 : Int32)) : Int32).toNatClampNeg (-1)) fun i13 => if aIn (a2 + (1 : Int32)) 48 = true then
    (if (i13 (p0 + 1) ((a2 + (1 : Int32)) : Int32).toNatClampNeg) = (-1) then (some (0, i13)) else (if v4 = 0 then (fX5_readStep_77 p0 a2 v4 i13) else (if v4 = 1 then (fX5_readStep_77 p0 a2 v4 i13) else (if v4 = 4 then (fX5_readStep_77 p0 a2 v4 i13) else (some (1, i13)))))) else none) else none) else none) else none)
theorem kX5_readStep  {p0 : Nat} {vR : Int32} {iR : Nat → Nat → Int32} (hX : aX p s m args c RX5 cX5_readStep 5 D cA A ad0) (hr : meth.sig.returnType = (some .boolean)) (hlk : meth.locks = false) (hRf : 5 ≤ R.frames) (hRl : 64 * 5 ≤ R.locals) (h0 : isLin sh rv p0) {a2 : Int32} (hG : aGood sh rv) (hf : fX5_readStep p0 a2 i = some (vR, iR)) : aJ p l e R s m args below meth c (MQ below (aPost D cA ad0 A (sh, i0, lo0, rv0) (some (.int vR)) (sh, iR, lo, rv)) args s (sh.length - sh.length) (aSn sh - aSn sh) A) D cA A ad0 5 sh.length (aSn sh) 0 [some (.ref (100 + p0)), some (.ref (100 + 1)), some (.int a2), none, none] [] (sh, i, lo, rv) := by
  unfold fX5_readStep at hf
  refine j_aload_n hX dX5_readStep_0 rfl ?_
  obtain ⟨v1, i2, hh3, hf⟩ := bd2 hf
  refine j_cV0i hX lk_X5_28 kX10 dX5_readStep_1 (sh_1 hG) (okX10_ahead hG hh3) rfl rfl (rmm (by omega) hRf hRl (by decide)) (Nat.le_of_ble_eq_true rfl) (Nat.le_add_right _ _) (Nat.le_add_right _ _) ?_
  obtain ⟨v4, hh5, hf⟩ := bd1 hf
  refine j_cS1i hX lk_X5_36 dX5_readStep_4 (okX5_kindOf hG hh5) rfl rfl (rmm (by omega) hRf hRl (by decide)) (Nat.le_of_ble_eq_true rfl) (Nat.le_add_right _ _) (Nat.le_add_right _ _) ?_
  refine j_istore_n hX dX5_readStep_7 (by decide) rfl ?_
  refine j_iload_n hX dX5_readStep_8 rfl ?_
  refine jpc (b := 9) rfl ?_
  refine j_iconst hX dX5_readStep_9 ic_m1 ?_
  refine j_icmp_ne (tgt := 15) hX dX5_readStep_10 (by decide) (fun hc => ?_) (fun hc => ?_)
  · have hf := ifn hc hf
    refine j_aload_n hX dX5_readStep_15 rfl ?_
    obtain ⟨i6, hh7, hf⟩ := bd1 hf
    refine j_cV0v hX lk_X5_40 kX10 dX5_readStep_16 (sh_1 hG) (okX10_pass hG hh7) rfl rfl (rmm (by omega) hRf hRl (by decide)) (Nat.le_of_ble_eq_true rfl) (Nat.le_add_right _ _) (Nat.le_add_right _ _) ?_
    refine j_aload_n hX dX5_readStep_19 rfl ?_
    refine j_getR (k := 0) hX kX5 (by decide) fk_X5_11 h0.2.2 dX5_readStep_20 h0.1 rfl ?_
    refine j_iload_n hX dX5_readStep_23 rfl ?_
    refine jpc (b := 24) rfl ?_
    refine j_iload_n hX dX5_readStep_24 rfl ?_
    obtain ⟨hg, hf⟩ := gd hf
    have hf := ltd hf
    refine j_iast hX h0.2.1 hg dX5_readStep_25 ?_
    refine j_aload_n hX dX5_readStep_26 rfl ?_
    refine j_getR (k := 0) hX kX5 (by decide) fk_X5_11 h0.2.2 dX5_readStep_27 h0.1 rfl ?_
    refine j_iload_n hX dX5_readStep_30 rfl ?_
    refine j_iconst hX dX5_readStep_31 ic_1 ?_
    refine j_iadd hX dX5_readStep_32 ?_
    refine jpc (b := 33) rfl ?_
    refine j_aload_n hX dX5_readStep_33 rfl ?_
    obtain ⟨v9, i10, hh11, hf⟩ := bd2 hf
    refine j_cV0i hX lk_X5_43 kX10 dX5_readStep_34 (sh_1 hG) (okX10_digit hG hh11) rfl rfl (rmm (by omega) hRf hRl (by decide)) (Nat.le_of_ble_eq_true rfl) (Nat.le_add_right _ _) (Nat.le_add_right _ _) ?_
    obtain ⟨hg, hf⟩ := gd hf
    have hf := ltd hf
    refine j_iast hX h0.2.1 hg dX5_readStep_37 ?_
    refine j_aload_n hX dX5_readStep_38 rfl ?_
    refine j_getR (k := 0) hX kX5 (by decide) fk_X5_11 h0.2.2 dX5_readStep_39 h0.1 rfl ?_
    refine j_iload_n hX dX5_readStep_42 rfl ?_
    refine j_iconst hX dX5_readStep_43 ic_2 ?_
    refine j_iadd hX dX5_readStep_44 ?_
    refine jpc (b := 45) rfl ?_
    refine j_iconst hX dX5_readStep_45 ic_m1 ?_
    obtain ⟨hg, hf⟩ := gd hf
    have hf := ltd hf
    refine j_iast hX h0.2.1 hg dX5_readStep_46 ?_
    refine j_aload_n hX dX5_readStep_47 rfl ?_
    refine j_getR (k := 0) hX kX5 (by decide) fk_X5_11 h0.2.2 dX5_readStep_48 h0.1 rfl ?_
    refine j_iload_n hX dX5_readStep_51 rfl ?_
    refine j_iconst hX dX5_readStep_52 ic_1 ?_
    refine j_iadd hX dX5_readStep_53 ?_
    refine jpc (b := 54) rfl ?_
    obtain ⟨hg, hf⟩ := gd hf
    refine j_iald hX h0.2.1 hg dX5_readStep_54 ?_
    refine j_iconst hX dX5_readStep_55 ic_m1 ?_
    refine j_icmp_ne (tgt := 61) hX dX5_readStep_56 (by decide) (fun hc => ?_) (fun hc => ?_)
    · have hf := ifn hc hf
      refine j_iload_n hX dX5_readStep_61 rfl ?_
      refine j_if_eq (tgt := 77) hX dX5_readStep_62 (by decide) (fun hc => ?_) (fun hc => ?_)
      · have hf := ifp hc hf
        exact aJx (kX5_readStep_77 hX hr hlk hRf hRl h0 hG  hf) (And.intro rfl (And.intro rfl (And.intro rfl (And.intro rfl (rfl)))))
      · have hf := ifn hc hf
        refine j_iload_n hX dX5_readStep_65 rfl ?_
        refine j_iconst hX dX5_readStep_66 ic_1 ?_
        refine j_icmp_eq (tgt := 77) hX dX5_readStep_67 (by decide) (fun hc => ?_) (fun hc => ?_)
        · have hf := ifp hc hf
          exact aJx (kX5_readStep_77 hX hr hlk hRf hRl h0 hG  hf) (And.intro rfl (And.intro rfl (And.intro rfl (And.intro rfl (rfl)))))
        · have hf := ifn hc hf
          refine j_iload_n hX dX5_readStep_70 rfl ?_
          refine j_iconst hX dX5_readStep_71 ic_4 ?_
          refine j_icmp_eq (tgt := 77) hX dX5_readStep_72 (by decide) (fun hc => ?_) (fun hc => ?_)
          · have hf := ifp hc hf
            exact aJx (kX5_readStep_77 hX hr hlk hRf hRl h0 hG  hf) (And.intro rfl (And.intro rfl (And.intro rfl (And.intro rfl (rfl)))))
          · have hf := ifn hc hf
            refine j_iconst hX dX5_readStep_75 ic_1 ?_
            cases hf
            exact j_ret hX hr hlk rfl dX5_readStep_76
    · have hf := ifp hc hf
      refine j_iconst hX dX5_readStep_59 ic_0 ?_
      cases hf
      exact j_ret hX hr hlk rfl dX5_readStep_60
  · have hf := ifp hc hf
    refine j_iconst hX dX5_readStep_13 ic_0 ?_
    cases hf
    exact j_ret hX hr hlk rfl dX5_readStep_14
theorem okX5_readStep {l : Launch} {sh : List aSh} {i : Nat → Nat → Int32} {lo : Nat → Nat → Int64} {rv : Nat → Nat → Option Nat}  {p0 : Nat} {a2 : Int32} {vR : Int32} {iR : Nat → Nat → Int32} (hG : aGood sh rv) (h0 : isLin sh rv p0) (hf : fX5_readStep p0 a2 i = some (vR, iR)) : aM l yX5_readStep cX5_readStep 5 (some .boolean) 5 [.ref (100 + p0), .ref (100 + 1), .int a2] (sh, i, lo, rv) (some (.int vR)) (sh, iR, lo, rv) :=
  aM_of (by decide) (Nat.le_of_ble_eq_true rfl) (Nat.le_refl _) (Nat.le_refl _) (fun p e s m args below meth c D cA A ad0 hX hr hlk hnm => kX5_readStep hX hr hlk (Nat.le_refl _) (Nat.le_refl _) h0 hG hf)
def fX5_read_9 (p0 : Nat) : Nat → (Nat → Nat → Int32) → Option ((Int32) × (Nat → Nat → Int32))
  | 0, _ => none
  | n + 1, i => if 16 ≤ (i p0 1) then (some (0, i)) else (bn2 (fX5_readStep p0 ((i p0 1) * (3 : Int32)) i) fun v4 i5 =>
    if v4 = 0 then (some (0, i5)) else (lt (u2 i5 p0 1 ((i5 p0 1) + (1 : Int32))) fun i7 =>
    bn2 (fX10_ahead i7) fun v8 i9 =>
    if v8 = (-1) then (some (1, i9)) else (if (i9 p0 1) = 16 then (some (0, i9)) else (bn2 (fX10_takes 59 i9) fun v11 i12 =>
    if v11 = 0 then (some (0, i12)) else (fX5_read_9 p0 n i12)))))
theorem kX5_read_9  {p0 : Nat} {vR : Int32} {iR : Nat → Nat → Int32} (hX : aX p s m args c RX5 cX5_read 2 D cA A ad0) (hr : meth.sig.returnType = (some .boolean)) (hlk : meth.locks = false) (hRf : 6 ≤ R.frames) (hRl : 64 * 6 ≤ R.locals) (h0 : isLin sh rv p0) : ∀ (n : Nat) (i : Nat → Nat → Int32), aGood sh rv → fX5_read_9 p0 n i = some (vR, iR) → aJ p l e R s m args below meth c (MQ below (aPost D cA ad0 A (sh, i0, lo0, rv0) (some (.int vR)) (sh, iR, lo, rv)) args s (sh.length - sh.length) (aSn sh - aSn sh) A) D cA A ad0 2 sh.length (aSn sh) 9 [some (.ref (100 + p0)), some (.ref (100 + 1))] [] (sh, i, lo, rv) := by
  intro n
  induction n with
  | zero => intros; rename_i hf; cases hf
  | succ n ih =>
    intro i hG hf
    rw [fX5_read_9] at hf
    refine j_aload_n hX dX5_read_9 rfl ?_
    refine j_getI (k := 1) hX kX5 (by decide) fk_X5_15 dX5_read_10 h0.1 rfl ?_
    refine j_bipush hX dX5_read_13 bp_16 ?_
    refine j_icmp_ge (tgt := 74) hX dX5_read_15 (by decide) (fun hc => ?_) (fun hc => ?_)
    · have hf := ifp hc hf
      refine j_iconst hX dX5_read_74 ic_0 ?_
      cases hf
      exact j_ret hX hr hlk rfl dX5_read_75
    · have hf := ifn hc hf
      refine j_aload_n hX dX5_read_18 rfl ?_
      refine j_aload_n hX dX5_read_19 rfl ?_
      refine j_aload_n hX dX5_read_20 rfl ?_
      refine j_getI (k := 1) hX kX5 (by decide) fk_X5_15 dX5_read_21 h0.1 rfl ?_
      refine j_iconst hX dX5_read_24 ic_3 ?_
      refine jpc (b := 25) rfl ?_
      refine j_imul hX dX5_read_25 ?_
      obtain ⟨v4, i5, hh6, hf⟩ := bd2 hf
      refine j_cV2i hX lk_X5_24 kX5 dX5_read_26 h0.1 (okX5_readStep hG h0 hh6) rfl rfl (rmm (by omega) hRf hRl (by decide)) (Nat.le_of_ble_eq_true rfl) (Nat.le_add_right _ _) (Nat.le_add_right _ _) ?_
      refine j_if_ne (tgt := 34) hX dX5_read_29 (by decide) (fun hc => ?_) (fun hc => ?_)
      · have hf := ifn hc hf
        refine j_aload_n hX dX5_read_34 rfl ?_
        refine j_dup hX dX5_read_35 rfl ?_
        refine j_getI (k := 1) hX kX5 (by decide) fk_X5_15 dX5_read_36 h0.1 rfl ?_
        refine j_iconst hX dX5_read_39 ic_1 ?_
        refine j_iadd hX dX5_read_40 ?_
        refine jpc (b := 41) rfl ?_
        have hf := ltd hf
        refine j_putI (k := 1) hX kX5 (by decide) fk_X5_15 dX5_read_41 h0.1 rfl rfl rfl rfl ?_
        refine j_aload_n hX dX5_read_44 rfl ?_
        obtain ⟨v8, i9, hh10, hf⟩ := bd2 hf
        refine j_cV0i hX lk_X5_28 kX10 dX5_read_45 (sh_1 hG) (okX10_ahead hG hh10) rfl rfl (rmm (by omega) hRf hRl (by decide)) (Nat.le_of_ble_eq_true rfl) (Nat.le_add_right _ _) (Nat.le_add_right _ _) ?_
        refine j_iconst hX dX5_read_48 ic_m1 ?_
        refine j_icmp_ne (tgt := 54) hX dX5_read_49 (by decide) (fun hc => ?_) (fun hc => ?_)
        · have hf := ifn hc hf
          refine j_aload_n hX dX5_read_54 rfl ?_
          refine j_getI (k := 1) hX kX5 (by decide) fk_X5_15 dX5_read_55 h0.1 rfl ?_
          refine j_bipush hX dX5_read_58 bp_16 ?_
          refine j_icmp_eq (tgt := 72) hX dX5_read_60 (by decide) (fun hc => ?_) (fun hc => ?_)
          · have hf := ifp hc hf
            refine j_iconst hX dX5_read_72 ic_0 ?_
            cases hf
            exact j_ret hX hr hlk rfl dX5_read_73
          · have hf := ifn hc hf
            refine j_aload_n hX dX5_read_63 rfl ?_
            refine j_bipush hX dX5_read_64 bp_59 ?_
            obtain ⟨v11, i12, hh13, hf⟩ := bd2 hf
            refine j_cV1i hX lk_X5_32 kX10 dX5_read_66 (sh_1 hG) (okX10_takes hG hh13) rfl rfl (rmm (by omega) hRf hRl (by decide)) (Nat.le_of_ble_eq_true rfl) (Nat.le_add_right _ _) (Nat.le_add_right _ _) ?_
            refine j_if_ne (tgt := 9) hX dX5_read_69 (by decide) (fun hc => ?_) (fun hc => ?_)
            · have hf := ifn hc hf
              exact aJx (ih _ hG  hf) (And.intro rfl (And.intro rfl (rfl)))
            · have hf := ifp hc hf
              refine j_iconst hX dX5_read_72 ic_0 ?_
              cases hf
              exact j_ret hX hr hlk rfl dX5_read_73
        · have hf := ifp hc hf
          refine j_iconst hX dX5_read_52 ic_1 ?_
          cases hf
          exact j_ret hX hr hlk rfl dX5_read_53
      · have hf := ifp hc hf
        refine j_iconst hX dX5_read_32 ic_0 ?_
        cases hf
        exact j_ret hX hr hlk rfl dX5_read_33
def fX5_read (p0 : Nat) (i : Nat → Nat → Int32) : Option ((Int32) × (Nat → Nat → Int32)) := lt (u2 i p0 1 0) fun i1 =>
    bn1 (fX10_rewind i1) fun i2 =>
    fX5_read_9 p0 fuel i2
theorem kX5_read  {p0 : Nat} {vR : Int32} {iR : Nat → Nat → Int32} (hX : aX p s m args c RX5 cX5_read 2 D cA A ad0) (hr : meth.sig.returnType = (some .boolean)) (hlk : meth.locks = false) (hRf : 6 ≤ R.frames) (hRl : 64 * 6 ≤ R.locals) (h0 : isLin sh rv p0) (hG : aGood sh rv) (hf : fX5_read p0 i = some (vR, iR)) : aJ p l e R s m args below meth c (MQ below (aPost D cA ad0 A (sh, i0, lo0, rv0) (some (.int vR)) (sh, iR, lo, rv)) args s (sh.length - sh.length) (aSn sh - aSn sh) A) D cA A ad0 2 sh.length (aSn sh) 0 [some (.ref (100 + p0)), some (.ref (100 + 1))] [] (sh, i, lo, rv) := by
  unfold fX5_read at hf
  refine j_aload_n hX dX5_read_0 rfl ?_
  refine j_iconst hX dX5_read_1 ic_0 ?_
  have hf := ltd hf
  refine j_putI (k := 1) hX kX5 (by decide) fk_X5_15 dX5_read_2 h0.1 rfl rfl rfl rfl ?_
  refine j_aload_n hX dX5_read_5 rfl ?_
  obtain ⟨i2, hh3, hf⟩ := bd1 hf
  refine j_cV0v hX lk_X5_19 kX10 dX5_read_6 (sh_1 hG) (okX10_rewind hG hh3) rfl rfl (rmm (by omega) hRf hRl (by decide)) (Nat.le_of_ble_eq_true rfl) (Nat.le_add_right _ _) (Nat.le_add_right _ _) ?_
  exact aJx (kX5_read_9 hX hr hlk hRf hRl h0 fuel _ hG  hf) (And.intro rfl (And.intro rfl (rfl)))
theorem okX5_read {l : Launch} {sh : List aSh} {i : Nat → Nat → Int32} {lo : Nat → Nat → Int64} {rv : Nat → Nat → Option Nat}  {p0 : Nat} {vR : Int32} {iR : Nat → Nat → Int32} (hG : aGood sh rv) (h0 : isLin sh rv p0) (hf : fX5_read p0 i = some (vR, iR)) : aM l yX5_read cX5_read 2 (some .boolean) 6 [.ref (100 + p0), .ref (100 + 1)] (sh, i, lo, rv) (some (.int vR)) (sh, iR, lo, rv) :=
  aM_of (by decide) (Nat.le_of_ble_eq_true rfl) (Nat.le_refl _) (Nat.le_refl _) (fun p e s m args below meth c D cA A ad0 hX hr hlk hnm => kX5_read hX hr hlk (Nat.le_refl _) (Nat.le_refl _) h0 hG hf)
def fX11_canRead (a1 : Int32) (i : Nat → Nat → Int32) (rv : Nat → Nat → Option Nat) : Option ((Int32) × (Nat → Nat → Int32)) := if a1 = 0 then (bn2 (fX1_read 11 i) fun v15 i16 =>
    if narrow .boolean (.int v15) = .int v15 then
    some (v15, i16) else none) else (if a1 = 1 then (bn1 (fX9_lawDraft rv) fun v8 =>
    mO v8 (none) fun r10 => (bn2 (fX4_read (r10 - 100) i) fun v12 i13 =>
    if narrow .boolean (.int v12) = .int v12 then
    some (v12, i13) else none)) else (bn1 (fX9_linesDraft rv) fun v1 =>
    mO v1 (none) fun r3 => (bn2 (fX5_read (r3 - 100) i) fun v5 i6 =>
    if narrow .boolean (.int v5) = .int v5 then
    some (v5, i6) else none)))
theorem kX11_canRead  {vR : Int32} {iR : Nat → Nat → Int32} (hX : aX p s m args c RX11 cX11_canRead 2 D cA A ad0) (hr : meth.sig.returnType = (some .boolean)) (hlk : meth.locks = false) (hRf : 1026 ≤ R.frames) (hRl : 64 * 1026 ≤ R.locals) {a1 : Int32} (hG : aGood sh rv) (hf : fX11_canRead a1 i rv = some (vR, iR)) : aJ p l e R s m args below meth c (MQ below (aPost D cA ad0 A (sh, i0, lo0, rv0) (some (.int vR)) (sh, iR, lo, rv)) args s (sh.length - sh.length) (aSn sh - aSn sh) A) D cA A ad0 2 sh.length (aSn sh) 0 [some (.ref (100 + 0)), some (.int a1)] [] (sh, i, lo, rv) := by
  unfold fX11_canRead at hf
  refine j_iload_n hX dX11_canRead_0 rfl ?_
  refine j_if_ne (tgt := 16) hX dX11_canRead_1 (by decide) (fun hc => ?_) (fun hc => ?_)
  · have hf := ifn hc hf
    refine j_iload_n hX dX11_canRead_16 rfl ?_
    refine j_iconst hX dX11_canRead_17 ic_1 ?_
    refine j_icmp_ne (tgt := 38) hX dX11_canRead_18 (by decide) (fun hc => ?_) (fun hc => ?_)
    · have hf := ifn hc hf
      refine j_aload_n hX dX11_canRead_38 rfl ?_
      refine j_getR (k := 1) hX kX11 (by decide) fk_X11_19 (rf_0_1 hG) dX11_canRead_39 (sh_0 hG) rfl ?_
      obtain ⟨v1, hh2, hf⟩ := bd1 hf
      refine j_cV0r hX lk_X11_347 kX9 dX11_canRead_42 (sh_3 hG) (okX9_linesDraft hG hh2) rfl rfl (rmm (by omega) hRf hRl (by decide)) (Nat.le_of_ble_eq_true rfl) (Nat.le_add_right _ _) (Nat.le_add_right _ _) ?_
      rcases v1 with _ | r3
      · have hf := mO_n hf
        cases hf
      · have hf := mO_s hf
        obtain ⟨eb4, hLb4⟩ := vrX9_linesDraft hG hh2
        rw [show (va_rf (some r3)) = .ref (100 + (r3 - 100)) from congrArg Value.ref eb4]
        refine j_aload_n hX dX11_canRead_45 rfl ?_
        refine j_getR (k := 0) hX kX11 (by decide) fk_X11_10 (rf_0_0 hG) dX11_canRead_46 (sh_0 hG) rfl ?_
        obtain ⟨v5, i6, hh7, hf⟩ := bd2 hf
        refine j_cV1i hX lk_X11_351 kX5 dX11_canRead_49 hLb4.1 (okX5_read hG hLb4 hh7) rfl rfl (rmm (by omega) hRf hRl (by decide)) (Nat.le_of_ble_eq_true rfl) (Nat.le_add_right _ _) (Nat.le_add_right _ _) ?_
        obtain ⟨hg, hf⟩ := gd hf
        cases hf
        exact j_ret hX hr hlk hg dX11_canRead_52
    · have hf := ifp hc hf
      refine j_aload_n hX dX11_canRead_21 rfl ?_
      refine j_getR (k := 1) hX kX11 (by decide) fk_X11_19 (rf_0_1 hG) dX11_canRead_22 (sh_0 hG) rfl ?_
      obtain ⟨v8, hh9, hf⟩ := bd1 hf
      refine j_cV0r hX lk_X11_340 kX9 dX11_canRead_25 (sh_3 hG) (okX9_lawDraft hG hh9) rfl rfl (rmm (by omega) hRf hRl (by decide)) (Nat.le_of_ble_eq_true rfl) (Nat.le_add_right _ _) (Nat.le_add_right _ _) ?_
      rcases v8 with _ | r10
      · have hf := mO_n hf
        cases hf
      · have hf := mO_s hf
        obtain ⟨eb11, hLb11⟩ := vrX9_lawDraft hG hh9
        rw [show (va_rf (some r10)) = .ref (100 + (r10 - 100)) from congrArg Value.ref eb11]
        refine j_aload_n hX dX11_canRead_28 rfl ?_
        refine j_getR (k := 0) hX kX11 (by decide) fk_X11_10 (rf_0_0 hG) dX11_canRead_29 (sh_0 hG) rfl ?_
        obtain ⟨v12, i13, hh14, hf⟩ := bd2 hf
        refine j_cV1i hX lk_X11_344 kX4 dX11_canRead_32 hLb11.1 (okX4_read hG hLb11 hh14) rfl rfl (rmm (by omega) hRf hRl (by decide)) (Nat.le_of_ble_eq_true rfl) (Nat.le_add_right _ _) (Nat.le_add_right _ _) ?_
        refine j_goto (tgt := 52) hX dX11_canRead_35 (by decide) ?_
        obtain ⟨hg, hf⟩ := gd hf
        cases hf
        exact j_ret hX hr hlk hg dX11_canRead_52
  · have hf := ifp hc hf
    refine j_aload_n hX dX11_canRead_4 rfl ?_
    refine j_getR (k := 2) hX kX11 (by decide) fk_X11_26 (rf_0_2 hG) dX11_canRead_5 (sh_0 hG) rfl ?_
    refine j_aload_n hX dX11_canRead_8 rfl ?_
    refine j_getR (k := 0) hX kX11 (by decide) fk_X11_10 (rf_0_0 hG) dX11_canRead_9 (sh_0 hG) rfl ?_
    obtain ⟨v15, i16, hh17, hf⟩ := bd2 hf
    refine j_cV1i hX lk_X11_336 kX1 dX11_canRead_12 (sh_11 hG) (okX1_read hG (cr_11 hG) hh17) rfl rfl (rmm (by omega) hRf hRl (by decide)) (Nat.le_of_ble_eq_true rfl) (Nat.le_add_right _ _) (Nat.le_add_right _ _) ?_
    refine jpc (b := 15) rfl ?_
    obtain ⟨hg, hf⟩ := gd hf
    cases hf
    exact j_ret hX hr hlk hg dX11_canRead_15
theorem okX11_canRead {l : Launch} {sh : List aSh} {i : Nat → Nat → Int32} {lo : Nat → Nat → Int64} {rv : Nat → Nat → Option Nat}  {a1 : Int32} {vR : Int32} {iR : Nat → Nat → Int32} (hG : aGood sh rv) (hf : fX11_canRead a1 i rv = some (vR, iR)) : aM l yX11_canRead cX11_canRead 2 (some .boolean) 1026 [.ref (100 + 0), .int a1] (sh, i, lo, rv) (some (.int vR)) (sh, iR, lo, rv) :=
  aM_of (by decide) (Nat.le_of_ble_eq_true rfl) (Nat.le_refl _) (Nat.le_refl _) (fun p e s m args below meth c D cA A ad0 hX hr hlk hnm => kX11_canRead hX hr hlk (Nat.le_refl _) (Nat.le_refl _) hG hf)
def fX10_at (i : Nat → Nat → Int32) : Option ((Int32)) := some ((i 1 2))
theorem kX10_at  {vR : Int32} (hX : aX p s m args c RX10 cX10_at 1 D cA A ad0) (hr : meth.sig.returnType = (some .int)) (hlk : meth.locks = false) (hRf : 0 ≤ R.frames) (hRl : 64 * 0 ≤ R.locals) (hG : aGood sh rv) (hf : fX10_at i = some (vR)) : aJ p l e R s m args below meth c (MQ below (aPost D cA ad0 A (sh, i0, lo0, rv0) (some (.int vR)) (sh, i, lo, rv)) args s (sh.length - sh.length) (aSn sh - aSn sh) A) D cA A ad0 1 sh.length (aSn sh) 0 [some (.ref (100 + 1))] [] (sh, i, lo, rv) := by
  unfold fX10_at at hf
  refine j_aload_n hX dX10_at_0 rfl ?_
  refine j_getI (k := 2) hX kX10 (by decide) fk_X10_19 dX10_at_1 (sh_1 hG) rfl ?_
  cases hf
  exact j_ret hX hr hlk rfl dX10_at_4
theorem okX10_at {l : Launch} {sh : List aSh} {i : Nat → Nat → Int32} {lo : Nat → Nat → Int64} {rv : Nat → Nat → Option Nat}  {vR : Int32} (hG : aGood sh rv) (hf : fX10_at i = some (vR)) : aM l yX10_at cX10_at 1 (some .int) 0 [.ref (100 + 1)] (sh, i, lo, rv) (some (.int vR)) (sh, i, lo, rv) :=
  aM_of (by decide) (Nat.le_of_ble_eq_true rfl) (Nat.le_refl _) (Nat.le_refl _) (fun p e s m args below meth c D cA A ad0 hX hr hlk hnm => kX10_at hX hr hlk (Nat.le_refl _) (Nat.le_refl _) hG hf)
def fX11_fault (a1 : Int32) (i : Nat → Nat → Int32) (rv : Nat → Nat → Option Nat) : Option ((Int32) × (Nat → Nat → Int32)) := if a1 < 0 then (some ((-2), i)) else (if a1 ≤ 2 then (bn2 (fX11_canRead a1 i rv) fun v1 i2 =>
    if v1 = 0 then (bn1 (fX10_at i2) fun v4 =>
    some (v4, i2)) else (some ((-1), i2))) else (some ((-2), i)))
theorem kX11_fault  {vR : Int32} {iR : Nat → Nat → Int32} (hX : aX p s m args c RX11 cX11_fault 2 D cA A ad0) (hr : meth.sig.returnType = (some .int)) (hlk : meth.locks = false) (hRf : 1027 ≤ R.frames) (hRl : 64 * 1027 ≤ R.locals) {a1 : Int32} (hG : aGood sh rv) (hf : fX11_fault a1 i rv = some (vR, iR)) : aJ p l e R s m args below meth c (MQ below (aPost D cA ad0 A (sh, i0, lo0, rv0) (some (.int vR)) (sh, iR, lo, rv)) args s (sh.length - sh.length) (aSn sh - aSn sh) A) D cA A ad0 2 sh.length (aSn sh) 0 [some (.ref (100 + 0)), some (.int a1)] [] (sh, i, lo, rv) := by
  unfold fX11_fault at hf
  refine j_iload_n hX dX11_fault_0 rfl ?_
  refine j_if_lt (tgt := 9) hX dX11_fault_1 (by decide) (fun hc => ?_) (fun hc => ?_)
  · have hf := ifp hc hf
    refine j_bipush hX dX11_fault_9 bp_m2 ?_
    cases hf
    exact j_ret hX hr hlk rfl dX11_fault_11
  · have hf := ifn hc hf
    refine j_iload_n hX dX11_fault_4 rfl ?_
    refine j_iconst hX dX11_fault_5 ic_2 ?_
    refine j_icmp_le (tgt := 12) hX dX11_fault_6 (by decide) (fun hc => ?_) (fun hc => ?_)
    · have hf := ifp hc hf
      refine j_aload_n hX dX11_fault_12 rfl ?_
      refine j_iload_n hX dX11_fault_13 rfl ?_
      obtain ⟨v1, i2, hh3, hf⟩ := bd2 hf
      refine j_cV1i hX lk_X11_104 kX11 dX11_fault_14 (sh_0 hG) (okX11_canRead hG hh3) rfl rfl (rmm (by omega) hRf hRl (by decide)) (Nat.le_of_ble_eq_true rfl) (Nat.le_add_right _ _) (Nat.le_add_right _ _) ?_
      refine j_if_eq (tgt := 24) hX dX11_fault_17 (by decide) (fun hc => ?_) (fun hc => ?_)
      · have hf := ifp hc hf
        refine j_aload_n hX dX11_fault_24 rfl ?_
        refine j_getR (k := 0) hX kX11 (by decide) fk_X11_10 (rf_0_0 hG) dX11_fault_25 (sh_0 hG) rfl ?_
        obtain ⟨v4, hh5, hf⟩ := bd1 hf
        refine j_cV0i hX lk_X11_108 kX10 dX11_fault_28 (sh_1 hG) (okX10_at hG hh5) rfl rfl (rmm (by omega) hRf hRl (by decide)) (Nat.le_of_ble_eq_true rfl) (Nat.le_add_right _ _) (Nat.le_add_right _ _) ?_
        cases hf
        exact j_ret hX hr hlk rfl dX11_fault_31
      · have hf := ifn hc hf
        refine j_iconst hX dX11_fault_20 ic_m1 ?_
        refine j_goto (tgt := 31) hX dX11_fault_21 (by decide) ?_
        cases hf
        exact j_ret hX hr hlk rfl dX11_fault_31
    · have hf := ifn hc hf
      refine j_bipush hX dX11_fault_9 bp_m2 ?_
      cases hf
      exact j_ret hX hr hlk rfl dX11_fault_11
theorem okX11_fault {l : Launch} {sh : List aSh} {i : Nat → Nat → Int32} {lo : Nat → Nat → Int64} {rv : Nat → Nat → Option Nat}  {a1 : Int32} {vR : Int32} {iR : Nat → Nat → Int32} (hG : aGood sh rv) (hf : fX11_fault a1 i rv = some (vR, iR)) : aM l yX11_fault cX11_fault 2 (some .int) 1027 [.ref (100 + 0), .int a1] (sh, i, lo, rv) (some (.int vR)) (sh, iR, lo, rv) :=
  aM_of (by decide) (Nat.le_of_ble_eq_true rfl) (Nat.le_refl _) (Nat.le_refl _) (fun p e s m args below meth c D cA A ad0 hX hr hlk hnm => kX11_fault hX hr hlk (Nat.le_refl _) (Nat.le_refl _) hG hf)
def fX1_copyFrom (p0 : Nat) (p1 : Nat) (i : Nat → Nat → Int32) : Option ((Nat → Nat → Int32)) := if ¬ (0 : Int32) < 0 ∧ ¬ (0 : Int32) < 0 ∧ ¬ ((nI 4) : Int32) < 0 ∧ (0 : Int32).toNatClampNeg + ((nI 4) : Int32).toNatClampNeg ≤ 4 ∧ (0 : Int32).toNatClampNeg + ((nI 4) : Int32).toNatClampNeg ≤ 4 then
    (lt (cp2 i (i (p1 + 1)) (0 : Int32).toNatClampNeg (p0 + 1) (0 : Int32).toNatClampNeg ((nI 4) : Int32).toNatClampNeg) fun i1 => if ¬ (0 : Int32) < 0 ∧ ¬ (0 : Int32) < 0 ∧ ¬ ((nI 54) : Int32) < 0 ∧ (0 : Int32).toNatClampNeg + ((nI 54) : Int32).toNatClampNeg ≤ 54 ∧ (0 : Int32).toNatClampNeg + ((nI 54) : Int32).toNatClampNeg ≤ 54 then
    (lt (cp2 i1 (i1 (p1 + 2)) (0 : Int32).toNatClampNeg (p0 + 2) (0 : Int32).toNatClampNeg ((nI 54) : Int32).toNatClampNeg) fun i2 => if ¬ (0 : Int32) < 0 ∧ ¬ (0 : Int32) < 0 ∧ ¬ ((nI 16) : Int32) < 0 ∧ (0 : Int32).toNatClampNeg + ((nI 16) : Int32).toNatClampNeg ≤ 16 ∧ (0 : Int32).toNatClampNeg + ((nI 16) : Int32).toNatClampNeg ≤ 16 then
    (lt (cp2 i2 (i2 (p1 + 3)) (0 : Int32).toNatClampNeg (p0 + 3) (0 : Int32).toNatClampNeg ((nI 16) : Int32).toNatClampNeg) fun i3 => lt (u2 i3 p0 3 (i3 p1 3)) fun i4 =>
    lt (u2 i4 p0 4 (i4 p1 4)) fun i5 =>
    lt (u2 i5 p0 5 (i5 p1 5)) fun i6 =>
    some (i6)) else none) else none) else none
theorem kX1_copyFrom  {p0 : Nat} {p1 : Nat} {iR : Nat → Nat → Int32} (hX : aX p s m args c RX1 cX1_copyFrom 2 D cA A ad0) (hr : meth.sig.returnType = none) (hlk : meth.locks = false) (hRf : 1 ≤ R.frames) (hRl : 64 * 1 ≤ R.locals) (h0 : isCar sh rv p0) (h1 : isCar sh rv p1) (hG : aGood sh rv) (hf : fX1_copyFrom p0 p1 i = some (iR)) : aJ p l e R s m args below meth c (MQ below (aPost D cA ad0 A (sh, i0, lo0, rv0) none (sh, iR, lo, rv)) args s (sh.length - sh.length) (aSn sh - aSn sh) A) D cA A ad0 2 sh.length (aSn sh) 0 [some (.ref (100 + p0)), some (.ref (100 + p1))] [] (sh, i, lo, rv) := by
  unfold fX1_copyFrom at hf
  refine j_aload_n hX dX1_copyFrom_0 rfl ?_
  refine j_getR (k := 0) hX kX1 (by decide) fk_X1_11 h1.2.2.2.2.1 dX1_copyFrom_1 h1.1 rfl ?_
  refine j_iconst hX dX1_copyFrom_4 ic_0 ?_
  refine j_aload_n hX dX1_copyFrom_5 rfl ?_
  refine j_getR (k := 0) hX kX1 (by decide) fk_X1_11 h0.2.2.2.2.1 dX1_copyFrom_6 h0.1 rfl ?_
  refine jpc (b := 9) rfl ?_
  refine j_iconst hX dX1_copyFrom_9 ic_0 ?_
  refine j_aload_n hX dX1_copyFrom_10 rfl ?_
  refine j_getR (k := 0) hX kX1 (by decide) fk_X1_11 h0.2.2.2.2.1 dX1_copyFrom_11 h0.1 rfl ?_
  refine j_alen (t0 := 0) hX h0.2.1 (fun _ => rfl) dX1_copyFrom_14 ?_
  obtain ⟨hg, hf⟩ := gd hf
  have hf := ltd hf
  refine j_copy hX lk_X1_45 h1.2.1 h0.2.1 hg.1 hg.2.1 hg.2.2.1 hg.2.2.2.1 hg.2.2.2.2 (by omega) (Nat.le_trans (Nat.le_of_ble_eq_true rfl) hRl) dX1_copyFrom_15 ?_
  refine j_aload_n hX dX1_copyFrom_18 rfl ?_
  refine j_getR (k := 1) hX kX1 (by decide) fk_X1_15 h1.2.2.2.2.2.1 dX1_copyFrom_19 h1.1 rfl ?_
  refine j_iconst hX dX1_copyFrom_22 ic_0 ?_
  refine j_aload_n hX dX1_copyFrom_23 rfl ?_
  refine j_getR (k := 1) hX kX1 (by decide) fk_X1_15 h0.2.2.2.2.2.1 dX1_copyFrom_24 h0.1 rfl ?_
  refine jpc (b := 27) rfl ?_
  refine j_iconst hX dX1_copyFrom_27 ic_0 ?_
  refine j_aload_n hX dX1_copyFrom_28 rfl ?_
  refine j_getR (k := 1) hX kX1 (by decide) fk_X1_15 h0.2.2.2.2.2.1 dX1_copyFrom_29 h0.1 rfl ?_
  refine j_alen (t0 := 0) hX h0.2.2.1 (fun _ => rfl) dX1_copyFrom_32 ?_
  obtain ⟨hg, hf⟩ := gd hf
  have hf := ltd hf
  refine j_copy hX lk_X1_45 h1.2.2.1 h0.2.2.1 hg.1 hg.2.1 hg.2.2.1 hg.2.2.2.1 hg.2.2.2.2 (by omega) (Nat.le_trans (Nat.le_of_ble_eq_true rfl) hRl) dX1_copyFrom_33 ?_
  refine j_aload_n hX dX1_copyFrom_36 rfl ?_
  refine j_getR (k := 2) hX kX1 (by decide) fk_X1_18 h1.2.2.2.2.2.2 dX1_copyFrom_37 h1.1 rfl ?_
  refine j_iconst hX dX1_copyFrom_40 ic_0 ?_
  refine j_aload_n hX dX1_copyFrom_41 rfl ?_
  refine j_getR (k := 2) hX kX1 (by decide) fk_X1_18 h0.2.2.2.2.2.2 dX1_copyFrom_42 h0.1 rfl ?_
  refine jpc (b := 45) rfl ?_
  refine j_iconst hX dX1_copyFrom_45 ic_0 ?_
  refine j_aload_n hX dX1_copyFrom_46 rfl ?_
  refine j_getR (k := 2) hX kX1 (by decide) fk_X1_18 h0.2.2.2.2.2.2 dX1_copyFrom_47 h0.1 rfl ?_
  refine j_alen (t0 := 0) hX h0.2.2.2.1 (fun _ => rfl) dX1_copyFrom_50 ?_
  obtain ⟨hg, hf⟩ := gd hf
  have hf := ltd hf
  refine j_copy hX lk_X1_45 h1.2.2.2.1 h0.2.2.2.1 hg.1 hg.2.1 hg.2.2.1 hg.2.2.2.1 hg.2.2.2.2 (by omega) (Nat.le_trans (Nat.le_of_ble_eq_true rfl) hRl) dX1_copyFrom_51 ?_
  refine j_aload_n hX dX1_copyFrom_54 rfl ?_
  refine j_aload_n hX dX1_copyFrom_55 rfl ?_
  refine j_getI (k := 3) hX kX1 (by decide) fk_X1_21 dX1_copyFrom_56 h1.1 rfl ?_
  have hf := ltd hf
  refine j_putI (k := 3) hX kX1 (by decide) fk_X1_21 dX1_copyFrom_59 h0.1 rfl rfl rfl rfl ?_
  refine j_aload_n hX dX1_copyFrom_62 rfl ?_
  refine jpc (b := 63) rfl ?_
  refine j_aload_n hX dX1_copyFrom_63 rfl ?_
  refine j_getI (k := 4) hX kX1 (by decide) fk_X1_25 dX1_copyFrom_64 h1.1 rfl ?_
  have hf := ltd hf
  refine j_putI (k := 4) hX kX1 (by decide) fk_X1_25 dX1_copyFrom_67 h0.1 rfl rfl rfl rfl ?_
  refine j_aload_n hX dX1_copyFrom_70 rfl ?_
  refine j_aload_n hX dX1_copyFrom_71 rfl ?_
  refine j_getI (k := 5) hX kX1 (by decide) fk_X1_28 dX1_copyFrom_72 h1.1 rfl ?_
  refine jpc (b := 75) rfl ?_
  have hf := ltd hf
  refine j_putI (k := 5) hX kX1 (by decide) fk_X1_28 dX1_copyFrom_75 h0.1 rfl rfl rfl rfl ?_
  cases hf
  exact j_vret hX hr hlk dX1_copyFrom_78
theorem okX1_copyFrom {l : Launch} {sh : List aSh} {i : Nat → Nat → Int32} {lo : Nat → Nat → Int64} {rv : Nat → Nat → Option Nat}  {p0 : Nat} {p1 : Nat} {iR : Nat → Nat → Int32} (hG : aGood sh rv) (h0 : isCar sh rv p0) (h1 : isCar sh rv p1) (hf : fX1_copyFrom p0 p1 i = some (iR)) : aM l yX1_copyFrom cX1_copyFrom 2 none 1 [.ref (100 + p0), .ref (100 + p1)] (sh, i, lo, rv) none (sh, iR, lo, rv) :=
  aM_of (by decide) (Nat.le_of_ble_eq_true rfl) (Nat.le_refl _) (Nat.le_refl _) (fun p e s m args below meth c D cA A ad0 hX hr hlk hnm => kX1_copyFrom hX hr hlk (Nat.le_refl _) (Nat.le_refl _) h0 h1 hG hf)
def fJ7_fill_53178_5 (w0 : Nat) (n0 : Nat) : Nat → Int32 → Int32 → Int32 → (Nat → Nat → Int32) → Option ((Nat → Nat → Int32))
  | 0, _, _, _, _ => none
  | n + 1, x1, x2, x3, i => if x3 ≤ x2 then (some (i)) else (if aIn x2 n0 = true then
    (lt (u2 i w0 (x2 : Int32).toNatClampNeg x1) fun i1 => fJ7_fill_53178_5 w0 n0 n x1 (x2 + 1) x3 i1) else none)
theorem kJ7_fill_53178_5  {w0 : Nat} {n0 : Nat} {iR : Nat → Nat → Int32} (hX : aX p s m args c RJ7 cJ7_fill_53178 4 D cA A ad0) (hr : meth.sig.returnType = none) (hlk : meth.locks = false) (hRf : 0 ≤ R.frames) (hRl : 64 * 0 ≤ R.locals) (h0 : sh[w0]? = some (.inl (.int, n0))) : ∀ (n : Nat) (x1 : Int32) (x2 : Int32) (x3 : Int32) (i : Nat → Nat → Int32), aGood sh rv → fJ7_fill_53178_5 w0 n0 n x1 x2 x3 i = some (iR) → aJ p l e R s m args below meth c (MQ below (aPost D cA ad0 A (sh, i0, lo0, rv0) none (sh, iR, lo, rv)) args s (sh.length - sh.length) (aSn sh - aSn sh) A) D cA A ad0 4 sh.length (aSn sh) 5 [some (.ref (100 + w0)), some (.int x1), some (.int x2), some (.int x3)] [] (sh, i, lo, rv) := by
  intro n
  induction n with
  | zero => intros; rename_i hf; cases hf
  | succ n ih =>
    intro x1 x2 x3 i hG hf
    rw [fJ7_fill_53178_5] at hf
    refine j_iload_n hX dJ7_fill_53178_5 rfl ?_
    refine j_iload_n hX dJ7_fill_53178_6 rfl ?_
    refine j_icmp_ge (tgt := 20) hX dJ7_fill_53178_7 (by decide) (fun hc => ?_) (fun hc => ?_)
    · have hf := ifp hc hf
      cases hf
      exact j_vret hX hr hlk dJ7_fill_53178_20
    · have hf := ifn hc hf
      refine j_aload_n hX dJ7_fill_53178_10 rfl ?_
      refine j_iload_n hX dJ7_fill_53178_11 rfl ?_
      refine j_iload_n hX dJ7_fill_53178_12 rfl ?_
      obtain ⟨hg, hf⟩ := gd hf
      have hf := ltd hf
      refine j_iast hX h0 hg dJ7_fill_53178_13 ?_
      refine j_iinc hX dJ7_fill_53178_14 rfl (congrArg (_ + ·) ic_1) (by decide) rfl ?_
      refine j_goto (tgt := 5) hX dJ7_fill_53178_17 (by decide) ?_
      exact aJx (ih _ _ _ _ hG  hf) (And.intro rfl (And.intro rfl (And.intro rfl (And.intro rfl (rfl)))))
def fJ7_fill_53178 (w0 : Nat) (n0 : Nat) (a1 : Int32) (i : Nat → Nat → Int32) : Option ((Nat → Nat → Int32)) := fJ7_fill_53178_5 w0 n0 fuel a1 0 (nI n0) i
theorem kJ7_fill_53178  {w0 : Nat} {n0 : Nat} {iR : Nat → Nat → Int32} (hX : aX p s m args c RJ7 cJ7_fill_53178 4 D cA A ad0) (hr : meth.sig.returnType = none) (hlk : meth.locks = false) (hRf : 0 ≤ R.frames) (hRl : 64 * 0 ≤ R.locals) (h0 : sh[w0]? = some (.inl (.int, n0))) {a1 : Int32} (hG : aGood sh rv) (hf : fJ7_fill_53178 w0 n0 a1 i = some (iR)) : aJ p l e R s m args below meth c (MQ below (aPost D cA ad0 A (sh, i0, lo0, rv0) none (sh, iR, lo, rv)) args s (sh.length - sh.length) (aSn sh - aSn sh) A) D cA A ad0 4 sh.length (aSn sh) 0 [some (.ref (100 + w0)), some (.int a1), none, none] [] (sh, i, lo, rv) := by
  unfold fJ7_fill_53178 at hf
  refine j_iconst hX dJ7_fill_53178_0 ic_0 ?_
  refine j_istore_n hX dJ7_fill_53178_1 (by decide) rfl ?_
  refine j_aload_n hX dJ7_fill_53178_2 rfl ?_
  refine j_alen (t0 := 0) hX h0 (fun _ => rfl) dJ7_fill_53178_3 ?_
  refine j_istore_n hX dJ7_fill_53178_4 (by decide) rfl ?_
  exact aJx (kJ7_fill_53178_5 hX hr hlk hRf hRl h0 fuel _ _ _ _ hG  hf) (And.intro rfl (And.intro rfl (And.intro rfl (And.intro rfl (rfl)))))
theorem okJ7_fill_53178 {l : Launch} {sh : List aSh} {i : Nat → Nat → Int32} {lo : Nat → Nat → Int64} {rv : Nat → Nat → Option Nat}  {w0 : Nat} {n0 : Nat} {a1 : Int32} {iR : Nat → Nat → Int32} (hG : aGood sh rv) (h0 : sh[w0]? = some (.inl (.int, n0))) (hf : fJ7_fill_53178 w0 n0 a1 i = some (iR)) : aM l yJ7_fill_53178 cJ7_fill_53178 4 none 0 [.ref (100 + w0), .int a1] (sh, i, lo, rv) none (sh, iR, lo, rv) :=
  aM_of (by decide) (Nat.le_of_ble_eq_true rfl) (Nat.le_refl _) (Nat.le_refl _) (fun p e s m args below meth c D cA A ad0 hX hr hlk hnm => kJ7_fill_53178 hX hr hlk (Nat.le_refl _) (Nat.le_refl _) h0 hG hf)
def fX1_sleepers (p0 : Nat) (i : Nat → Nat → Int32) : Option ((Int32)) := some ((i p0 3))
theorem kX1_sleepers  {p0 : Nat} {vR : Int32} (hX : aX p s m args c RX1 cX1_sleepers 1 D cA A ad0) (hr : meth.sig.returnType = (some .int)) (hlk : meth.locks = false) (hRf : 0 ≤ R.frames) (hRl : 64 * 0 ≤ R.locals) (h0 : isCar sh rv p0) (hG : aGood sh rv) (hf : fX1_sleepers p0 i = some (vR)) : aJ p l e R s m args below meth c (MQ below (aPost D cA ad0 A (sh, i0, lo0, rv0) (some (.int vR)) (sh, i, lo, rv)) args s (sh.length - sh.length) (aSn sh - aSn sh) A) D cA A ad0 1 sh.length (aSn sh) 0 [some (.ref (100 + p0))] [] (sh, i, lo, rv) := by
  unfold fX1_sleepers at hf
  refine j_aload_n hX dX1_sleepers_0 rfl ?_
  refine j_getI (k := 3) hX kX1 (by decide) fk_X1_21 dX1_sleepers_1 h0.1 rfl ?_
  cases hf
  exact j_ret hX hr hlk rfl dX1_sleepers_4
theorem okX1_sleepers {l : Launch} {sh : List aSh} {i : Nat → Nat → Int32} {lo : Nat → Nat → Int64} {rv : Nat → Nat → Option Nat}  {p0 : Nat} {vR : Int32} (hG : aGood sh rv) (h0 : isCar sh rv p0) (hf : fX1_sleepers p0 i = some (vR)) : aM l yX1_sleepers cX1_sleepers 1 (some .int) 0 [.ref (100 + p0)] (sh, i, lo, rv) (some (.int vR)) (sh, i, lo, rv) :=
  aM_of (by decide) (Nat.le_of_ble_eq_true rfl) (Nat.le_refl _) (Nat.le_refl _) (fun p e s m args below meth c D cA A ad0 hX hr hlk hnm => kX1_sleepers hX hr hlk (Nat.le_refl _) (Nat.le_refl _) h0 hG hf)
def fX1_ruleOf (p0 : Nat) (a1 : Int32) (i : Nat → Nat → Int32) : Option ((Int32)) := if aIn a1 4 = true then
    (some ((i (p0 + 1) (a1 : Int32).toNatClampNeg))) else none
theorem kX1_ruleOf  {p0 : Nat} {vR : Int32} (hX : aX p s m args c RX1 cX1_ruleOf 2 D cA A ad0) (hr : meth.sig.returnType = (some .int)) (hlk : meth.locks = false) (hRf : 0 ≤ R.frames) (hRl : 64 * 0 ≤ R.locals) (h0 : isCar sh rv p0) {a1 : Int32} (hG : aGood sh rv) (hf : fX1_ruleOf p0 a1 i = some (vR)) : aJ p l e R s m args below meth c (MQ below (aPost D cA ad0 A (sh, i0, lo0, rv0) (some (.int vR)) (sh, i, lo, rv)) args s (sh.length - sh.length) (aSn sh - aSn sh) A) D cA A ad0 2 sh.length (aSn sh) 0 [some (.ref (100 + p0)), some (.int a1)] [] (sh, i, lo, rv) := by
  unfold fX1_ruleOf at hf
  refine j_aload_n hX dX1_ruleOf_0 rfl ?_
  refine j_getR (k := 0) hX kX1 (by decide) fk_X1_11 h0.2.2.2.2.1 dX1_ruleOf_1 h0.1 rfl ?_
  refine j_iload_n hX dX1_ruleOf_4 rfl ?_
  obtain ⟨hg, hf⟩ := gd hf
  refine j_iald hX h0.2.1 hg dX1_ruleOf_5 ?_
  cases hf
  exact j_ret hX hr hlk rfl dX1_ruleOf_6
theorem okX1_ruleOf {l : Launch} {sh : List aSh} {i : Nat → Nat → Int32} {lo : Nat → Nat → Int64} {rv : Nat → Nat → Option Nat}  {p0 : Nat} {a1 : Int32} {vR : Int32} (hG : aGood sh rv) (h0 : isCar sh rv p0) (hf : fX1_ruleOf p0 a1 i = some (vR)) : aM l yX1_ruleOf cX1_ruleOf 2 (some .int) 0 [.ref (100 + p0), .int a1] (sh, i, lo, rv) (some (.int vR)) (sh, i, lo, rv) :=
  aM_of (by decide) (Nat.le_of_ble_eq_true rfl) (Nat.le_refl _) (Nat.le_refl _) (fun p e s m args below meth c D cA A ad0 hX hr hlk hnm => kX1_ruleOf hX hr hlk (Nat.le_refl _) (Nat.le_refl _) h0 hG hf)
def fX8_begin_60 (p0 : Nat) (p1 : Nat) (kh12 : Int32 → Int32 → (Nat → Nat → Int32) → Option ((Nat → Nat → Int32))) (x2 : Int32) (x3 : Int32) (i : Nat → Nat → Int32) : Option ((Nat → Nat → Int32)) := kh12 x2 (x3 + 1) i
theorem kX8_begin_60  {p0 : Nat} {p1 : Nat} {iR : Nat → Nat → Int32} (hX : aX p s m args c RX8 cX8_begin 4 D cA A ad0) (hr : meth.sig.returnType = none) (hlk : meth.locks = false) (hRf : 2 ≤ R.frames) (hRl : 64 * 2 ≤ R.locals) (h0 : isScn sh rv p0) (h1 : isCar sh rv p1) {kh12 : Int32 → Int32 → (Nat → Nat → Int32) → Option ((Nat → Nat → Int32))} (Hkh12 : ∀ (x2 : Int32) (x3 : Int32) (i : Nat → Nat → Int32), aGood sh rv → kh12 x2 x3 i = some (iR) → aJ p l e R s m args below meth c (MQ below (aPost D cA ad0 A (sh, i0, lo0, rv0) none (sh, iR, lo, rv)) args s (sh.length - sh.length) (aSn sh - aSn sh) A) D cA A ad0 4 sh.length (aSn sh) 12 [some (.ref (100 + p0)), some (.ref (100 + p1)), some (.int x2), some (.int x3)] [] (sh, i, lo, rv)) {x2 : Int32} {x3 : Int32} (hG : aGood sh rv) (hf : fX8_begin_60 p0 p1 kh12 x2 x3 i = some (iR)) : aJ p l e R s m args below meth c (MQ below (aPost D cA ad0 A (sh, i0, lo0, rv0) none (sh, iR, lo, rv)) args s (sh.length - sh.length) (aSn sh - aSn sh) A) D cA A ad0 4 sh.length (aSn sh) 60 [some (.ref (100 + p0)), some (.ref (100 + p1)), some (.int x2), some (.int x3)] [] (sh, i, lo, rv) := by
  unfold fX8_begin_60 at hf
  refine j_iinc hX dX8_begin_60 rfl (congrArg (_ + ·) ic_1) (by decide) rfl ?_
  refine j_goto (tgt := 12) hX dX8_begin_63 (by decide) ?_
  exact aJx (Hkh12 _ _ _ hG  hf) (And.intro rfl (And.intro rfl (And.intro rfl (And.intro rfl (rfl)))))
def fX8_begin_12 (p0 : Nat) (p1 : Nat) : Nat → Int32 → Int32 → (Nat → Nat → Int32) → Option ((Nat → Nat → Int32))
  | 0, _, _, _ => none
  | n + 1, x2, x3, i => bn1 (fX1_sleepers p1 i) fun v3 =>
    if v3 ≤ x3 then (bn1 (fX1_ruleOf p1 2 i) fun v5 =>
    if aIn 54 56 = true then
    (lt (u2 i (p0 + 1) (54 : Int32).toNatClampNeg v5) fun i7 => some (i7)) else none) else (if aIn ((0 : Int32) + x3) 56 = true then
    (lt (u2 i (p0 + 1) (((0 : Int32) + x3) : Int32).toNatClampNeg x3) fun i8 => if aIn ((27 : Int32) + x3) 56 = true then
    (lt (u2 i8 (p0 + 1) (((27 : Int32) + x3) : Int32).toNatClampNeg 1) fun i9 => bn1 (fX1_hasPaper p1 x3 i9) fun v10 =>
    if v10 = 0 then (fX8_begin_60 p0 p1 (fX8_begin_12 p0 p1 n) x2 x3 i9) else (if aIn ((9 : Int32) + x2) 56 = true then
    (lt (u2 i9 (p0 + 1) (((9 : Int32) + x2) : Int32).toNatClampNeg x3) fun i12 => fX8_begin_60 p0 p1 (fX8_begin_12 p0 p1 n) (x2 + 1) x3 i12) else none)) else none) else none)
theorem kX8_begin_12  {p0 : Nat} {p1 : Nat} {iR : Nat → Nat → Int32} (hX : aX p s m args c RX8 cX8_begin 4 D cA A ad0) (hr : meth.sig.returnType = none) (hlk : meth.locks = false) (hRf : 2 ≤ R.frames) (hRl : 64 * 2 ≤ R.locals) (h0 : isScn sh rv p0) (h1 : isCar sh rv p1) : ∀ (n : Nat) (x2 : Int32) (x3 : Int32) (i : Nat → Nat → Int32), aGood sh rv → fX8_begin_12 p0 p1 n x2 x3 i = some (iR) → aJ p l e R s m args below meth c (MQ below (aPost D cA ad0 A (sh, i0, lo0, rv0) none (sh, iR, lo, rv)) args s (sh.length - sh.length) (aSn sh - aSn sh) A) D cA A ad0 4 sh.length (aSn sh) 12 [some (.ref (100 + p0)), some (.ref (100 + p1)), some (.int x2), some (.int x3)] [] (sh, i, lo, rv) := by
  intro n
  induction n with
  | zero => intros; rename_i hf; cases hf
  | succ n ih =>
    intro x2 x3 i hG hf
    rw [fX8_begin_12] at hf
    refine j_iload_n hX dX8_begin_12 rfl ?_
    refine j_aload_n hX dX8_begin_13 rfl ?_
    obtain ⟨v3, hh4, hf⟩ := bd1 hf
    refine j_cV0i hX lk_X8_21 kX1 dX8_begin_14 h1.1 (okX1_sleepers hG h1 hh4) rfl rfl (rmm (by omega) hRf hRl (by decide)) (Nat.le_of_ble_eq_true rfl) (Nat.le_add_right _ _) (Nat.le_add_right _ _) ?_
    refine j_icmp_ge (tgt := 66) hX dX8_begin_17 (by decide) (fun hc => ?_) (fun hc => ?_)
    · have hf := ifp hc hf
      refine j_aload_n hX dX8_begin_66 rfl ?_
      refine j_getR (k := 0) hX kX8 (by decide) fk_X8_11 h0.2.2 dX8_begin_67 h0.1 rfl ?_
      refine j_bipush hX dX8_begin_70 bp_54 ?_
      refine j_aload_n hX dX8_begin_72 rfl ?_
      refine j_iconst hX dX8_begin_73 ic_2 ?_
      refine jpc (b := 74) rfl ?_
      obtain ⟨v5, hh6, hf⟩ := bd1 hf
      refine j_cV1i hX lk_X8_31 kX1 dX8_begin_74 h1.1 (okX1_ruleOf hG h1 hh6) rfl rfl (rmm (by omega) hRf hRl (by decide)) (Nat.le_of_ble_eq_true rfl) (Nat.le_add_right _ _) (Nat.le_add_right _ _) ?_
      obtain ⟨hg, hf⟩ := gd hf
      have hf := ltd hf
      refine j_iast hX h0.2.1 hg dX8_begin_77 ?_
      cases hf
      exact j_vret hX hr hlk dX8_begin_78
    · have hf := ifn hc hf
      refine j_aload_n hX dX8_begin_20 rfl ?_
      refine j_getR (k := 0) hX kX8 (by decide) fk_X8_11 h0.2.2 dX8_begin_21 h0.1 rfl ?_
      refine j_iconst hX dX8_begin_24 ic_0 ?_
      refine j_iload_n hX dX8_begin_25 rfl ?_
      refine j_iadd hX dX8_begin_26 ?_
      refine jpc (b := 27) rfl ?_
      refine j_iload_n hX dX8_begin_27 rfl ?_
      obtain ⟨hg, hf⟩ := gd hf
      have hf := ltd hf
      refine j_iast hX h0.2.1 hg dX8_begin_28 ?_
      refine j_aload_n hX dX8_begin_29 rfl ?_
      refine j_getR (k := 0) hX kX8 (by decide) fk_X8_11 h0.2.2 dX8_begin_30 h0.1 rfl ?_
      refine j_bipush hX dX8_begin_33 bp_27 ?_
      refine j_iload_n hX dX8_begin_35 rfl ?_
      refine j_iadd hX dX8_begin_36 ?_
      refine jpc (b := 37) rfl ?_
      refine j_iconst hX dX8_begin_37 ic_1 ?_
      obtain ⟨hg, hf⟩ := gd hf
      have hf := ltd hf
      refine j_iast hX h0.2.1 hg dX8_begin_38 ?_
      refine j_aload_n hX dX8_begin_39 rfl ?_
      refine j_iload_n hX dX8_begin_40 rfl ?_
      obtain ⟨v10, hh11, hf⟩ := bd1 hf
      refine j_cV1i hX lk_X8_27 kX1 dX8_begin_41 h1.1 (okX1_hasPaper hG h1 hh11) rfl rfl (rmm (by omega) hRf hRl (by decide)) (Nat.le_of_ble_eq_true rfl) (Nat.le_add_right _ _) (Nat.le_add_right _ _) ?_
      refine j_if_eq (tgt := 60) hX dX8_begin_44 (by decide) (fun hc => ?_) (fun hc => ?_)
      · have hf := ifp hc hf
        exact aJx (kX8_begin_60 hX hr hlk hRf hRl h0 h1 ih hG  hf) (And.intro rfl (And.intro rfl (And.intro rfl (And.intro rfl (rfl)))))
      · have hf := ifn hc hf
        refine j_aload_n hX dX8_begin_47 rfl ?_
        refine j_getR (k := 0) hX kX8 (by decide) fk_X8_11 h0.2.2 dX8_begin_48 h0.1 rfl ?_
        refine j_bipush hX dX8_begin_51 bp_9 ?_
        refine j_iload_n hX dX8_begin_53 rfl ?_
        refine j_iadd hX dX8_begin_54 ?_
        refine jpc (b := 55) rfl ?_
        refine j_iload_n hX dX8_begin_55 rfl ?_
        obtain ⟨hg, hf⟩ := gd hf
        have hf := ltd hf
        refine j_iast hX h0.2.1 hg dX8_begin_56 ?_
        refine j_iinc hX dX8_begin_57 rfl (congrArg (_ + ·) ic_1) (by decide) rfl ?_
        exact aJx (kX8_begin_60 hX hr hlk hRf hRl h0 h1 ih hG  hf) (And.intro rfl (And.intro rfl (And.intro rfl (And.intro rfl (rfl)))))
def fX8_begin (p0 : Nat) (p1 : Nat) (i : Nat → Nat → Int32) : Option ((Nat → Nat → Int32)) := bn1 (fJ7_fill_53178 (p0 + 1) 56 0 i) fun i1 =>
    fX8_begin_12 p0 p1 fuel 0 0 i1
theorem kX8_begin  {p0 : Nat} {p1 : Nat} {iR : Nat → Nat → Int32} (hX : aX p s m args c RX8 cX8_begin 4 D cA A ad0) (hr : meth.sig.returnType = none) (hlk : meth.locks = false) (hRf : 2 ≤ R.frames) (hRl : 64 * 2 ≤ R.locals) (h0 : isScn sh rv p0) (h1 : isCar sh rv p1) (hG : aGood sh rv) (hf : fX8_begin p0 p1 i = some (iR)) : aJ p l e R s m args below meth c (MQ below (aPost D cA ad0 A (sh, i0, lo0, rv0) none (sh, iR, lo, rv)) args s (sh.length - sh.length) (aSn sh - aSn sh) A) D cA A ad0 4 sh.length (aSn sh) 0 [some (.ref (100 + p0)), some (.ref (100 + p1)), none, none] [] (sh, i, lo, rv) := by
  unfold fX8_begin at hf
  refine j_aload_n hX dX8_begin_0 rfl ?_
  refine j_getR (k := 0) hX kX8 (by decide) fk_X8_11 h0.2.2 dX8_begin_1 h0.1 rfl ?_
  refine j_iconst hX dX8_begin_4 ic_0 ?_
  obtain ⟨i1, hh2, hf⟩ := bd1 hf
  refine j_cS2v hX lk_X8_15 dX8_begin_5 (okJ7_fill_53178 hG h0.2.1 hh2) rfl rfl (rmm (by omega) hRf hRl (by decide)) (Nat.le_of_ble_eq_true rfl) (Nat.le_add_right _ _) (Nat.le_add_right _ _) ?_
  refine j_iconst hX dX8_begin_8 ic_0 ?_
  refine jpc (b := 9) rfl ?_
  refine j_istore_n hX dX8_begin_9 (by decide) rfl ?_
  refine j_iconst hX dX8_begin_10 ic_0 ?_
  refine j_istore_n hX dX8_begin_11 (by decide) rfl ?_
  exact aJx (kX8_begin_12 hX hr hlk hRf hRl h0 h1 fuel _ _ _ hG  hf) (And.intro rfl (And.intro rfl (And.intro rfl (And.intro rfl (rfl)))))
theorem okX8_begin {l : Launch} {sh : List aSh} {i : Nat → Nat → Int32} {lo : Nat → Nat → Int64} {rv : Nat → Nat → Option Nat}  {p0 : Nat} {p1 : Nat} {iR : Nat → Nat → Int32} (hG : aGood sh rv) (h0 : isScn sh rv p0) (h1 : isCar sh rv p1) (hf : fX8_begin p0 p1 i = some (iR)) : aM l yX8_begin cX8_begin 4 none 2 [.ref (100 + p0), .ref (100 + p1)] (sh, i, lo, rv) none (sh, iR, lo, rv) :=
  aM_of (by decide) (Nat.le_of_ble_eq_true rfl) (Nat.le_refl _) (Nat.le_refl _) (fun p e s m args below meth c D cA A ad0 hX hr hlk hnm => kX8_begin hX hr hlk (Nat.le_refl _) (Nat.le_refl _) h0 h1 hG hf)
def fX6_clear (i : Nat → Nat → Int32) : Option ((Nat → Nat → Int32)) := lt (u2 i 25 5 0) fun i1 =>
    lt (u2 i1 25 6 0) fun i2 =>
    some (i2)
theorem kX6_clear  {iR : Nat → Nat → Int32} (hX : aX p s m args c RX6 cX6_clear 1 D cA A ad0) (hr : meth.sig.returnType = none) (hlk : meth.locks = false) (hRf : 0 ≤ R.frames) (hRl : 64 * 0 ≤ R.locals) (hG : aGood sh rv) (hf : fX6_clear i = some (iR)) : aJ p l e R s m args below meth c (MQ below (aPost D cA ad0 A (sh, i0, lo0, rv0) none (sh, iR, lo, rv)) args s (sh.length - sh.length) (aSn sh - aSn sh) A) D cA A ad0 1 sh.length (aSn sh) 0 [some (.ref (100 + 25))] [] (sh, i, lo, rv) := by
  unfold fX6_clear at hf
  refine j_aload_n hX dX6_clear_0 rfl ?_
  refine j_iconst hX dX6_clear_1 ic_0 ?_
  have hf := ltd hf
  refine j_putI (k := 5) hX kX6 (by decide) fk_X6_24 dX6_clear_2 (sh_25 hG) rfl rfl rfl rfl ?_
  refine j_aload_n hX dX6_clear_5 rfl ?_
  refine j_iconst hX dX6_clear_6 ic_0 ?_
  refine jpc (b := 7) rfl ?_
  have hf := ltd hf
  refine j_putI (k := 6) hX kX6 (by decide) fk_X6_28 dX6_clear_7 (sh_25 hG) rfl rfl rfl rfl ?_
  cases hf
  exact j_vret hX hr hlk dX6_clear_10
theorem okX6_clear {l : Launch} {sh : List aSh} {i : Nat → Nat → Int32} {lo : Nat → Nat → Int64} {rv : Nat → Nat → Option Nat}  {iR : Nat → Nat → Int32} (hG : aGood sh rv) (hf : fX6_clear i = some (iR)) : aM l yX6_clear cX6_clear 1 none 0 [.ref (100 + 25)] (sh, i, lo, rv) none (sh, iR, lo, rv) :=
  aM_of (by decide) (Nat.le_of_ble_eq_true rfl) (Nat.le_refl _) (Nat.le_refl _) (fun p e s m args below meth c D cA A ad0 hX hr hlk hnm => kX6_clear hX hr hlk (Nat.le_refl _) (Nat.le_refl _) hG hf)
def fX2_clear (i : Nat → Nat → Int32) : Option ((Nat → Nat → Int32)) := lt (u2 i 45 7 0) fun i1 =>
    lt (u2 i1 45 8 0) fun i2 =>
    some (i2)
theorem kX2_clear  {iR : Nat → Nat → Int32} (hX : aX p s m args c RX2 cX2_clear 1 D cA A ad0) (hr : meth.sig.returnType = none) (hlk : meth.locks = false) (hRf : 0 ≤ R.frames) (hRl : 64 * 0 ≤ R.locals) (hG : aGood sh rv) (hf : fX2_clear i = some (iR)) : aJ p l e R s m args below meth c (MQ below (aPost D cA ad0 A (sh, i0, lo0, rv0) none (sh, iR, lo, rv)) args s (sh.length - sh.length) (aSn sh - aSn sh) A) D cA A ad0 1 sh.length (aSn sh) 0 [some (.ref (100 + 45))] [] (sh, i, lo, rv) := by
  unfold fX2_clear at hf
  refine j_aload_n hX dX2_clear_0 rfl ?_
  refine j_iconst hX dX2_clear_1 ic_0 ?_
  have hf := ltd hf
  refine j_putI (k := 7) hX kX2 (by decide) fk_X2_37 dX2_clear_2 (sh_45 hG) rfl rfl rfl rfl ?_
  refine j_aload_n hX dX2_clear_5 rfl ?_
  refine j_iconst hX dX2_clear_6 ic_0 ?_
  refine jpc (b := 7) rfl ?_
  have hf := ltd hf
  refine j_putI (k := 8) hX kX2 (by decide) fk_X2_41 dX2_clear_7 (sh_45 hG) rfl rfl rfl rfl ?_
  cases hf
  exact j_vret hX hr hlk dX2_clear_10
theorem okX2_clear {l : Launch} {sh : List aSh} {i : Nat → Nat → Int32} {lo : Nat → Nat → Int64} {rv : Nat → Nat → Option Nat}  {iR : Nat → Nat → Int32} (hG : aGood sh rv) (hf : fX2_clear i = some (iR)) : aM l yX2_clear cX2_clear 1 none 0 [.ref (100 + 45)] (sh, i, lo, rv) none (sh, iR, lo, rv) :=
  aM_of (by decide) (Nat.le_of_ble_eq_true rfl) (Nat.le_refl _) (Nat.le_refl _) (fun p e s m args below meth c D cA A ad0 hX hr hlk hnm => kX2_clear hX hr hlk (Nat.le_refl _) (Nat.le_refl _) hG hf)
def fX11_board (i : Nat → Nat → Int32) : Option ((Int32) × (Nat → Nat → Int32)) := bn1 (fX1_copyFrom 15 11 i) fun i1 =>
    bn1 (fX8_begin 19 15 i1) fun i3 =>
    bn1 (fX6_clear i3) fun i5 =>
    bn1 (fX2_clear i5) fun i7 =>
    bn1 (fX1_sleepers 15 i7) fun v9 =>
    some (v9, i7)
theorem kX11_board  {vR : Int32} {iR : Nat → Nat → Int32} (hX : aX p s m args c RX11 cX11_board 1 D cA A ad0) (hr : meth.sig.returnType = (some .int)) (hlk : meth.locks = false) (hRf : 3 ≤ R.frames) (hRl : 64 * 3 ≤ R.locals) (hG : aGood sh rv) (hf : fX11_board i = some (vR, iR)) : aJ p l e R s m args below meth c (MQ below (aPost D cA ad0 A (sh, i0, lo0, rv0) (some (.int vR)) (sh, iR, lo, rv)) args s (sh.length - sh.length) (aSn sh - aSn sh) A) D cA A ad0 1 sh.length (aSn sh) 0 [some (.ref (100 + 0))] [] (sh, i, lo, rv) := by
  unfold fX11_board at hf
  refine j_aload_n hX dX11_board_0 rfl ?_
  refine j_getR (k := 3) hX kX11 (by decide) fk_X11_30 (rf_0_3 hG) dX11_board_1 (sh_0 hG) rfl ?_
  refine j_aload_n hX dX11_board_4 rfl ?_
  refine j_getR (k := 2) hX kX11 (by decide) fk_X11_26 (rf_0_2 hG) dX11_board_5 (sh_0 hG) rfl ?_
  obtain ⟨i1, hh2, hf⟩ := bd1 hf
  refine j_cV1v hX lk_X11_352 kX1 dX11_board_8 (sh_15 hG) (okX1_copyFrom hG (cr_15 hG) (cr_11 hG) hh2) rfl rfl (rmm (by omega) hRf hRl (by decide)) (Nat.le_of_ble_eq_true rfl) (Nat.le_add_right _ _) (Nat.le_add_right _ _) ?_
  refine jpc (b := 11) rfl ?_
  refine j_aload_n hX dX11_board_11 rfl ?_
  refine j_getR (k := 4) hX kX11 (by decide) fk_X11_36 (rf_0_4 hG) dX11_board_12 (sh_0 hG) rfl ?_
  refine j_aload_n hX dX11_board_15 rfl ?_
  refine j_getR (k := 3) hX kX11 (by decide) fk_X11_30 (rf_0_3 hG) dX11_board_16 (sh_0 hG) rfl ?_
  obtain ⟨i3, hh4, hf⟩ := bd1 hf
  refine j_cV1v hX lk_X11_354 kX8 dX11_board_19 (sh_19 hG) (okX8_begin hG (sc_19 hG) (cr_15 hG) hh4) rfl rfl (rmm (by omega) hRf hRl (by decide)) (Nat.le_of_ble_eq_true rfl) (Nat.le_add_right _ _) (Nat.le_add_right _ _) ?_
  refine j_aload_n hX dX11_board_22 rfl ?_
  refine jpc (b := 23) rfl ?_
  refine j_getR (k := 7) hX kX11 (by decide) fk_X11_55 (rf_0_7 hG) dX11_board_23 (sh_0 hG) rfl ?_
  obtain ⟨i5, hh6, hf⟩ := bd1 hf
  refine j_cV0v hX lk_X11_357 kX6 dX11_board_26 (sh_25 hG) (okX6_clear hG hh6) rfl rfl (rmm (by omega) hRf hRl (by decide)) (Nat.le_of_ble_eq_true rfl) (Nat.le_add_right _ _) (Nat.le_add_right _ _) ?_
  refine j_aload_n hX dX11_board_29 rfl ?_
  refine j_getR (k := 10) hX kX11 (by decide) fk_X11_78 (rf_0_10 hG) dX11_board_30 (sh_0 hG) rfl ?_
  obtain ⟨i7, hh8, hf⟩ := bd1 hf
  refine j_cV0v hX lk_X11_360 kX2 dX11_board_33 (sh_45 hG) (okX2_clear hG hh8) rfl rfl (rmm (by omega) hRf hRl (by decide)) (Nat.le_of_ble_eq_true rfl) (Nat.le_add_right _ _) (Nat.le_add_right _ _) ?_
  refine j_aload_n hX dX11_board_36 rfl ?_
  refine jpc (b := 37) rfl ?_
  refine j_getR (k := 3) hX kX11 (by decide) fk_X11_30 (rf_0_3 hG) dX11_board_37 (sh_0 hG) rfl ?_
  obtain ⟨v9, hh10, hf⟩ := bd1 hf
  refine j_cV0i hX lk_X11_282 kX1 dX11_board_40 (sh_15 hG) (okX1_sleepers hG (cr_15 hG) hh10) rfl rfl (rmm (by omega) hRf hRl (by decide)) (Nat.le_of_ble_eq_true rfl) (Nat.le_add_right _ _) (Nat.le_add_right _ _) ?_
  cases hf
  exact j_ret hX hr hlk rfl dX11_board_43
theorem okX11_board {l : Launch} {sh : List aSh} {i : Nat → Nat → Int32} {lo : Nat → Nat → Int64} {rv : Nat → Nat → Option Nat}  {vR : Int32} {iR : Nat → Nat → Int32} (hG : aGood sh rv) (hf : fX11_board i = some (vR, iR)) : aM l yX11_board cX11_board 1 (some .int) 3 [.ref (100 + 0)] (sh, i, lo, rv) (some (.int vR)) (sh, iR, lo, rv) :=
  aM_of (by decide) (Nat.le_of_ble_eq_true rfl) (Nat.le_refl _) (Nat.le_refl _) (fun p e s m args below meth c D cA A ad0 hX hr hlk hnm => kX11_board hX hr hlk (Nat.le_refl _) (Nat.le_refl _) hG hf)
def fX11_noCar (i : Nat → Nat → Int32) : Option ((Int32)) := bn1 (fX1_sleepers 15 i) fun v1 =>
    if v1 = 0 then (some (1)) else (some (0))
theorem kX11_noCar  {vR : Int32} (hX : aX p s m args c RX11 cX11_noCar 1 D cA A ad0) (hr : meth.sig.returnType = (some .boolean)) (hlk : meth.locks = false) (hRf : 1 ≤ R.frames) (hRl : 64 * 1 ≤ R.locals) (hG : aGood sh rv) (hf : fX11_noCar i = some (vR)) : aJ p l e R s m args below meth c (MQ below (aPost D cA ad0 A (sh, i0, lo0, rv0) (some (.int vR)) (sh, i, lo, rv)) args s (sh.length - sh.length) (aSn sh - aSn sh) A) D cA A ad0 1 sh.length (aSn sh) 0 [some (.ref (100 + 0))] [] (sh, i, lo, rv) := by
  unfold fX11_noCar at hf
  refine j_aload_n hX dX11_noCar_0 rfl ?_
  refine j_getR (k := 3) hX kX11 (by decide) fk_X11_30 (rf_0_3 hG) dX11_noCar_1 (sh_0 hG) rfl ?_
  obtain ⟨v1, hh2, hf⟩ := bd1 hf
  refine j_cV0i hX lk_X11_282 kX1 dX11_noCar_4 (sh_15 hG) (okX1_sleepers hG (cr_15 hG) hh2) rfl rfl (rmm (by omega) hRf hRl (by decide)) (Nat.le_of_ble_eq_true rfl) (Nat.le_add_right _ _) (Nat.le_add_right _ _) ?_
  refine j_if_ne (tgt := 14) hX dX11_noCar_7 (by decide) (fun hc => ?_) (fun hc => ?_)
  · have hf := ifn hc hf
    refine j_iconst hX dX11_noCar_14 ic_0 ?_
    cases hf
    exact j_ret hX hr hlk rfl dX11_noCar_15
  · have hf := ifp hc hf
    refine j_iconst hX dX11_noCar_10 ic_1 ?_
    refine j_goto (tgt := 15) hX dX11_noCar_11 (by decide) ?_
    cases hf
    exact j_ret hX hr hlk rfl dX11_noCar_15
theorem okX11_noCar {l : Launch} {sh : List aSh} {i : Nat → Nat → Int32} {lo : Nat → Nat → Int64} {rv : Nat → Nat → Option Nat}  {vR : Int32} (hG : aGood sh rv) (hf : fX11_noCar i = some (vR)) : aM l yX11_noCar cX11_noCar 1 (some .boolean) 1 [.ref (100 + 0)] (sh, i, lo, rv) (some (.int vR)) (sh, i, lo, rv) :=
  aM_of (by decide) (Nat.le_of_ble_eq_true rfl) (Nat.le_refl _) (Nat.le_refl _) (fun p e s m args below meth c D cA A ad0 hX hr hlk hnm => kX11_noCar hX hr hlk (Nat.le_refl _) (Nat.le_refl _) hG hf)
def fX8_coffees (p0 : Nat) (i : Nat → Nat → Int32) : Option ((Int32)) := if aIn 54 56 = true then
    (some ((i (p0 + 1) (54 : Int32).toNatClampNeg))) else none
theorem kX8_coffees  {p0 : Nat} {vR : Int32} (hX : aX p s m args c RX8 cX8_coffees 1 D cA A ad0) (hr : meth.sig.returnType = (some .int)) (hlk : meth.locks = false) (hRf : 0 ≤ R.frames) (hRl : 64 * 0 ≤ R.locals) (h0 : isScn sh rv p0) (hG : aGood sh rv) (hf : fX8_coffees p0 i = some (vR)) : aJ p l e R s m args below meth c (MQ below (aPost D cA ad0 A (sh, i0, lo0, rv0) (some (.int vR)) (sh, i, lo, rv)) args s (sh.length - sh.length) (aSn sh - aSn sh) A) D cA A ad0 1 sh.length (aSn sh) 0 [some (.ref (100 + p0))] [] (sh, i, lo, rv) := by
  unfold fX8_coffees at hf
  refine j_aload_n hX dX8_coffees_0 rfl ?_
  refine j_getR (k := 0) hX kX8 (by decide) fk_X8_11 h0.2.2 dX8_coffees_1 h0.1 rfl ?_
  refine j_bipush hX dX8_coffees_4 bp_54 ?_
  obtain ⟨hg, hf⟩ := gd hf
  refine j_iald hX h0.2.1 hg dX8_coffees_6 ?_
  cases hf
  exact j_ret hX hr hlk rfl dX8_coffees_7
theorem okX8_coffees {l : Launch} {sh : List aSh} {i : Nat → Nat → Int32} {lo : Nat → Nat → Int64} {rv : Nat → Nat → Option Nat}  {p0 : Nat} {vR : Int32} (hG : aGood sh rv) (h0 : isScn sh rv p0) (hf : fX8_coffees p0 i = some (vR)) : aM l yX8_coffees cX8_coffees 1 (some .int) 0 [.ref (100 + p0)] (sh, i, lo, rv) (some (.int vR)) (sh, i, lo, rv) :=
  aM_of (by decide) (Nat.le_of_ble_eq_true rfl) (Nat.le_refl _) (Nat.le_refl _) (fun p e s m args below meth c D cA A ad0 hX hr hlk hnm => kX8_coffees hX hr hlk (Nat.le_refl _) (Nat.le_refl _) h0 hG hf)
def fX11_rule (a1 : Int32) (i : Nat → Nat → Int32) : Option ((Int32)) := bn1 (fX11_noCar i) fun v1 =>
    if v1 = 0 then (if a1 < 0 then (some ((-1))) else (if a1 < 4 then (if a1 = 2 then (bn1 (fX8_coffees 19 i) fun v5 =>
    some (v5)) else (bn1 (fX1_ruleOf 15 a1 i) fun v3 =>
    some (v3))) else (some ((-1))))) else (some ((-1)))
theorem kX11_rule  {vR : Int32} (hX : aX p s m args c RX11 cX11_rule 2 D cA A ad0) (hr : meth.sig.returnType = (some .int)) (hlk : meth.locks = false) (hRf : 2 ≤ R.frames) (hRl : 64 * 2 ≤ R.locals) {a1 : Int32} (hG : aGood sh rv) (hf : fX11_rule a1 i = some (vR)) : aJ p l e R s m args below meth c (MQ below (aPost D cA ad0 A (sh, i0, lo0, rv0) (some (.int vR)) (sh, i, lo, rv)) args s (sh.length - sh.length) (aSn sh - aSn sh) A) D cA A ad0 2 sh.length (aSn sh) 0 [some (.ref (100 + 0)), some (.int a1)] [] (sh, i, lo, rv) := by
  unfold fX11_rule at hf
  refine j_aload_n hX dX11_rule_0 rfl ?_
  obtain ⟨v1, hh2, hf⟩ := bd1 hf
  refine j_cV0i hX lk_X11_120 kX11 dX11_rule_1 (sh_0 hG) (okX11_noCar hG hh2) rfl rfl (rmm (by omega) hRf hRl (by decide)) (Nat.le_of_ble_eq_true rfl) (Nat.le_add_right _ _) (Nat.le_add_right _ _) ?_
  refine j_if_ne (tgt := 16) hX dX11_rule_4 (by decide) (fun hc => ?_) (fun hc => ?_)
  · have hf := ifn hc hf
    refine j_iconst hX dX11_rule_16 ic_m1 ?_
    cases hf
    exact j_ret hX hr hlk rfl dX11_rule_17
  · have hf := ifp hc hf
    refine j_iload_n hX dX11_rule_7 rfl ?_
    refine j_if_lt (tgt := 16) hX dX11_rule_8 (by decide) (fun hc => ?_) (fun hc => ?_)
    · have hf := ifp hc hf
      refine j_iconst hX dX11_rule_16 ic_m1 ?_
      cases hf
      exact j_ret hX hr hlk rfl dX11_rule_17
    · have hf := ifn hc hf
      refine j_iload_n hX dX11_rule_11 rfl ?_
      refine j_iconst hX dX11_rule_12 ic_4 ?_
      refine j_icmp_lt (tgt := 18) hX dX11_rule_13 (by decide) (fun hc => ?_) (fun hc => ?_)
      · have hf := ifp hc hf
        refine j_iload_n hX dX11_rule_18 rfl ?_
        refine j_iconst hX dX11_rule_19 ic_2 ?_
        refine j_icmp_ne (tgt := 33) hX dX11_rule_20 (by decide) (fun hc => ?_) (fun hc => ?_)
        · have hf := ifn hc hf
          refine j_aload_n hX dX11_rule_33 rfl ?_
          refine j_getR (k := 3) hX kX11 (by decide) fk_X11_30 (rf_0_3 hG) dX11_rule_34 (sh_0 hG) rfl ?_
          refine j_iload_n hX dX11_rule_37 rfl ?_
          obtain ⟨v3, hh4, hf⟩ := bd1 hf
          refine j_cV1i hX lk_X11_127 kX1 dX11_rule_38 (sh_15 hG) (okX1_ruleOf hG (cr_15 hG) hh4) rfl rfl (rmm (by omega) hRf hRl (by decide)) (Nat.le_of_ble_eq_true rfl) (Nat.le_add_right _ _) (Nat.le_add_right _ _) ?_
          cases hf
          exact j_ret hX hr hlk rfl dX11_rule_41
        · have hf := ifp hc hf
          refine j_aload_n hX dX11_rule_23 rfl ?_
          refine j_getR (k := 4) hX kX11 (by decide) fk_X11_36 (rf_0_4 hG) dX11_rule_24 (sh_0 hG) rfl ?_
          obtain ⟨v5, hh6, hf⟩ := bd1 hf
          refine j_cV0i hX lk_X11_124 kX8 dX11_rule_27 (sh_19 hG) (okX8_coffees hG (sc_19 hG) hh6) rfl rfl (rmm (by omega) hRf hRl (by decide)) (Nat.le_of_ble_eq_true rfl) (Nat.le_add_right _ _) (Nat.le_add_right _ _) ?_
          refine j_goto (tgt := 41) hX dX11_rule_30 (by decide) ?_
          cases hf
          exact j_ret hX hr hlk rfl dX11_rule_41
      · have hf := ifn hc hf
        refine j_iconst hX dX11_rule_16 ic_m1 ?_
        cases hf
        exact j_ret hX hr hlk rfl dX11_rule_17
theorem okX11_rule {l : Launch} {sh : List aSh} {i : Nat → Nat → Int32} {lo : Nat → Nat → Int64} {rv : Nat → Nat → Option Nat}  {a1 : Int32} {vR : Int32} (hG : aGood sh rv) (hf : fX11_rule a1 i = some (vR)) : aM l yX11_rule cX11_rule 2 (some .int) 2 [.ref (100 + 0), .int a1] (sh, i, lo, rv) (some (.int vR)) (sh, i, lo, rv) :=
  aM_of (by decide) (Nat.le_of_ble_eq_true rfl) (Nat.le_refl _) (Nat.le_refl _) (fun p e s m args below meth c D cA A ad0 hX hr hlk hnm => kX11_rule hX hr hlk (Nat.le_refl _) (Nat.le_refl _) hG hf)
def fX8_berthOf (p0 : Nat) (a1 : Int32) (i : Nat → Nat → Int32) : Option ((Int32)) := if aIn ((0 : Int32) + a1) 56 = true then
    (some ((i (p0 + 1) (((0 : Int32) + a1) : Int32).toNatClampNeg))) else none
theorem kX8_berthOf  {p0 : Nat} {vR : Int32} (hX : aX p s m args c RX8 cX8_berthOf 2 D cA A ad0) (hr : meth.sig.returnType = (some .int)) (hlk : meth.locks = false) (hRf : 0 ≤ R.frames) (hRl : 64 * 0 ≤ R.locals) (h0 : isScn sh rv p0) {a1 : Int32} (hG : aGood sh rv) (hf : fX8_berthOf p0 a1 i = some (vR)) : aJ p l e R s m args below meth c (MQ below (aPost D cA ad0 A (sh, i0, lo0, rv0) (some (.int vR)) (sh, i, lo, rv)) args s (sh.length - sh.length) (aSn sh - aSn sh) A) D cA A ad0 2 sh.length (aSn sh) 0 [some (.ref (100 + p0)), some (.int a1)] [] (sh, i, lo, rv) := by
  unfold fX8_berthOf at hf
  refine j_aload_n hX dX8_berthOf_0 rfl ?_
  refine j_getR (k := 0) hX kX8 (by decide) fk_X8_11 h0.2.2 dX8_berthOf_1 h0.1 rfl ?_
  refine j_iconst hX dX8_berthOf_4 ic_0 ?_
  refine j_iload_n hX dX8_berthOf_5 rfl ?_
  refine j_iadd hX dX8_berthOf_6 ?_
  refine jpc (b := 7) rfl ?_
  obtain ⟨hg, hf⟩ := gd hf
  refine j_iald hX h0.2.1 hg dX8_berthOf_7 ?_
  cases hf
  exact j_ret hX hr hlk rfl dX8_berthOf_8
theorem okX8_berthOf {l : Launch} {sh : List aSh} {i : Nat → Nat → Int32} {lo : Nat → Nat → Int64} {rv : Nat → Nat → Option Nat}  {p0 : Nat} {a1 : Int32} {vR : Int32} (hG : aGood sh rv) (h0 : isScn sh rv p0) (hf : fX8_berthOf p0 a1 i = some (vR)) : aM l yX8_berthOf cX8_berthOf 2 (some .int) 0 [.ref (100 + p0), .int a1] (sh, i, lo, rv) (some (.int vR)) (sh, i, lo, rv) :=
  aM_of (by decide) (Nat.le_of_ble_eq_true rfl) (Nat.le_refl _) (Nat.le_refl _) (fun p e s m args below meth c D cA A ad0 hX hr hlk hnm => kX8_berthOf hX hr hlk (Nat.le_refl _) (Nat.le_refl _) h0 hG hf)
def fX1_papers (p0 : Nat) (i : Nat → Nat → Int32) : Option ((Int32)) := some ((i p0 5))
theorem kX1_papers  {p0 : Nat} {vR : Int32} (hX : aX p s m args c RX1 cX1_papers 1 D cA A ad0) (hr : meth.sig.returnType = (some .int)) (hlk : meth.locks = false) (hRf : 0 ≤ R.frames) (hRl : 64 * 0 ≤ R.locals) (h0 : isCar sh rv p0) (hG : aGood sh rv) (hf : fX1_papers p0 i = some (vR)) : aJ p l e R s m args below meth c (MQ below (aPost D cA ad0 A (sh, i0, lo0, rv0) (some (.int vR)) (sh, i, lo, rv)) args s (sh.length - sh.length) (aSn sh - aSn sh) A) D cA A ad0 1 sh.length (aSn sh) 0 [some (.ref (100 + p0))] [] (sh, i, lo, rv) := by
  unfold fX1_papers at hf
  refine j_aload_n hX dX1_papers_0 rfl ?_
  refine j_getI (k := 5) hX kX1 (by decide) fk_X1_28 dX1_papers_1 h0.1 rfl ?_
  cases hf
  exact j_ret hX hr hlk rfl dX1_papers_4
theorem okX1_papers {l : Launch} {sh : List aSh} {i : Nat → Nat → Int32} {lo : Nat → Nat → Int64} {rv : Nat → Nat → Option Nat}  {p0 : Nat} {vR : Int32} (hG : aGood sh rv) (h0 : isCar sh rv p0) (hf : fX1_papers p0 i = some (vR)) : aM l yX1_papers cX1_papers 1 (some .int) 0 [.ref (100 + p0)] (sh, i, lo, rv) (some (.int vR)) (sh, i, lo, rv) :=
  aM_of (by decide) (Nat.le_of_ble_eq_true rfl) (Nat.le_refl _) (Nat.le_refl _) (fun p e s m args below meth c D cA A ad0 hX hr hlk hnm => kX1_papers hX hr hlk (Nat.le_refl _) (Nat.le_refl _) h0 hG hf)
def fX8_placeOf_2 (p0 : Nat) : Nat → Int32 → Int32 → Int32 → (Nat → Nat → Int32) → Option ((Int32))
  | 0, _, _, _, _ => none
  | n + 1, x1, x2, x3, i => if x2 ≤ x3 then (some ((-1))) else (if aIn ((9 : Int32) + x3) 56 = true then
    (if (i (p0 + 1) (((9 : Int32) + x3) : Int32).toNatClampNeg) = x1 then (some (x3)) else (fX8_placeOf_2 p0 n x1 x2 (x3 + 1) i)) else none)
theorem kX8_placeOf_2  {p0 : Nat} {vR : Int32} (hX : aX p s m args c RX8 cX8_placeOf 4 D cA A ad0) (hr : meth.sig.returnType = (some .int)) (hlk : meth.locks = false) (hRf : 0 ≤ R.frames) (hRl : 64 * 0 ≤ R.locals) (h0 : isScn sh rv p0) : ∀ (n : Nat) (x1 : Int32) (x2 : Int32) (x3 : Int32), aGood sh rv → fX8_placeOf_2 p0 n x1 x2 x3 i = some (vR) → aJ p l e R s m args below meth c (MQ below (aPost D cA ad0 A (sh, i0, lo0, rv0) (some (.int vR)) (sh, i, lo, rv)) args s (sh.length - sh.length) (aSn sh - aSn sh) A) D cA A ad0 4 sh.length (aSn sh) 2 [some (.ref (100 + p0)), some (.int x1), some (.int x2), some (.int x3)] [] (sh, i, lo, rv) := by
  intro n
  induction n with
  | zero => intros; rename_i hf; cases hf
  | succ n ih =>
    intro x1 x2 x3 hG hf
    rw [fX8_placeOf_2] at hf
    refine j_iload_n hX dX8_placeOf_2 rfl ?_
    refine j_iload_n hX dX8_placeOf_3 rfl ?_
    refine j_icmp_ge (tgt := 28) hX dX8_placeOf_4 (by decide) (fun hc => ?_) (fun hc => ?_)
    · have hf := ifp hc hf
      refine j_iconst hX dX8_placeOf_28 ic_m1 ?_
      cases hf
      exact j_ret hX hr hlk rfl dX8_placeOf_29
    · have hf := ifn hc hf
      refine j_aload_n hX dX8_placeOf_7 rfl ?_
      refine j_getR (k := 0) hX kX8 (by decide) fk_X8_11 h0.2.2 dX8_placeOf_8 h0.1 rfl ?_
      refine j_bipush hX dX8_placeOf_11 bp_9 ?_
      refine j_iload_n hX dX8_placeOf_13 rfl ?_
      refine j_iadd hX dX8_placeOf_14 ?_
      refine jpc (b := 15) rfl ?_
      obtain ⟨hg, hf⟩ := gd hf
      refine j_iald hX h0.2.1 hg dX8_placeOf_15 ?_
      refine j_iload_n hX dX8_placeOf_16 rfl ?_
      refine j_icmp_ne (tgt := 22) hX dX8_placeOf_17 (by decide) (fun hc => ?_) (fun hc => ?_)
      · have hf := ifn hc hf
        refine j_iinc hX dX8_placeOf_22 rfl (congrArg (_ + ·) ic_1) (by decide) rfl ?_
        refine j_goto (tgt := 2) hX dX8_placeOf_25 (by decide) ?_
        exact aJx (ih _ _ _ hG  hf) (And.intro rfl (And.intro rfl (And.intro rfl (And.intro rfl (rfl)))))
      · have hf := ifp hc hf
        refine j_iload_n hX dX8_placeOf_20 rfl ?_
        cases hf
        exact j_ret hX hr hlk rfl dX8_placeOf_21
def fX8_placeOf (p0 : Nat) (a1 : Int32) (a2 : Int32) (i : Nat → Nat → Int32) : Option ((Int32)) := fX8_placeOf_2 p0 fuel a1 a2 0 i
theorem kX8_placeOf  {p0 : Nat} {vR : Int32} (hX : aX p s m args c RX8 cX8_placeOf 4 D cA A ad0) (hr : meth.sig.returnType = (some .int)) (hlk : meth.locks = false) (hRf : 0 ≤ R.frames) (hRl : 64 * 0 ≤ R.locals) (h0 : isScn sh rv p0) {a1 : Int32} {a2 : Int32} (hG : aGood sh rv) (hf : fX8_placeOf p0 a1 a2 i = some (vR)) : aJ p l e R s m args below meth c (MQ below (aPost D cA ad0 A (sh, i0, lo0, rv0) (some (.int vR)) (sh, i, lo, rv)) args s (sh.length - sh.length) (aSn sh - aSn sh) A) D cA A ad0 4 sh.length (aSn sh) 0 [some (.ref (100 + p0)), some (.int a1), some (.int a2), none] [] (sh, i, lo, rv) := by
  unfold fX8_placeOf at hf
  refine j_iconst hX dX8_placeOf_0 ic_0 ?_
  refine j_istore_n hX dX8_placeOf_1 (by decide) rfl ?_
  exact aJx (kX8_placeOf_2 hX hr hlk hRf hRl h0 fuel _ _ _ hG  hf) (And.intro rfl (And.intro rfl (And.intro rfl (And.intro rfl (rfl)))))
theorem okX8_placeOf {l : Launch} {sh : List aSh} {i : Nat → Nat → Int32} {lo : Nat → Nat → Int64} {rv : Nat → Nat → Option Nat}  {p0 : Nat} {a1 : Int32} {a2 : Int32} {vR : Int32} (hG : aGood sh rv) (h0 : isScn sh rv p0) (hf : fX8_placeOf p0 a1 a2 i = some (vR)) : aM l yX8_placeOf cX8_placeOf 4 (some .int) 0 [.ref (100 + p0), .int a1, .int a2] (sh, i, lo, rv) (some (.int vR)) (sh, i, lo, rv) :=
  aM_of (by decide) (Nat.le_of_ble_eq_true rfl) (Nat.le_refl _) (Nat.le_refl _) (fun p e s m args below meth c D cA A ad0 hX hr hlk hnm => kX8_placeOf hX hr hlk (Nat.le_refl _) (Nat.le_refl _) h0 hG hf)
def fX8_saidFor (p0 : Nat) (a1 : Int32) (i : Nat → Nat → Int32) : Option ((Int32)) := if aIn ((18 : Int32) + a1) 56 = true then
    (some ((i (p0 + 1) (((18 : Int32) + a1) : Int32).toNatClampNeg))) else none
theorem kX8_saidFor  {p0 : Nat} {vR : Int32} (hX : aX p s m args c RX8 cX8_saidFor 2 D cA A ad0) (hr : meth.sig.returnType = (some .int)) (hlk : meth.locks = false) (hRf : 0 ≤ R.frames) (hRl : 64 * 0 ≤ R.locals) (h0 : isScn sh rv p0) {a1 : Int32} (hG : aGood sh rv) (hf : fX8_saidFor p0 a1 i = some (vR)) : aJ p l e R s m args below meth c (MQ below (aPost D cA ad0 A (sh, i0, lo0, rv0) (some (.int vR)) (sh, i, lo, rv)) args s (sh.length - sh.length) (aSn sh - aSn sh) A) D cA A ad0 2 sh.length (aSn sh) 0 [some (.ref (100 + p0)), some (.int a1)] [] (sh, i, lo, rv) := by
  unfold fX8_saidFor at hf
  refine j_aload_n hX dX8_saidFor_0 rfl ?_
  refine j_getR (k := 0) hX kX8 (by decide) fk_X8_11 h0.2.2 dX8_saidFor_1 h0.1 rfl ?_
  refine j_bipush hX dX8_saidFor_4 bp_18 ?_
  refine j_iload_n hX dX8_saidFor_6 rfl ?_
  refine j_iadd hX dX8_saidFor_7 ?_
  refine jpc (b := 8) rfl ?_
  obtain ⟨hg, hf⟩ := gd hf
  refine j_iald hX h0.2.1 hg dX8_saidFor_8 ?_
  cases hf
  exact j_ret hX hr hlk rfl dX8_saidFor_9
theorem okX8_saidFor {l : Launch} {sh : List aSh} {i : Nat → Nat → Int32} {lo : Nat → Nat → Int64} {rv : Nat → Nat → Option Nat}  {p0 : Nat} {a1 : Int32} {vR : Int32} (hG : aGood sh rv) (h0 : isScn sh rv p0) (hf : fX8_saidFor p0 a1 i = some (vR)) : aM l yX8_saidFor cX8_saidFor 2 (some .int) 0 [.ref (100 + p0), .int a1] (sh, i, lo, rv) (some (.int vR)) (sh, i, lo, rv) :=
  aM_of (by decide) (Nat.le_of_ble_eq_true rfl) (Nat.le_refl _) (Nat.le_refl _) (fun p e s m args below meth c D cA A ad0 hX hr hlk hnm => kX8_saidFor hX hr hlk (Nat.le_refl _) (Nat.le_refl _) h0 hG hf)
def fX8_isAsleep (p0 : Nat) (a1 : Int32) (i : Nat → Nat → Int32) : Option ((Int32)) := if aIn ((27 : Int32) + a1) 56 = true then
    (if (i (p0 + 1) (((27 : Int32) + a1) : Int32).toNatClampNeg) = 1 then (some (1)) else (some (0))) else none
theorem kX8_isAsleep  {p0 : Nat} {vR : Int32} (hX : aX p s m args c RX8 cX8_isAsleep 2 D cA A ad0) (hr : meth.sig.returnType = (some .boolean)) (hlk : meth.locks = false) (hRf : 0 ≤ R.frames) (hRl : 64 * 0 ≤ R.locals) (h0 : isScn sh rv p0) {a1 : Int32} (hG : aGood sh rv) (hf : fX8_isAsleep p0 a1 i = some (vR)) : aJ p l e R s m args below meth c (MQ below (aPost D cA ad0 A (sh, i0, lo0, rv0) (some (.int vR)) (sh, i, lo, rv)) args s (sh.length - sh.length) (aSn sh - aSn sh) A) D cA A ad0 2 sh.length (aSn sh) 0 [some (.ref (100 + p0)), some (.int a1)] [] (sh, i, lo, rv) := by
  unfold fX8_isAsleep at hf
  refine j_aload_n hX dX8_isAsleep_0 rfl ?_
  refine j_getR (k := 0) hX kX8 (by decide) fk_X8_11 h0.2.2 dX8_isAsleep_1 h0.1 rfl ?_
  refine j_bipush hX dX8_isAsleep_4 bp_27 ?_
  refine j_iload_n hX dX8_isAsleep_6 rfl ?_
  refine j_iadd hX dX8_isAsleep_7 ?_
  refine jpc (b := 8) rfl ?_
  obtain ⟨hg, hf⟩ := gd hf
  refine j_iald hX h0.2.1 hg dX8_isAsleep_8 ?_
  refine j_iconst hX dX8_isAsleep_9 ic_1 ?_
  refine j_icmp_ne (tgt := 17) hX dX8_isAsleep_10 (by decide) (fun hc => ?_) (fun hc => ?_)
  · have hf := ifn hc hf
    refine j_iconst hX dX8_isAsleep_17 ic_0 ?_
    cases hf
    exact j_ret hX hr hlk rfl dX8_isAsleep_18
  · have hf := ifp hc hf
    refine j_iconst hX dX8_isAsleep_13 ic_1 ?_
    refine j_goto (tgt := 18) hX dX8_isAsleep_14 (by decide) ?_
    cases hf
    exact j_ret hX hr hlk rfl dX8_isAsleep_18
theorem okX8_isAsleep {l : Launch} {sh : List aSh} {i : Nat → Nat → Int32} {lo : Nat → Nat → Int64} {rv : Nat → Nat → Option Nat}  {p0 : Nat} {a1 : Int32} {vR : Int32} (hG : aGood sh rv) (h0 : isScn sh rv p0) (hf : fX8_isAsleep p0 a1 i = some (vR)) : aM l yX8_isAsleep cX8_isAsleep 2 (some .boolean) 0 [.ref (100 + p0), .int a1] (sh, i, lo, rv) (some (.int vR)) (sh, i, lo, rv) :=
  aM_of (by decide) (Nat.le_of_ble_eq_true rfl) (Nat.le_refl _) (Nat.le_refl _) (fun p e s m args below meth c D cA A ad0 hX hr hlk hnm => kX8_isAsleep hX hr hlk (Nat.le_refl _) (Nat.le_refl _) h0 hG hf)
def fX8_lostBy (p0 : Nat) (a1 : Int32) (i : Nat → Nat → Int32) : Option ((Int32)) := if aIn ((45 : Int32) + a1) 56 = true then
    (some ((i (p0 + 1) (((45 : Int32) + a1) : Int32).toNatClampNeg))) else none
theorem kX8_lostBy  {p0 : Nat} {vR : Int32} (hX : aX p s m args c RX8 cX8_lostBy 2 D cA A ad0) (hr : meth.sig.returnType = (some .int)) (hlk : meth.locks = false) (hRf : 0 ≤ R.frames) (hRl : 64 * 0 ≤ R.locals) (h0 : isScn sh rv p0) {a1 : Int32} (hG : aGood sh rv) (hf : fX8_lostBy p0 a1 i = some (vR)) : aJ p l e R s m args below meth c (MQ below (aPost D cA ad0 A (sh, i0, lo0, rv0) (some (.int vR)) (sh, i, lo, rv)) args s (sh.length - sh.length) (aSn sh - aSn sh) A) D cA A ad0 2 sh.length (aSn sh) 0 [some (.ref (100 + p0)), some (.int a1)] [] (sh, i, lo, rv) := by
  unfold fX8_lostBy at hf
  refine j_aload_n hX dX8_lostBy_0 rfl ?_
  refine j_getR (k := 0) hX kX8 (by decide) fk_X8_11 h0.2.2 dX8_lostBy_1 h0.1 rfl ?_
  refine j_bipush hX dX8_lostBy_4 bp_45 ?_
  refine j_iload_n hX dX8_lostBy_6 rfl ?_
  refine j_iadd hX dX8_lostBy_7 ?_
  refine jpc (b := 8) rfl ?_
  obtain ⟨hg, hf⟩ := gd hf
  refine j_iald hX h0.2.1 hg dX8_lostBy_8 ?_
  cases hf
  exact j_ret hX hr hlk rfl dX8_lostBy_9
theorem okX8_lostBy {l : Launch} {sh : List aSh} {i : Nat → Nat → Int32} {lo : Nat → Nat → Int64} {rv : Nat → Nat → Option Nat}  {p0 : Nat} {a1 : Int32} {vR : Int32} (hG : aGood sh rv) (h0 : isScn sh rv p0) (hf : fX8_lostBy p0 a1 i = some (vR)) : aM l yX8_lostBy cX8_lostBy 2 (some .int) 0 [.ref (100 + p0), .int a1] (sh, i, lo, rv) (some (.int vR)) (sh, i, lo, rv) :=
  aM_of (by decide) (Nat.le_of_ble_eq_true rfl) (Nat.le_refl _) (Nat.le_refl _) (fun p e s m args below meth c D cA A ad0 hX hr hlk hnm => kX8_lostBy hX hr hlk (Nat.le_refl _) (Nat.le_refl _) h0 hG hf)
def fX1_hasOfficer (p0 : Nat) (a1 : Int32) (i : Nat → Nat → Int32) : Option ((Int32)) := if a1 < 0 then (some (0)) else (if (i p0 4) ≤ a1 then (some (0)) else (some (1)))
theorem kX1_hasOfficer  {p0 : Nat} {vR : Int32} (hX : aX p s m args c RX1 cX1_hasOfficer 2 D cA A ad0) (hr : meth.sig.returnType = (some .boolean)) (hlk : meth.locks = false) (hRf : 0 ≤ R.frames) (hRl : 64 * 0 ≤ R.locals) (h0 : isCar sh rv p0) {a1 : Int32} (hG : aGood sh rv) (hf : fX1_hasOfficer p0 a1 i = some (vR)) : aJ p l e R s m args below meth c (MQ below (aPost D cA ad0 A (sh, i0, lo0, rv0) (some (.int vR)) (sh, i, lo, rv)) args s (sh.length - sh.length) (aSn sh - aSn sh) A) D cA A ad0 2 sh.length (aSn sh) 0 [some (.ref (100 + p0)), some (.int a1)] [] (sh, i, lo, rv) := by
  unfold fX1_hasOfficer at hf
  refine j_iload_n hX dX1_hasOfficer_0 rfl ?_
  refine j_if_lt (tgt := 16) hX dX1_hasOfficer_1 (by decide) (fun hc => ?_) (fun hc => ?_)
  · have hf := ifp hc hf
    refine j_iconst hX dX1_hasOfficer_16 ic_0 ?_
    cases hf
    exact j_ret hX hr hlk rfl dX1_hasOfficer_17
  · have hf := ifn hc hf
    refine j_iload_n hX dX1_hasOfficer_4 rfl ?_
    refine j_aload_n hX dX1_hasOfficer_5 rfl ?_
    refine j_getI (k := 4) hX kX1 (by decide) fk_X1_25 dX1_hasOfficer_6 h0.1 rfl ?_
    refine j_icmp_ge (tgt := 16) hX dX1_hasOfficer_9 (by decide) (fun hc => ?_) (fun hc => ?_)
    · have hf := ifp hc hf
      refine j_iconst hX dX1_hasOfficer_16 ic_0 ?_
      cases hf
      exact j_ret hX hr hlk rfl dX1_hasOfficer_17
    · have hf := ifn hc hf
      refine j_iconst hX dX1_hasOfficer_12 ic_1 ?_
      refine j_goto (tgt := 17) hX dX1_hasOfficer_13 (by decide) ?_
      cases hf
      exact j_ret hX hr hlk rfl dX1_hasOfficer_17
theorem okX1_hasOfficer {l : Launch} {sh : List aSh} {i : Nat → Nat → Int32} {lo : Nat → Nat → Int64} {rv : Nat → Nat → Option Nat}  {p0 : Nat} {a1 : Int32} {vR : Int32} (hG : aGood sh rv) (h0 : isCar sh rv p0) (hf : fX1_hasOfficer p0 a1 i = some (vR)) : aM l yX1_hasOfficer cX1_hasOfficer 2 (some .boolean) 0 [.ref (100 + p0), .int a1] (sh, i, lo, rv) (some (.int vR)) (sh, i, lo, rv) :=
  aM_of (by decide) (Nat.le_of_ble_eq_true rfl) (Nat.le_refl _) (Nat.le_refl _) (fun p e s m args below meth c D cA A ad0 hX hr hlk hnm => kX1_hasOfficer hX hr hlk (Nat.le_refl _) (Nat.le_refl _) h0 hG hf)
def fX1_ofOfficer (p0 : Nat) (a1 : Int32) (a2 : Int32) (i : Nat → Nat → Int32) : Option ((Int32)) := if aIn ((a1 * (4 : Int32)) + a2) 16 = true then
    (some ((i (p0 + 3) (((a1 * (4 : Int32)) + a2) : Int32).toNatClampNeg))) else none
theorem kX1_ofOfficer  {p0 : Nat} {vR : Int32} (hX : aX p s m args c RX1 cX1_ofOfficer 3 D cA A ad0) (hr : meth.sig.returnType = (some .int)) (hlk : meth.locks = false) (hRf : 0 ≤ R.frames) (hRl : 64 * 0 ≤ R.locals) (h0 : isCar sh rv p0) {a1 : Int32} {a2 : Int32} (hG : aGood sh rv) (hf : fX1_ofOfficer p0 a1 a2 i = some (vR)) : aJ p l e R s m args below meth c (MQ below (aPost D cA ad0 A (sh, i0, lo0, rv0) (some (.int vR)) (sh, i, lo, rv)) args s (sh.length - sh.length) (aSn sh - aSn sh) A) D cA A ad0 3 sh.length (aSn sh) 0 [some (.ref (100 + p0)), some (.int a1), some (.int a2)] [] (sh, i, lo, rv) := by
  unfold fX1_ofOfficer at hf
  refine j_aload_n hX dX1_ofOfficer_0 rfl ?_
  refine j_getR (k := 2) hX kX1 (by decide) fk_X1_18 h0.2.2.2.2.2.2 dX1_ofOfficer_1 h0.1 rfl ?_
  refine j_iload_n hX dX1_ofOfficer_4 rfl ?_
  refine j_iconst hX dX1_ofOfficer_5 ic_4 ?_
  refine j_imul hX dX1_ofOfficer_6 ?_
  refine jpc (b := 7) rfl ?_
  refine j_iload_n hX dX1_ofOfficer_7 rfl ?_
  refine j_iadd hX dX1_ofOfficer_8 ?_
  obtain ⟨hg, hf⟩ := gd hf
  refine j_iald hX h0.2.2.2.1 hg dX1_ofOfficer_9 ?_
  cases hf
  exact j_ret hX hr hlk rfl dX1_ofOfficer_10
theorem okX1_ofOfficer {l : Launch} {sh : List aSh} {i : Nat → Nat → Int32} {lo : Nat → Nat → Int64} {rv : Nat → Nat → Option Nat}  {p0 : Nat} {a1 : Int32} {a2 : Int32} {vR : Int32} (hG : aGood sh rv) (h0 : isCar sh rv p0) (hf : fX1_ofOfficer p0 a1 a2 i = some (vR)) : aM l yX1_ofOfficer cX1_ofOfficer 3 (some .int) 0 [.ref (100 + p0), .int a1, .int a2] (sh, i, lo, rv) (some (.int vR)) (sh, i, lo, rv) :=
  aM_of (by decide) (Nat.le_of_ble_eq_true rfl) (Nat.le_refl _) (Nat.le_refl _) (fun p e s m args below meth c D cA A ad0 hX hr hlk hnm => kX1_ofOfficer hX hr hlk (Nat.le_refl _) (Nat.le_refl _) h0 hG hf)
def fX11_officer (a1 : Int32) (a2 : Int32) (i : Nat → Nat → Int32) : Option ((Int32)) := bn1 (fX1_hasOfficer 15 a1 i) fun v1 =>
    if v1 = 0 then (some ((-1))) else (if a2 < 0 then (some ((-1))) else (if a2 < 4 then (bn1 (fX1_ofOfficer 15 a1 a2 i) fun v3 =>
    some (v3)) else (some ((-1)))))
theorem kX11_officer  {vR : Int32} (hX : aX p s m args c RX11 cX11_officer 3 D cA A ad0) (hr : meth.sig.returnType = (some .int)) (hlk : meth.locks = false) (hRf : 1 ≤ R.frames) (hRl : 64 * 1 ≤ R.locals) {a1 : Int32} {a2 : Int32} (hG : aGood sh rv) (hf : fX11_officer a1 a2 i = some (vR)) : aJ p l e R s m args below meth c (MQ below (aPost D cA ad0 A (sh, i0, lo0, rv0) (some (.int vR)) (sh, i, lo, rv)) args s (sh.length - sh.length) (aSn sh - aSn sh) A) D cA A ad0 3 sh.length (aSn sh) 0 [some (.ref (100 + 0)), some (.int a1), some (.int a2)] [] (sh, i, lo, rv) := by
  unfold fX11_officer at hf
  refine j_aload_n hX dX11_officer_0 rfl ?_
  refine j_getR (k := 3) hX kX11 (by decide) fk_X11_30 (rf_0_3 hG) dX11_officer_1 (sh_0 hG) rfl ?_
  refine j_iload_n hX dX11_officer_4 rfl ?_
  obtain ⟨v1, hh2, hf⟩ := bd1 hf
  refine j_cV1i hX lk_X11_162 kX1 dX11_officer_5 (sh_15 hG) (okX1_hasOfficer hG (cr_15 hG) hh2) rfl rfl (rmm (by omega) hRf hRl (by decide)) (Nat.le_of_ble_eq_true rfl) (Nat.le_add_right _ _) (Nat.le_add_right _ _) ?_
  refine j_if_eq (tgt := 20) hX dX11_officer_8 (by decide) (fun hc => ?_) (fun hc => ?_)
  · have hf := ifp hc hf
    refine j_iconst hX dX11_officer_20 ic_m1 ?_
    cases hf
    exact j_ret hX hr hlk rfl dX11_officer_21
  · have hf := ifn hc hf
    refine j_iload_n hX dX11_officer_11 rfl ?_
    refine j_if_lt (tgt := 20) hX dX11_officer_12 (by decide) (fun hc => ?_) (fun hc => ?_)
    · have hf := ifp hc hf
      refine j_iconst hX dX11_officer_20 ic_m1 ?_
      cases hf
      exact j_ret hX hr hlk rfl dX11_officer_21
    · have hf := ifn hc hf
      refine j_iload_n hX dX11_officer_15 rfl ?_
      refine j_iconst hX dX11_officer_16 ic_4 ?_
      refine j_icmp_lt (tgt := 22) hX dX11_officer_17 (by decide) (fun hc => ?_) (fun hc => ?_)
      · have hf := ifp hc hf
        refine j_aload_n hX dX11_officer_22 rfl ?_
        refine j_getR (k := 3) hX kX11 (by decide) fk_X11_30 (rf_0_3 hG) dX11_officer_23 (sh_0 hG) rfl ?_
        refine j_iload_n hX dX11_officer_26 rfl ?_
        refine j_iload_n hX dX11_officer_27 rfl ?_
        obtain ⟨v3, hh4, hf⟩ := bd1 hf
        refine j_cV2i hX lk_X11_165 kX1 dX11_officer_28 (sh_15 hG) (okX1_ofOfficer hG (cr_15 hG) hh4) rfl rfl (rmm (by omega) hRf hRl (by decide)) (Nat.le_of_ble_eq_true rfl) (Nat.le_add_right _ _) (Nat.le_add_right _ _) ?_
        refine jpc (b := 31) rfl ?_
        cases hf
        exact j_ret hX hr hlk rfl dX11_officer_31
      · have hf := ifn hc hf
        refine j_iconst hX dX11_officer_20 ic_m1 ?_
        cases hf
        exact j_ret hX hr hlk rfl dX11_officer_21
theorem okX11_officer {l : Launch} {sh : List aSh} {i : Nat → Nat → Int32} {lo : Nat → Nat → Int64} {rv : Nat → Nat → Option Nat}  {a1 : Int32} {a2 : Int32} {vR : Int32} (hG : aGood sh rv) (hf : fX11_officer a1 a2 i = some (vR)) : aM l yX11_officer cX11_officer 3 (some .int) 1 [.ref (100 + 0), .int a1, .int a2] (sh, i, lo, rv) (some (.int vR)) (sh, i, lo, rv) :=
  aM_of (by decide) (Nat.le_of_ble_eq_true rfl) (Nat.le_refl _) (Nat.le_refl _) (fun p e s m args below meth c D cA A ad0 hX hr hlk hnm => kX11_officer hX hr hlk (Nat.le_refl _) (Nat.le_refl _) hG hf)
def fX9_lawCount (i : Nat → Nat → Int32) : Option ((Int32)) := some ((i 3 4))
theorem kX9_lawCount  {vR : Int32} (hX : aX p s m args c RX9 cX9_lawCount 1 D cA A ad0) (hr : meth.sig.returnType = (some .int)) (hlk : meth.locks = false) (hRf : 0 ≤ R.frames) (hRl : 64 * 0 ≤ R.locals) (hG : aGood sh rv) (hf : fX9_lawCount i = some (vR)) : aJ p l e R s m args below meth c (MQ below (aPost D cA ad0 A (sh, i0, lo0, rv0) (some (.int vR)) (sh, i, lo, rv)) args s (sh.length - sh.length) (aSn sh - aSn sh) A) D cA A ad0 1 sh.length (aSn sh) 0 [some (.ref (100 + 3))] [] (sh, i, lo, rv) := by
  unfold fX9_lawCount at hf
  refine j_aload_n hX dX9_lawCount_0 rfl ?_
  refine j_getI (k := 4) hX kX9 (by decide) fk_X9_33 dX9_lawCount_1 (sh_3 hG) rfl ?_
  cases hf
  exact j_ret hX hr hlk rfl dX9_lawCount_4
theorem okX9_lawCount {l : Launch} {sh : List aSh} {i : Nat → Nat → Int32} {lo : Nat → Nat → Int64} {rv : Nat → Nat → Option Nat}  {vR : Int32} (hG : aGood sh rv) (hf : fX9_lawCount i = some (vR)) : aM l yX9_lawCount cX9_lawCount 1 (some .int) 0 [.ref (100 + 3)] (sh, i, lo, rv) (some (.int vR)) (sh, i, lo, rv) :=
  aM_of (by decide) (Nat.le_of_ble_eq_true rfl) (Nat.le_refl _) (Nat.le_refl _) (fun p e s m args below meth c D cA A ad0 hX hr hlk hnm => kX9_lawCount hX hr hlk (Nat.le_refl _) (Nat.le_refl _) hG hf)
def fX9_lawAt (a1 : Int32) (i : Nat → Nat → Int32) (rv : Nat → Nat → Option Nat) : Option ((Option Nat)) := if a1 < 0 then (some (none)) else (if (i 3 4) ≤ a1 then (some (none)) else (if aIn a1 4 = true then
    (mO (rv 4 (a1 : Int32).toNatClampNeg) (some (none)) fun r1 => (some ((some (100 + (r1 - 100)))))) else none))
theorem kX9_lawAt  {vR : Option Nat} (hX : aX p s m args c RX9 cX9_lawAt 2 D cA A ad0) (hr : meth.sig.returnType = (some (.object "WokenBorder$Law"))) (hlk : meth.locks = false) (hRf : 0 ≤ R.frames) (hRl : 64 * 0 ≤ R.locals) {a1 : Int32} (hG : aGood sh rv) (hf : fX9_lawAt a1 i rv = some (vR)) : aJ p l e R s m args below meth c (MQ below (aPost D cA ad0 A (sh, i0, lo0, rv0) (some (va_rf vR)) (sh, i, lo, rv)) args s (sh.length - sh.length) (aSn sh - aSn sh) A) D cA A ad0 2 sh.length (aSn sh) 0 [some (.ref (100 + 3)), some (.int a1)] [] (sh, i, lo, rv) := by
  unfold fX9_lawAt at hf
  refine j_iload_n hX dX9_lawAt_0 rfl ?_
  refine j_if_lt (tgt := 21) hX dX9_lawAt_1 (by decide) (fun hc => ?_) (fun hc => ?_)
  · have hf := ifp hc hf
    refine j_null hX dX9_lawAt_21 ?_
    cases hf
    exact j_aret hX hr hlk (Or.inl rfl) dX9_lawAt_22
  · have hf := ifn hc hf
    refine j_iload_n hX dX9_lawAt_4 rfl ?_
    refine j_aload_n hX dX9_lawAt_5 rfl ?_
    refine j_getI (k := 4) hX kX9 (by decide) fk_X9_33 dX9_lawAt_6 (sh_3 hG) rfl ?_
    refine j_icmp_ge (tgt := 21) hX dX9_lawAt_9 (by decide) (fun hc => ?_) (fun hc => ?_)
    · have hf := ifp hc hf
      refine j_null hX dX9_lawAt_21 ?_
      cases hf
      exact j_aret hX hr hlk (Or.inl rfl) dX9_lawAt_22
    · have hf := ifn hc hf
      refine j_aload_n hX dX9_lawAt_12 rfl ?_
      refine j_getR (k := 0) hX kX9 (by decide) fk_X9_13 (rf_3_0 hG) dX9_lawAt_13 (sh_3 hG) rfl ?_
      refine j_iload_n hX dX9_lawAt_16 rfl ?_
      obtain ⟨hg, hf⟩ := gd hf
      rcases hqb2 : (rv 4 (a1 : Int32).toNatClampNeg) with _ | r1
      · rw [hqb2] at hf
        have hf := mO_n hf
        refine j_aaldN (t0 := 4) hX (sh_4 hG) (fun _ => rfl) hqb2 hg dX9_lawAt_17 ?_
        refine j_goto (tgt := 22) hX dX9_lawAt_18 (by decide) ?_
        cases hf
        exact j_aret hX hr hlk (Or.inl rfl) dX9_lawAt_22
      · rw [hqb2] at hf
        have hf := mO_s hf
        obtain ⟨eb2, hLb2⟩ := hG.2.2.2.2.2.1 _ r1 hqb2
        refine j_aaldR (t0 := 4) hX (sh_4 hG) (fun _ => rfl) (hqb2.trans (congrArg some eb2)) hg dX9_lawAt_17 ?_
        refine j_goto (tgt := 22) hX dX9_lawAt_18 (by decide) ?_
        cases hf
        exact j_aret hX hr hlk (Or.inr ⟨_, rfl⟩) dX9_lawAt_22
theorem okX9_lawAt {l : Launch} {sh : List aSh} {i : Nat → Nat → Int32} {lo : Nat → Nat → Int64} {rv : Nat → Nat → Option Nat}  {a1 : Int32} {vR : Option Nat} (hG : aGood sh rv) (hf : fX9_lawAt a1 i rv = some (vR)) : aM l yX9_lawAt cX9_lawAt 2 (some (.object "WokenBorder$Law")) 0 [.ref (100 + 3), .int a1] (sh, i, lo, rv) (some (va_rf vR)) (sh, i, lo, rv) :=
  aM_of (by decide) (Nat.le_of_ble_eq_true rfl) (Nat.le_refl _) (Nat.le_refl _) (fun p e s m args below meth c D cA A ad0 hX hr hlk hnm => kX9_lawAt hX hr hlk (Nat.le_refl _) (Nat.le_refl _) hG hf)
theorem vrX9_lawAt {a1 : Int32} {r : Nat} (hG : aGood sh rv) (hf : fX9_lawAt a1 i rv = some (some r)) : r = 100 + (r - 100) ∧ isLaw sh rv (r - 100) := by
  unfold fX9_lawAt at hf
  refine ifs hf (fun hc hf => ?_) (fun hc hf => ?_)
  · cases hf
  · refine ifs hf (fun hc hf => ?_) (fun hc hf => ?_)
    · cases hf
    · obtain ⟨hg, hf⟩ := gd hf
      rcases hq : (rv 4 (a1).toNatClampNeg) with _ | r1
      · rw [hq] at hf; have hf := mO_n hf; cases hf
      · rw [hq] at hf
        have hf := mO_s hf
        have e1 := hG.2.2.2.2.2.1 _ r1 hq
        have e2 : 100 + (r1 - 100) = r := by simpa using hf
        rw [← e1.1] at e2
        subst e2
        exact e1
def fX11_drowsy (a1 : Int32) (i : Nat → Nat → Int32) : Option ((Int32) × (Nat → Nat → Int32)) := if a1 < 0 then (some (0, i)) else (if 99 < a1 then (some (0, i)) else (if a1 = (i 0 11) then (some (0, i)) else (lt (u2 i 0 11 a1) fun i1 =>
    some (1, i1))))
theorem kX11_drowsy  {vR : Int32} {iR : Nat → Nat → Int32} (hX : aX p s m args c RX11 cX11_drowsy 2 D cA A ad0) (hr : meth.sig.returnType = (some .boolean)) (hlk : meth.locks = false) (hRf : 0 ≤ R.frames) (hRl : 64 * 0 ≤ R.locals) {a1 : Int32} (hG : aGood sh rv) (hf : fX11_drowsy a1 i = some (vR, iR)) : aJ p l e R s m args below meth c (MQ below (aPost D cA ad0 A (sh, i0, lo0, rv0) (some (.int vR)) (sh, iR, lo, rv)) args s (sh.length - sh.length) (aSn sh - aSn sh) A) D cA A ad0 2 sh.length (aSn sh) 0 [some (.ref (100 + 0)), some (.int a1)] [] (sh, i, lo, rv) := by
  unfold fX11_drowsy at hf
  refine j_iload_n hX dX11_drowsy_0 rfl ?_
  refine j_if_lt (tgt := 18) hX dX11_drowsy_1 (by decide) (fun hc => ?_) (fun hc => ?_)
  · have hf := ifp hc hf
    refine j_iconst hX dX11_drowsy_18 ic_0 ?_
    cases hf
    exact j_ret hX hr hlk rfl dX11_drowsy_19
  · have hf := ifn hc hf
    refine j_iload_n hX dX11_drowsy_4 rfl ?_
    refine j_bipush hX dX11_drowsy_5 bp_99 ?_
    refine j_icmp_gt (tgt := 18) hX dX11_drowsy_7 (by decide) (fun hc => ?_) (fun hc => ?_)
    · have hf := ifp hc hf
      refine j_iconst hX dX11_drowsy_18 ic_0 ?_
      cases hf
      exact j_ret hX hr hlk rfl dX11_drowsy_19
    · have hf := ifn hc hf
      refine j_iload_n hX dX11_drowsy_10 rfl ?_
      refine j_aload_n hX dX11_drowsy_11 rfl ?_
      refine j_getI (k := 11) hX kX11 (by decide) fk_X11_82 dX11_drowsy_12 (sh_0 hG) rfl ?_
      refine j_icmp_ne (tgt := 20) hX dX11_drowsy_15 (by decide) (fun hc => ?_) (fun hc => ?_)
      · have hf := ifn hc hf
        refine j_aload_n hX dX11_drowsy_20 rfl ?_
        refine j_iload_n hX dX11_drowsy_21 rfl ?_
        have hf := ltd hf
        refine j_putI (k := 11) hX kX11 (by decide) fk_X11_82 dX11_drowsy_22 (sh_0 hG) rfl rfl rfl rfl ?_
        refine j_iconst hX dX11_drowsy_25 ic_1 ?_
        cases hf
        exact j_ret hX hr hlk rfl dX11_drowsy_26
      · have hf := ifp hc hf
        refine j_iconst hX dX11_drowsy_18 ic_0 ?_
        cases hf
        exact j_ret hX hr hlk rfl dX11_drowsy_19
theorem okX11_drowsy {l : Launch} {sh : List aSh} {i : Nat → Nat → Int32} {lo : Nat → Nat → Int64} {rv : Nat → Nat → Option Nat}  {a1 : Int32} {vR : Int32} {iR : Nat → Nat → Int32} (hG : aGood sh rv) (hf : fX11_drowsy a1 i = some (vR, iR)) : aM l yX11_drowsy cX11_drowsy 2 (some .boolean) 0 [.ref (100 + 0), .int a1] (sh, i, lo, rv) (some (.int vR)) (sh, iR, lo, rv) :=
  aM_of (by decide) (Nat.le_of_ble_eq_true rfl) (Nat.le_refl _) (Nat.le_refl _) (fun p e s m args below meth c D cA A ad0 hX hr hlk hnm => kX11_drowsy hX hr hlk (Nat.le_refl _) (Nat.le_refl _) hG hf)
def fX8_copyTo (p0 : Nat) (w1 : Nat) (n1 : Nat) (a2 : Int32) (i : Nat → Nat → Int32) : Option ((Nat → Nat → Int32)) := if ¬ (0 : Int32) < 0 ∧ ¬ ((a2 * (56 : Int32)) : Int32) < 0 ∧ ¬ (56 : Int32) < 0 ∧ (0 : Int32).toNatClampNeg + (56 : Int32).toNatClampNeg ≤ 56 ∧ ((a2 * (56 : Int32)) : Int32).toNatClampNeg + (56 : Int32).toNatClampNeg ≤ n1 then
    (lt (cp2 i (i (p0 + 1)) (0 : Int32).toNatClampNeg w1 ((a2 * (56 : Int32)) : Int32).toNatClampNeg (56 : Int32).toNatClampNeg) fun i1 => some (i1)) else none
theorem kX8_copyTo  {p0 : Nat} {w1 : Nat} {n1 : Nat} {iR : Nat → Nat → Int32} (hX : aX p s m args c RX8 cX8_copyTo 3 D cA A ad0) (hr : meth.sig.returnType = none) (hlk : meth.locks = false) (hRf : 1 ≤ R.frames) (hRl : 64 * 1 ≤ R.locals) (h0 : isScn sh rv p0) (h1 : sh[w1]? = some (.inl (.int, n1))) {a2 : Int32} (hG : aGood sh rv) (hf : fX8_copyTo p0 w1 n1 a2 i = some (iR)) : aJ p l e R s m args below meth c (MQ below (aPost D cA ad0 A (sh, i0, lo0, rv0) none (sh, iR, lo, rv)) args s (sh.length - sh.length) (aSn sh - aSn sh) A) D cA A ad0 3 sh.length (aSn sh) 0 [some (.ref (100 + p0)), some (.ref (100 + w1)), some (.int a2)] [] (sh, i, lo, rv) := by
  unfold fX8_copyTo at hf
  refine j_aload_n hX dX8_copyTo_0 rfl ?_
  refine j_getR (k := 0) hX kX8 (by decide) fk_X8_11 h0.2.2 dX8_copyTo_1 h0.1 rfl ?_
  refine j_iconst hX dX8_copyTo_4 ic_0 ?_
  refine j_aload_n hX dX8_copyTo_5 rfl ?_
  refine j_iload_n hX dX8_copyTo_6 rfl ?_
  refine jpc (b := 7) rfl ?_
  refine j_bipush hX dX8_copyTo_7 bp_56 ?_
  refine j_imul hX dX8_copyTo_9 ?_
  refine j_bipush hX dX8_copyTo_10 bp_56 ?_
  obtain ⟨hg, hf⟩ := gd hf
  have hf := ltd hf
  refine j_copy hX lk_X8_35 h0.2.1 h1 hg.1 hg.2.1 hg.2.2.1 hg.2.2.2.1 hg.2.2.2.2 (by omega) (Nat.le_trans (Nat.le_of_ble_eq_true rfl) hRl) dX8_copyTo_12 ?_
  cases hf
  exact j_vret hX hr hlk dX8_copyTo_15
theorem okX8_copyTo {l : Launch} {sh : List aSh} {i : Nat → Nat → Int32} {lo : Nat → Nat → Int64} {rv : Nat → Nat → Option Nat}  {p0 : Nat} {w1 : Nat} {n1 : Nat} {a2 : Int32} {iR : Nat → Nat → Int32} (hG : aGood sh rv) (h0 : isScn sh rv p0) (h1 : sh[w1]? = some (.inl (.int, n1))) (hf : fX8_copyTo p0 w1 n1 a2 i = some (iR)) : aM l yX8_copyTo cX8_copyTo 3 none 1 [.ref (100 + p0), .ref (100 + w1), .int a2] (sh, i, lo, rv) none (sh, iR, lo, rv) :=
  aM_of (by decide) (Nat.le_of_ble_eq_true rfl) (Nat.le_refl _) (Nat.le_refl _) (fun p e s m args below meth c D cA A ad0 hX hr hlk hnm => kX8_copyTo hX hr hlk (Nat.le_refl _) (Nat.le_refl _) h0 h1 hG hf)
def fX6_note (p1 : Nat) (i : Nat → Nat → Int32) : Option ((Nat → Nat → Int32)) := bn1 (fX8_copyTo p1 26 2296 (i 25 4) i) fun i1 =>
    some (i1)
theorem kX6_note  {p1 : Nat} {iR : Nat → Nat → Int32} (hX : aX p s m args c RX6 cX6_note 2 D cA A ad0) (hr : meth.sig.returnType = none) (hlk : meth.locks = false) (hRf : 2 ≤ R.frames) (hRl : 64 * 2 ≤ R.locals) (h1 : isScn sh rv p1) (hG : aGood sh rv) (hf : fX6_note p1 i = some (iR)) : aJ p l e R s m args below meth c (MQ below (aPost D cA ad0 A (sh, i0, lo0, rv0) none (sh, iR, lo, rv)) args s (sh.length - sh.length) (aSn sh - aSn sh) A) D cA A ad0 2 sh.length (aSn sh) 0 [some (.ref (100 + 25)), some (.ref (100 + p1))] [] (sh, i, lo, rv) := by
  unfold fX6_note at hf
  refine j_aload_n hX dX6_note_0 rfl ?_
  refine j_aload_n hX dX6_note_1 rfl ?_
  refine j_getR (k := 0) hX kX6 (by decide) fk_X6_11 (rf_25_0 hG) dX6_note_2 (sh_25 hG) rfl ?_
  refine j_aload_n hX dX6_note_5 rfl ?_
  refine j_getI (k := 4) hX kX6 (by decide) fk_X6_32 dX6_note_6 (sh_25 hG) rfl ?_
  refine jpc (b := 9) rfl ?_
  obtain ⟨i1, hh2, hf⟩ := bd1 hf
  refine j_cV2v hX lk_X6_35 kX8 dX6_note_9 h1.1 (okX8_copyTo hG h1 (sh_26 hG) hh2) rfl rfl (rmm (by omega) hRf hRl (by decide)) (Nat.le_of_ble_eq_true rfl) (Nat.le_add_right _ _) (Nat.le_add_right _ _) ?_
  cases hf
  exact j_vret hX hr hlk dX6_note_12
theorem okX6_note {l : Launch} {sh : List aSh} {i : Nat → Nat → Int32} {lo : Nat → Nat → Int64} {rv : Nat → Nat → Option Nat}  {p1 : Nat} {iR : Nat → Nat → Int32} (hG : aGood sh rv) (h1 : isScn sh rv p1) (hf : fX6_note p1 i = some (iR)) : aM l yX6_note cX6_note 2 none 2 [.ref (100 + 25), .ref (100 + p1)] (sh, i, lo, rv) none (sh, iR, lo, rv) :=
  aM_of (by decide) (Nat.le_of_ble_eq_true rfl) (Nat.le_refl _) (Nat.le_refl _) (fun p e s m args below meth c D cA A ad0 hX hr hlk hnm => kX6_note hX hr hlk (Nat.le_refl _) (Nat.le_refl _) h1 hG hf)
end DC
