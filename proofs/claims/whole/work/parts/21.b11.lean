/-! decompiled: X12_goesBorder X12_border X12_draw X12_weights X12_drawnOfficer X12_nights X12_undo X12_log X12_isLine X12_step X12_canStep X12_steps X12_lostIn X12_run X12_perform X12_time -/
section DC
variable {p : Program} {l : Launch} {e : Env} {R : Room} {s : State} {m : MethodId} {args : Array Value} {below : List Frame} {meth : Method} {c : Code} {D : va_G} {cA : FieldType → ClassId} {A : Nat → Prop} {ad0 : Nat → Nat} {sh : List aSh} {i i0 : Nat → Nat → Int32} {lo lo0 : Nat → Nat → Int64} {rv rv0 : Nat → Nat → Option Nat}
def fX12_goesBorder_95 (w1 : Nat) (n1 : Nat) (x3 : Int32) (s1 : Int32) (s2 : Int32) (i : Nat → Nat → Int32) (rv : Nat → Nat → Option Nat) : Option ((Nat → Nat → Int32) × (Nat → Nat → Option Nat)) := if aIn s1 n1 = true then
    (lt (u2 i w1 (s1 : Int32).toNatClampNeg s2) fun i11 => if aIn (x3 + (3 : Int32)) n1 = true then
    (lt (u2 i11 w1 ((x3 + (3 : Int32)) : Int32).toNatClampNeg (i11 50 38)) fun i12 => if aIn 55 n1 = true then
    (if aIn 55 n1 = true then
    (lt (u2 i12 w1 (55 : Int32).toNatClampNeg ((i12 w1 (55 : Int32).toNatClampNeg) + (1 : Int32))) fun i13 => some (i13, rv)) else none) else none) else none) else none
theorem kX12_goesBorder_95  {w1 : Nat} {n1 : Nat} {iR : Nat → Nat → Int32} {rvR : Nat → Nat → Option Nat} (hX : aX p s m args c RX12 cX12_goesBorder 4 D cA A ad0) (hr : meth.sig.returnType = none) (hlk : meth.locks = false) (hRf : 1149 ≤ R.frames) (hRl : 64 * 1149 ≤ R.locals) (h1 : sh[w1]? = some (.inl (.int, n1))) {x3 : Int32} {s1 : Int32} {s2 : Int32} (hG : aGood sh rv) (hf : fX12_goesBorder_95 w1 n1 x3 s1 s2 i rv = some (iR, rvR)) : aJ p l e R s m args below meth c (MQ below (aPost D cA ad0 A (sh, i0, lo0, rv0) none (sh, iR, lo, rvR)) args s (sh.length - sh.length) (aSn sh - aSn sh) A) D cA A ad0 4 sh.length (aSn sh) 95 [some (.ref (100 + 50)), some (.ref (100 + w1)), none, some (.int x3)] [.int s2, .int s1, .ref (100 + w1)] (sh, i, lo, rv) := by
  unfold fX12_goesBorder_95 at hf
  obtain ⟨hg, hf⟩ := gd hf
  have hf := ltd hf
  refine j_iast hX h1 hg dX12_goesBorder_95 ?_
  refine j_aload_n hX dX12_goesBorder_96 rfl ?_
  refine j_iload_n hX dX12_goesBorder_97 rfl ?_
  refine j_iconst hX dX12_goesBorder_98 ic_3 ?_
  refine j_iadd hX dX12_goesBorder_99 ?_
  refine j_aload_n hX dX12_goesBorder_100 rfl ?_
  refine jpc (b := 101) rfl ?_
  refine j_getI (k := 38) hX kX12 (by decide) fk_X12_336 dX12_goesBorder_101 (sh_50 hG) rfl ?_
  obtain ⟨hg, hf⟩ := gd hf
  have hf := ltd hf
  refine j_iast hX h1 hg dX12_goesBorder_104 ?_
  refine j_aload_n hX dX12_goesBorder_105 rfl ?_
  refine j_bipush hX dX12_goesBorder_106 bp_55 ?_
  refine j_dup2 hX dX12_goesBorder_108 rfl rfl ?_
  obtain ⟨hg, hf⟩ := gd hf
  refine j_iald hX h1 hg dX12_goesBorder_109 ?_
  refine j_iconst hX dX12_goesBorder_110 ic_1 ?_
  refine j_iadd hX dX12_goesBorder_111 ?_
  obtain ⟨hg, hf⟩ := gd hf
  have hf := ltd hf
  refine j_iast hX h1 hg dX12_goesBorder_112 ?_
  cases hf
  exact j_vret hX hr hlk dX12_goesBorder_113
theorem gX12_goesBorder_95 {w1 : Nat} {n1 : Nat} {iR : Nat → Nat → Int32} {rvR : Nat → Nat → Option Nat} (h1 : sh[w1]? = some (.inl (.int, n1))) {x3 : Int32} {s1 : Int32} {s2 : Int32} (hG : aGood sh rv) (hf : fX12_goesBorder_95 w1 n1 x3 s1 s2 i rv = some (iR, rvR)) : aGood sh rvR := by
  unfold fX12_goesBorder_95 at hf
  obtain ⟨hg, hf⟩ := gd hf
  have hf := ltd hf
  obtain ⟨hg, hf⟩ := gd hf
  have hf := ltd hf
  obtain ⟨hg, hf⟩ := gd hf
  obtain ⟨hg, hf⟩ := gd hf
  have hf := ltd hf
  cases hf
  exact hG
def fX12_goesBorder_52 (w1 : Nat) (n1 : Nat) (x2 : Int32) (i : Nat → Nat → Int32) (rv : Nat → Nat → Option Nat) : Option ((Nat → Nat → Int32) × (Nat → Nat → Option Nat)) := if aIn 55 n1 = true then
    (lt ((56 : Int32) + ((4 : Int32) * (i w1 (55 : Int32).toNatClampNeg))) fun t4 =>
    if aIn t4 n1 = true then
    (lt (u2 i w1 (t4 : Int32).toNatClampNeg x2) fun i5 => if aIn (t4 + (1 : Int32)) n1 = true then
    (lt (u2 i5 w1 ((t4 + (1 : Int32)) : Int32).toNatClampNeg (i5 50 37)) fun i6 => bn1 (fX12_isLate (i6 50 37) i6) fun v7 =>
    if v7 = 0 then (fX12_goesBorder_95 w1 n1 t4 (t4 + (2 : Int32)) 0 i6 rv) else (fX12_goesBorder_95 w1 n1 t4 (t4 + (2 : Int32)) 1 i6 rv)) else none) else none) else none
theorem kX12_goesBorder_52  {w1 : Nat} {n1 : Nat} {iR : Nat → Nat → Int32} {rvR : Nat → Nat → Option Nat} (hX : aX p s m args c RX12 cX12_goesBorder 4 D cA A ad0) (hr : meth.sig.returnType = none) (hlk : meth.locks = false) (hRf : 1149 ≤ R.frames) (hRl : 64 * 1149 ≤ R.locals) (h1 : sh[w1]? = some (.inl (.int, n1))) {x2 : Int32} (hG : aGood sh rv) (hf : fX12_goesBorder_52 w1 n1 x2 i rv = some (iR, rvR)) : aJ p l e R s m args below meth c (MQ below (aPost D cA ad0 A (sh, i0, lo0, rv0) none (sh, iR, lo, rvR)) args s (sh.length - sh.length) (aSn sh - aSn sh) A) D cA A ad0 4 sh.length (aSn sh) 52 [some (.ref (100 + 50)), some (.ref (100 + w1)), some (.int x2), none] [] (sh, i, lo, rv) := by
  unfold fX12_goesBorder_52 at hf
  refine j_bipush hX dX12_goesBorder_52 bp_56 ?_
  refine j_iconst hX dX12_goesBorder_54 ic_4 ?_
  refine j_aload_n hX dX12_goesBorder_55 rfl ?_
  refine j_bipush hX dX12_goesBorder_56 bp_55 ?_
  obtain ⟨hg, hf⟩ := gd hf
  refine j_iald hX h1 hg dX12_goesBorder_58 ?_
  refine j_imul hX dX12_goesBorder_59 ?_
  refine j_iadd hX dX12_goesBorder_60 ?_
  have hf := ltd hf
  refine j_istore_n hX dX12_goesBorder_61 (by decide) rfl ?_
  refine j_aload_n hX dX12_goesBorder_62 rfl ?_
  refine j_iload_n hX dX12_goesBorder_63 rfl ?_
  refine jpc (b := 64) rfl ?_
  refine j_iload_n hX dX12_goesBorder_64 rfl ?_
  obtain ⟨hg, hf⟩ := gd hf
  have hf := ltd hf
  refine j_iast hX h1 hg dX12_goesBorder_65 ?_
  refine j_aload_n hX dX12_goesBorder_66 rfl ?_
  refine j_iload_n hX dX12_goesBorder_67 rfl ?_
  refine j_iconst hX dX12_goesBorder_68 ic_1 ?_
  refine j_iadd hX dX12_goesBorder_69 ?_
  refine j_aload_n hX dX12_goesBorder_70 rfl ?_
  refine jpc (b := 71) rfl ?_
  refine j_getI (k := 37) hX kX12 (by decide) fk_X12_333 dX12_goesBorder_71 (sh_50 hG) rfl ?_
  obtain ⟨hg, hf⟩ := gd hf
  have hf := ltd hf
  refine j_iast hX h1 hg dX12_goesBorder_74 ?_
  refine j_aload_n hX dX12_goesBorder_75 rfl ?_
  refine j_iload_n hX dX12_goesBorder_76 rfl ?_
  refine j_iconst hX dX12_goesBorder_77 ic_2 ?_
  refine j_iadd hX dX12_goesBorder_78 ?_
  refine j_aload_n hX dX12_goesBorder_79 rfl ?_
  refine jpc (b := 80) rfl ?_
  refine j_aload_n hX dX12_goesBorder_80 rfl ?_
  refine j_getI (k := 37) hX kX12 (by decide) fk_X12_333 dX12_goesBorder_81 (sh_50 hG) rfl ?_
  obtain ⟨v7, hh8, hf⟩ := bd1 hf
  refine j_cV1i hX lk_X12_413 kX12 dX12_goesBorder_84 (sh_50 hG) (okX12_isLate hG hh8) rfl rfl (rmm (by omega) hRf hRl (by decide)) (Nat.le_of_ble_eq_true rfl) (Nat.le_add_right _ _) (Nat.le_add_right _ _) ?_
  refine j_if_eq (tgt := 94) hX dX12_goesBorder_87 (by decide) (fun hc => ?_) (fun hc => ?_)
  · have hf := ifp hc hf
    refine j_iconst hX dX12_goesBorder_94 ic_0 ?_
    exact aJx (kX12_goesBorder_95 hX hr hlk hRf hRl h1 hG  hf) (And.intro rfl (And.intro rfl (And.intro rfl (rfl))))
  · have hf := ifn hc hf
    refine j_iconst hX dX12_goesBorder_90 ic_1 ?_
    refine j_goto (tgt := 95) hX dX12_goesBorder_91 (by decide) ?_
    exact aJx (kX12_goesBorder_95 hX hr hlk hRf hRl h1 hG  hf) (And.intro rfl (And.intro rfl (And.intro rfl (rfl))))
theorem gX12_goesBorder_52 {w1 : Nat} {n1 : Nat} {iR : Nat → Nat → Int32} {rvR : Nat → Nat → Option Nat} (h1 : sh[w1]? = some (.inl (.int, n1))) {x2 : Int32} (hG : aGood sh rv) (hf : fX12_goesBorder_52 w1 n1 x2 i rv = some (iR, rvR)) : aGood sh rvR := by
  unfold fX12_goesBorder_52 at hf
  obtain ⟨hg, hf⟩ := gd hf
  have hf := ltd hf
  obtain ⟨hg, hf⟩ := gd hf
  have hf := ltd hf
  obtain ⟨hg, hf⟩ := gd hf
  have hf := ltd hf
  obtain ⟨v7, hh8, hf⟩ := bd1 hf
  refine ifs hf (fun hc hf => ?_) (fun hc hf => ?_)
  · have hf := hf
    exact gX12_goesBorder_95 h1 hG  hf
  · have hf := hf
    exact gX12_goesBorder_95 h1 hG  hf
def fX12_goesBorder_17 (w1 : Nat) (n1 : Nat) : Nat → Int32 → Int32 → (Nat → Nat → Int32) → (Nat → Nat → Option Nat) → Option ((Nat → Nat → Int32) × (Nat → Nat → Option Nat))
  | 0, _, _, _, _ => none
  | n + 1, x2, x3, i, rv => if 236 < x3 then (if aIn 55 n1 = true then
    (if aIn 55 n1 = true then
    (lt (u2 i w1 (55 : Int32).toNatClampNeg ((i w1 (55 : Int32).toNatClampNeg) - (1 : Int32))) fun i9 => fX12_goesBorder_52 w1 n1 x2 i9 rv) else none) else none) else (if aIn (((55 : Int32) + x3) + (4 : Int32)) n1 = true then
    (if aIn ((55 : Int32) + x3) n1 = true then
    (lt (u2 i w1 (((55 : Int32) + x3) : Int32).toNatClampNeg (i w1 ((((55 : Int32) + x3) + (4 : Int32)) : Int32).toNatClampNeg)) fun i10 => fX12_goesBorder_17 w1 n1 n x2 (x3 + 1) i10 rv) else none) else none)
theorem kX12_goesBorder_17  {w1 : Nat} {n1 : Nat} {iR : Nat → Nat → Int32} {rvR : Nat → Nat → Option Nat} (hX : aX p s m args c RX12 cX12_goesBorder 4 D cA A ad0) (hr : meth.sig.returnType = none) (hlk : meth.locks = false) (hRf : 1149 ≤ R.frames) (hRl : 64 * 1149 ≤ R.locals) (h1 : sh[w1]? = some (.inl (.int, n1))) : ∀ (n : Nat) (x2 : Int32) (x3 : Int32) (i : Nat → Nat → Int32) (rv : Nat → Nat → Option Nat), aGood sh rv → fX12_goesBorder_17 w1 n1 n x2 x3 i rv = some (iR, rvR) → aJ p l e R s m args below meth c (MQ below (aPost D cA ad0 A (sh, i0, lo0, rv0) none (sh, iR, lo, rvR)) args s (sh.length - sh.length) (aSn sh - aSn sh) A) D cA A ad0 4 sh.length (aSn sh) 17 [some (.ref (100 + 50)), some (.ref (100 + w1)), some (.int x2), some (.int x3)] [] (sh, i, lo, rv) := by
  intro n
  induction n with
  | zero => intros; rename_i hf; cases hf
  | succ n ih =>
    intro x2 x3 i rv hG hf
    rw [fX12_goesBorder_17] at hf
    refine j_iload_n hX dX12_goesBorder_17 rfl ?_
    refine j_sipush hX dX12_goesBorder_18 sp_236 ?_
    refine j_icmp_gt (tgt := 44) hX dX12_goesBorder_21 (by decide) (fun hc => ?_) (fun hc => ?_)
    · have hf := ifp hc hf
      refine j_aload_n hX dX12_goesBorder_44 rfl ?_
      refine j_bipush hX dX12_goesBorder_45 bp_55 ?_
      refine j_dup2 hX dX12_goesBorder_47 rfl rfl ?_
      obtain ⟨hg, hf⟩ := gd hf
      refine j_iald hX h1 hg dX12_goesBorder_48 ?_
      refine j_iconst hX dX12_goesBorder_49 ic_1 ?_
      refine j_isub hX dX12_goesBorder_50 ?_
      obtain ⟨hg, hf⟩ := gd hf
      have hf := ltd hf
      refine j_iast hX h1 hg dX12_goesBorder_51 ?_
      exact aJx (kX12_goesBorder_52 hX hr hlk hRf hRl h1 hG  hf) (And.intro rfl (And.intro rfl (And.intro rfl (rfl))))
    · have hf := ifn hc hf
      refine j_aload_n hX dX12_goesBorder_24 rfl ?_
      refine j_bipush hX dX12_goesBorder_25 bp_55 ?_
      refine j_iload_n hX dX12_goesBorder_27 rfl ?_
      refine j_iadd hX dX12_goesBorder_28 ?_
      refine j_aload_n hX dX12_goesBorder_29 rfl ?_
      refine jpc (b := 30) rfl ?_
      refine j_bipush hX dX12_goesBorder_30 bp_55 ?_
      refine j_iload_n hX dX12_goesBorder_32 rfl ?_
      refine j_iadd hX dX12_goesBorder_33 ?_
      refine j_iconst hX dX12_goesBorder_34 ic_4 ?_
      refine j_iadd hX dX12_goesBorder_35 ?_
      obtain ⟨hg, hf⟩ := gd hf
      refine j_iald hX h1 hg dX12_goesBorder_36 ?_
      obtain ⟨hg, hf⟩ := gd hf
      have hf := ltd hf
      refine j_iast hX h1 hg dX12_goesBorder_37 ?_
      refine j_iinc hX dX12_goesBorder_38 rfl (congrArg (_ + ·) ic_1) (by decide) rfl ?_
      refine j_goto (tgt := 17) hX dX12_goesBorder_41 (by decide) ?_
      exact aJx (ih _ _ _ _ hG  hf) (And.intro rfl (And.intro rfl (And.intro rfl (And.intro rfl (rfl)))))
theorem gX12_goesBorder_17 {w1 : Nat} {n1 : Nat} {iR : Nat → Nat → Int32} {rvR : Nat → Nat → Option Nat} (h1 : sh[w1]? = some (.inl (.int, n1))) : ∀ (n : Nat) (x2 : Int32) (x3 : Int32) (i : Nat → Nat → Int32) (rv : Nat → Nat → Option Nat), aGood sh rv → fX12_goesBorder_17 w1 n1 n x2 x3 i rv = some (iR, rvR) → aGood sh rvR := by
  intro n
  induction n with
  | zero => intros; rename_i hf; cases hf
  | succ n ih =>
    intro x2 x3 i rv hG hf
    rw [fX12_goesBorder_17] at hf
    refine ifs hf (fun hc hf => ?_) (fun hc hf => ?_)
    · have hf := hf
      obtain ⟨hg, hf⟩ := gd hf
      obtain ⟨hg, hf⟩ := gd hf
      have hf := ltd hf
      exact gX12_goesBorder_52 h1 hG  hf
    · have hf := hf
      obtain ⟨hg, hf⟩ := gd hf
      obtain ⟨hg, hf⟩ := gd hf
      have hf := ltd hf
      exact ih _ _ _ _ hG  hf
def fX12_goesBorder (w1 : Nat) (n1 : Nat) (a2 : Int32) (i : Nat → Nat → Int32) (rv : Nat → Nat → Option Nat) : Option ((Nat → Nat → Int32) × (Nat → Nat → Option Nat)) := bn2 (fX12_goBorder w1 n1 a2 i rv) fun i1 rv2 =>
    if aIn 55 n1 = true then
    (if (i1 w1 (55 : Int32).toNatClampNeg) = 60 then (fX12_goesBorder_17 w1 n1 fuel a2 1 i1 rv2) else (fX12_goesBorder_52 w1 n1 a2 i1 rv2)) else none
theorem kX12_goesBorder  {w1 : Nat} {n1 : Nat} {iR : Nat → Nat → Int32} {rvR : Nat → Nat → Option Nat} (hX : aX p s m args c RX12 cX12_goesBorder 4 D cA A ad0) (hr : meth.sig.returnType = none) (hlk : meth.locks = false) (hRf : 1149 ≤ R.frames) (hRl : 64 * 1149 ≤ R.locals) (h1 : sh[w1]? = some (.inl (.int, n1))) {a2 : Int32} (hG : aGood sh rv) (hf : fX12_goesBorder w1 n1 a2 i rv = some (iR, rvR)) : aJ p l e R s m args below meth c (MQ below (aPost D cA ad0 A (sh, i0, lo0, rv0) none (sh, iR, lo, rvR)) args s (sh.length - sh.length) (aSn sh - aSn sh) A) D cA A ad0 4 sh.length (aSn sh) 0 [some (.ref (100 + 50)), some (.ref (100 + w1)), some (.int a2), none] [] (sh, i, lo, rv) := by
  unfold fX12_goesBorder at hf
  refine j_aload_n hX dX12_goesBorder_0 rfl ?_
  refine j_aload_n hX dX12_goesBorder_1 rfl ?_
  refine j_iload_n hX dX12_goesBorder_2 rfl ?_
  obtain ⟨i1, rv2, hh3, hf⟩ := bd2 hf
  refine j_cV2v hX lk_X12_363 kX12 dX12_goesBorder_3 (sh_50 hG) (okX12_goBorder hG h1 hh3) rfl rfl (rmm (by omega) hRf hRl (by decide)) (Nat.le_of_ble_eq_true rfl) (Nat.le_add_right _ _) (Nat.le_add_right _ _) ?_
  have hG := gdX12_goBorder hG h1 hh3
  refine j_aload_n hX dX12_goesBorder_6 rfl ?_
  refine jpc (b := 7) rfl ?_
  refine j_bipush hX dX12_goesBorder_7 bp_55 ?_
  obtain ⟨hg, hf⟩ := gd hf
  refine j_iald hX h1 hg dX12_goesBorder_9 ?_
  refine j_bipush hX dX12_goesBorder_10 bp_60 ?_
  refine j_icmp_ne (tgt := 52) hX dX12_goesBorder_12 (by decide) (fun hc => ?_) (fun hc => ?_)
  · have hf := ifn hc hf
    exact aJx (kX12_goesBorder_52 hX hr hlk hRf hRl h1 hG  hf) (And.intro rfl (And.intro rfl (And.intro rfl (rfl))))
  · have hf := ifp hc hf
    refine j_iconst hX dX12_goesBorder_15 ic_1 ?_
    refine j_istore_n hX dX12_goesBorder_16 (by decide) rfl ?_
    exact aJx (kX12_goesBorder_17 hX hr hlk hRf hRl h1 fuel _ _ _ _ hG  hf) (And.intro rfl (And.intro rfl (And.intro rfl (And.intro rfl (rfl)))))
theorem gdX12_goesBorder {w1 : Nat} {n1 : Nat} {iR : Nat → Nat → Int32} {rvR : Nat → Nat → Option Nat} {a2 : Int32} (hG : aGood sh rv) (h1 : sh[w1]? = some (.inl (.int, n1))) (hf : fX12_goesBorder w1 n1 a2 i rv = some (iR, rvR)) : aGood sh rvR := by
  unfold fX12_goesBorder at hf
  obtain ⟨i1, rv2, hh3, hf⟩ := bd2 hf
  have hG := gdX12_goBorder hG h1 hh3
  obtain ⟨hg, hf⟩ := gd hf
  refine ifs2 hf (fun hc hf => ?_) (fun hc hf => ?_)
  · have hf := hf
    exact gX12_goesBorder_52 h1 hG  hf
  · have hf := hf
    exact gX12_goesBorder_17 h1 fuel _ _ _ _ hG  hf
theorem okX12_goesBorder {l : Launch} {sh : List aSh} {i : Nat → Nat → Int32} {lo : Nat → Nat → Int64} {rv : Nat → Nat → Option Nat}  {w1 : Nat} {n1 : Nat} {a2 : Int32} {iR : Nat → Nat → Int32} {rvR : Nat → Nat → Option Nat} (hG : aGood sh rv) (h1 : sh[w1]? = some (.inl (.int, n1))) (hf : fX12_goesBorder w1 n1 a2 i rv = some (iR, rvR)) : aM l yX12_goesBorder cX12_goesBorder 4 none 1149 [.ref (100 + 50), .ref (100 + w1), .int a2] (sh, i, lo, rv) none (sh, iR, lo, rvR) :=
  aM_of (by decide) (Nat.le_of_ble_eq_true rfl) (Nat.le_refl _) (Nat.le_refl _) (fun p e s m args below meth c D cA A ad0 hX hr hlk hnm => kX12_goesBorder hX hr hlk (Nat.le_refl _) (Nat.le_refl _) h1 hG hf)
def fX12_border (a1 : Int32) (i : Nat → Nat → Int32) (rv : Nat → Nat → Option Nat) : Option ((Int32) × (Nat → Nat → Int32) × (Nat → Nat → Option Nat)) := lt (u2 i 50 0 0) fun i1 =>
    bn1 (fX12_isOfficer a1 i1) fun v2 =>
    if v2 = 0 then (some ((-1), i1, rv)) else (bn1 (fX12_remember i1) fun i4 =>
    bn2 (fX12_goesBorder 63 296 a1 i4 rv) fun i6 rv7 =>
    some ((i6 50 37), i6, rv7))
theorem kX12_border  {vR : Int32} {iR : Nat → Nat → Int32} {rvR : Nat → Nat → Option Nat} (hX : aX p s m args c RX12 cX12_border 2 D cA A ad0) (hr : meth.sig.returnType = (some .int)) (hlk : meth.locks = false) (hRf : 1150 ≤ R.frames) (hRl : 64 * 1150 ≤ R.locals) {a1 : Int32} (hG : aGood sh rv) (hf : fX12_border a1 i rv = some (vR, iR, rvR)) : aJ p l e R s m args below meth c (MQ below (aPost D cA ad0 A (sh, i0, lo0, rv0) (some (.int vR)) (sh, iR, lo, rvR)) args s (sh.length - sh.length) (aSn sh - aSn sh) A) D cA A ad0 2 sh.length (aSn sh) 0 [some (.ref (100 + 50)), some (.int a1)] [] (sh, i, lo, rv) := by
  unfold fX12_border at hf
  refine j_aload_n hX dX12_border_0 rfl ?_
  refine j_iconst hX dX12_border_1 ic_0 ?_
  have hf := ltd hf
  refine j_putI (k := 0) hX kX12 (by decide) fk_X12_99 dX12_border_2 (sh_50 hG) rfl rfl rfl rfl ?_
  refine j_aload_n hX dX12_border_5 rfl ?_
  refine j_iload_n hX dX12_border_6 rfl ?_
  refine jpc (b := 7) rfl ?_
  obtain ⟨v2, hh3, hf⟩ := bd1 hf
  refine j_cV1i hX lk_X12_374 kX12 dX12_border_7 (sh_50 hG) (okX12_isOfficer hG hh3) rfl rfl (rmm (by omega) hRf hRl (by decide)) (Nat.le_of_ble_eq_true rfl) (Nat.le_add_right _ _) (Nat.le_add_right _ _) ?_
  refine j_if_ne (tgt := 15) hX dX12_border_10 (by decide) (fun hc => ?_) (fun hc => ?_)
  · have hf := ifn hc hf
    refine j_aload_n hX dX12_border_15 rfl ?_
    obtain ⟨i4, hh5, hf⟩ := bd1 hf
    refine j_cV0v hX lk_X12_386 kX12 dX12_border_16 (sh_50 hG) (okX12_remember hG hh5) rfl rfl (rmm (by omega) hRf hRl (by decide)) (Nat.le_of_ble_eq_true rfl) (Nat.le_add_right _ _) (Nat.le_add_right _ _) ?_
    refine j_aload_n hX dX12_border_19 rfl ?_
    refine j_aload_n hX dX12_border_20 rfl ?_
    refine j_getR (k := 33) hX kX12 (by decide) fk_X12_61 (rf_50_33 hG) dX12_border_21 (sh_50 hG) rfl ?_
    refine jpc (b := 24) rfl ?_
    refine j_iload_n hX dX12_border_24 rfl ?_
    obtain ⟨i6, rv7, hh8, hf⟩ := bd2 hf
    refine j_cV2v hX lk_X12_416 kX12 dX12_border_25 (sh_50 hG) (okX12_goesBorder hG (sh_63 hG) hh8) rfl rfl (rmm (by omega) hRf hRl (by decide)) (Nat.le_of_ble_eq_true rfl) (Nat.le_add_right _ _) (Nat.le_add_right _ _) ?_
    have hG := gdX12_goesBorder hG (sh_63 hG) hh8
    refine j_aload_n hX dX12_border_28 rfl ?_
    refine j_getI (k := 37) hX kX12 (by decide) fk_X12_333 dX12_border_29 (sh_50 hG) rfl ?_
    cases hf
    exact j_ret hX hr hlk rfl dX12_border_32
  · have hf := ifp hc hf
    refine j_iconst hX dX12_border_13 ic_m1 ?_
    cases hf
    exact j_ret hX hr hlk rfl dX12_border_14
theorem gdX12_border {vR : Int32} {iR : Nat → Nat → Int32} {rvR : Nat → Nat → Option Nat} {a1 : Int32} (hG : aGood sh rv) (hf : fX12_border a1 i rv = some (vR, iR, rvR)) : aGood sh rvR := by
  unfold fX12_border at hf
  have hf := ltd hf
  obtain ⟨v2, hh3, hf⟩ := bd1 hf
  refine ifs2 hf (fun hc hf => ?_) (fun hc hf => ?_)
  · have hf := hf
    obtain ⟨i4, hh5, hf⟩ := bd1 hf
    obtain ⟨i6, rv7, hh8, hf⟩ := bd2 hf
    have hG := gdX12_goesBorder hG (sh_63 hG) hh8
    cases hf
    exact hG
  · have hf := hf
    cases hf
    exact hG
theorem okX12_border {l : Launch} {sh : List aSh} {i : Nat → Nat → Int32} {lo : Nat → Nat → Int64} {rv : Nat → Nat → Option Nat}  {a1 : Int32} {vR : Int32} {iR : Nat → Nat → Int32} {rvR : Nat → Nat → Option Nat} (hG : aGood sh rv) (hf : fX12_border a1 i rv = some (vR, iR, rvR)) : aM l yX12_border cX12_border 2 (some .int) 1150 [.ref (100 + 50), .int a1] (sh, i, lo, rv) (some (.int vR)) (sh, iR, lo, rvR) :=
  aM_of (by decide) (Nat.le_of_ble_eq_true rfl) (Nat.le_refl _) (Nat.le_refl _) (fun p e s m args below meth c D cA A ad0 hX hr hlk hnm => kX12_border hX hr hlk (Nat.le_refl _) (Nat.le_refl _) hG hf)
def fX12_draw (a1 : Int32) (lo : Nat → Nat → Int64) : Option ((Int32) × (Nat → Nat → Int64)) := lt (u2 lo 50 43 (((lo 50 43) * (6364136223846793005 : Int64)) + (1442695040888963407 : Int64))) fun lo1 =>
    if (a1 : Int32).toInt64 = 0 then none else
    some ((((((lo1 50 43)).toUInt64 >>> ((33 : Int32).toInt64.toUInt64 &&& Int64.toUInt64 63)).toInt64 - (((lo1 50 43)).toUInt64 >>> ((33 : Int32).toInt64.toUInt64 &&& Int64.toUInt64 63)).toInt64 / (a1 : Int32).toInt64 * (a1 : Int32).toInt64)).toInt32, lo1)
theorem kX12_draw  {vR : Int32} {loR : Nat → Nat → Int64} (hX : aX p s m args c RX12 cX12_draw 2 D cA A ad0) (hr : meth.sig.returnType = (some .int)) (hlk : meth.locks = false) (hRf : 0 ≤ R.frames) (hRl : 64 * 0 ≤ R.locals) {a1 : Int32} (hG : aGood sh rv) (hf : fX12_draw a1 lo = some (vR, loR)) : aJ p l e R s m args below meth c (MQ below (aPost D cA ad0 A (sh, i0, lo0, rv0) (some (.int vR)) (sh, i, loR, rv)) args s (sh.length - sh.length) (aSn sh - aSn sh) A) D cA A ad0 2 sh.length (aSn sh) 0 [some (.ref (100 + 50)), some (.int a1)] [] (sh, i, lo, rv) := by
  unfold fX12_draw at hf
  refine j_aload_n hX dX12_draw_0 rfl ?_
  refine j_aload_n hX dX12_draw_1 rfl ?_
  refine j_getL (k := 43) hX kX12 (by decide) fk_X12_419 dX12_draw_2 (sh_50 hG) rfl ?_
  refine j_ldc2_w hX kc_X12_423 dX12_draw_5 ?_
  refine j_lmul hX dX12_draw_8 ?_
  refine jpc (b := 9) rfl ?_
  refine j_ldc2_w hX kc_X12_425 dX12_draw_9 ?_
  refine j_ladd hX dX12_draw_12 ?_
  have hf := ltd hf
  refine j_putL (k := 43) hX kX12 (by decide) fk_X12_419 dX12_draw_13 (sh_50 hG) rfl rfl ?_
  refine j_aload_n hX dX12_draw_16 rfl ?_
  refine j_getL (k := 43) hX kX12 (by decide) fk_X12_419 dX12_draw_17 (sh_50 hG) rfl ?_
  refine j_bipush hX dX12_draw_20 bp_33 ?_
  refine jpc (b := 22) rfl ?_
  refine j_lushr hX dX12_draw_22 ?_
  refine j_iload_n hX dX12_draw_23 rfl ?_
  refine j_i2l hX dX12_draw_24 ?_
  obtain ⟨hz, hf⟩ := gdn hf
  refine j_lrem hX dX12_draw_25 hz ?_
  refine j_l2i hX dX12_draw_26 ?_
  cases hf
  exact j_ret hX hr hlk rfl dX12_draw_27
theorem okX12_draw {l : Launch} {sh : List aSh} {i : Nat → Nat → Int32} {lo : Nat → Nat → Int64} {rv : Nat → Nat → Option Nat}  {a1 : Int32} {vR : Int32} {loR : Nat → Nat → Int64} (hG : aGood sh rv) (hf : fX12_draw a1 lo = some (vR, loR)) : aM l yX12_draw cX12_draw 2 (some .int) 0 [.ref (100 + 50), .int a1] (sh, i, lo, rv) (some (.int vR)) (sh, i, loR, rv) :=
  aM_of (by decide) (Nat.le_of_ble_eq_true rfl) (Nat.le_refl _) (Nat.le_refl _) (fun p e s m args below meth c D cA A ad0 hX hr hlk hnm => kX12_draw hX hr hlk (Nat.le_refl _) (Nat.le_refl _) hG hf)
def fX12_weights_4 : Nat → Int32 → Int32 → (Nat → Nat → Int32) → Option ((Int32))
  | 0, _, _, _ => none
  | n + 1, x1, x2, i => if (i 50 27) ≤ x2 then (some (x1)) else (if aIn ((4 : Int32) * x2) 16 = true then
    (lt (x1 + (i 59 (((4 : Int32) * x2) : Int32).toNatClampNeg)) fun t1 =>
    fX12_weights_4 n t1 (x2 + 1) i) else none)
theorem kX12_weights_4  {vR : Int32} (hX : aX p s m args c RX12 cX12_weights 3 D cA A ad0) (hr : meth.sig.returnType = (some .int)) (hlk : meth.locks = false) (hRf : 0 ≤ R.frames) (hRl : 64 * 0 ≤ R.locals) : ∀ (n : Nat) (x1 : Int32) (x2 : Int32), aGood sh rv → fX12_weights_4 n x1 x2 i = some (vR) → aJ p l e R s m args below meth c (MQ below (aPost D cA ad0 A (sh, i0, lo0, rv0) (some (.int vR)) (sh, i, lo, rv)) args s (sh.length - sh.length) (aSn sh - aSn sh) A) D cA A ad0 3 sh.length (aSn sh) 4 [some (.ref (100 + 50)), some (.int x1), some (.int x2)] [] (sh, i, lo, rv) := by
  intro n
  induction n with
  | zero => intros; rename_i hf; cases hf
  | succ n ih =>
    intro x1 x2 hG hf
    rw [fX12_weights_4] at hf
    refine j_iload_n hX dX12_weights_4 rfl ?_
    refine j_aload_n hX dX12_weights_5 rfl ?_
    refine j_getI (k := 27) hX kX12 (by decide) fk_X12_300 dX12_weights_6 (sh_50 hG) rfl ?_
    refine j_icmp_ge (tgt := 29) hX dX12_weights_9 (by decide) (fun hc => ?_) (fun hc => ?_)
    · have hf := ifp hc hf
      refine j_iload_n hX dX12_weights_29 rfl ?_
      cases hf
      exact j_ret hX hr hlk rfl dX12_weights_30
    · have hf := ifn hc hf
      refine j_iload_n hX dX12_weights_12 rfl ?_
      refine j_aload_n hX dX12_weights_13 rfl ?_
      refine j_getR (k := 22) hX kX12 (by decide) fk_X12_49 (rf_50_22 hG) dX12_weights_14 (sh_50 hG) rfl ?_
      refine j_iconst hX dX12_weights_17 ic_4 ?_
      refine j_iload_n hX dX12_weights_18 rfl ?_
      refine jpc (b := 19) rfl ?_
      refine j_imul hX dX12_weights_19 ?_
      obtain ⟨hg, hf⟩ := gd hf
      refine j_iald hX (sh_59 hG) hg dX12_weights_20 ?_
      refine j_iadd hX dX12_weights_21 ?_
      have hf := ltd hf
      refine j_istore_n hX dX12_weights_22 (by decide) rfl ?_
      refine j_iinc hX dX12_weights_23 rfl (congrArg (_ + ·) ic_1) (by decide) rfl ?_
      refine j_goto (tgt := 4) hX dX12_weights_26 (by decide) ?_
      exact aJx (ih _ _ hG  hf) (And.intro rfl (And.intro rfl (And.intro rfl (rfl))))
def fX12_weights (i : Nat → Nat → Int32) : Option ((Int32)) := fX12_weights_4 fuel 0 0 i
theorem kX12_weights  {vR : Int32} (hX : aX p s m args c RX12 cX12_weights 3 D cA A ad0) (hr : meth.sig.returnType = (some .int)) (hlk : meth.locks = false) (hRf : 0 ≤ R.frames) (hRl : 64 * 0 ≤ R.locals) (hG : aGood sh rv) (hf : fX12_weights i = some (vR)) : aJ p l e R s m args below meth c (MQ below (aPost D cA ad0 A (sh, i0, lo0, rv0) (some (.int vR)) (sh, i, lo, rv)) args s (sh.length - sh.length) (aSn sh - aSn sh) A) D cA A ad0 3 sh.length (aSn sh) 0 [some (.ref (100 + 50)), none, none] [] (sh, i, lo, rv) := by
  unfold fX12_weights at hf
  refine j_iconst hX dX12_weights_0 ic_0 ?_
  refine j_istore_n hX dX12_weights_1 (by decide) rfl ?_
  refine j_iconst hX dX12_weights_2 ic_0 ?_
  refine j_istore_n hX dX12_weights_3 (by decide) rfl ?_
  exact aJx (kX12_weights_4 hX hr hlk hRf hRl fuel _ _ hG  hf) (And.intro rfl (And.intro rfl (And.intro rfl (rfl))))
theorem okX12_weights {l : Launch} {sh : List aSh} {i : Nat → Nat → Int32} {lo : Nat → Nat → Int64} {rv : Nat → Nat → Option Nat}  {vR : Int32} (hG : aGood sh rv) (hf : fX12_weights i = some (vR)) : aM l yX12_weights cX12_weights 3 (some .int) 0 [.ref (100 + 50)] (sh, i, lo, rv) (some (.int vR)) (sh, i, lo, rv) :=
  aM_of (by decide) (Nat.le_of_ble_eq_true rfl) (Nat.le_refl _) (Nat.le_refl _) (fun p e s m args below meth c D cA A ad0 hX hr hlk hnm => kX12_weights hX hr hlk (Nat.le_refl _) (Nat.le_refl _) hG hf)
def fX12_drawnOfficer_19 : Nat → Int32 → Int32 → (Nat → Nat → Int32) → (Nat → Nat → Int64) → Option ((Int32) × (Nat → Nat → Int64))
  | 0, _, _, _, _ => none
  | n + 1, x2, x3, i, lo => if aIn ((4 : Int32) * x3) 16 = true then
    (if x2 < (i 59 (((4 : Int32) * x3) : Int32).toNatClampNeg) then (some (x3, lo)) else (if aIn ((4 : Int32) * x3) 16 = true then
    (lt (x2 - (i 59 (((4 : Int32) * x3) : Int32).toNatClampNeg)) fun t6 =>
    fX12_drawnOfficer_19 n t6 (x3 + 1) i lo) else none)) else none
theorem kX12_drawnOfficer_19  {vR : Int32} {loR : Nat → Nat → Int64} (hX : aX p s m args c RX12 cX12_drawnOfficer 4 D cA A ad0) (hr : meth.sig.returnType = (some .int)) (hlk : meth.locks = false) (hRf : 1 ≤ R.frames) (hRl : 64 * 1 ≤ R.locals) : ∀ (n : Nat) (x2 : Int32) (x3 : Int32) (lo : Nat → Nat → Int64), aGood sh rv → fX12_drawnOfficer_19 n x2 x3 i lo = some (vR, loR) → aJ p l e R s m args below meth c (MQ below (aPost D cA ad0 A (sh, i0, lo0, rv0) (some (.int vR)) (sh, i, loR, rv)) args s (sh.length - sh.length) (aSn sh - aSn sh) A) D cA A ad0 4 sh.length (aSn sh) 19 [some (.ref (100 + 50)), none, some (.int x2), some (.int x3)] [] (sh, i, lo, rv) := by
  intro n
  induction n with
  | zero => intros; rename_i hf; cases hf
  | succ n ih =>
    intro x2 x3 lo hG hf
    rw [fX12_drawnOfficer_19] at hf
    refine j_iload_n hX dX12_drawnOfficer_19 rfl ?_
    refine j_aload_n hX dX12_drawnOfficer_20 rfl ?_
    refine j_getR (k := 22) hX kX12 (by decide) fk_X12_49 (rf_50_22 hG) dX12_drawnOfficer_21 (sh_50 hG) rfl ?_
    refine j_iconst hX dX12_drawnOfficer_24 ic_4 ?_
    refine j_iload_n hX dX12_drawnOfficer_25 rfl ?_
    refine jpc (b := 26) rfl ?_
    refine j_imul hX dX12_drawnOfficer_26 ?_
    obtain ⟨hg, hf⟩ := gd hf
    refine j_iald hX (sh_59 hG) hg dX12_drawnOfficer_27 ?_
    refine j_icmp_lt (tgt := 48) hX dX12_drawnOfficer_28 (by decide) (fun hc => ?_) (fun hc => ?_)
    · have hf := ifp hc hf
      refine j_iload_n hX dX12_drawnOfficer_48 rfl ?_
      cases hf
      exact j_ret hX hr hlk rfl dX12_drawnOfficer_49
    · have hf := ifn hc hf
      refine j_iload_n hX dX12_drawnOfficer_31 rfl ?_
      refine j_aload_n hX dX12_drawnOfficer_32 rfl ?_
      refine j_getR (k := 22) hX kX12 (by decide) fk_X12_49 (rf_50_22 hG) dX12_drawnOfficer_33 (sh_50 hG) rfl ?_
      refine j_iconst hX dX12_drawnOfficer_36 ic_4 ?_
      refine j_iload_n hX dX12_drawnOfficer_37 rfl ?_
      refine jpc (b := 38) rfl ?_
      refine j_imul hX dX12_drawnOfficer_38 ?_
      obtain ⟨hg, hf⟩ := gd hf
      refine j_iald hX (sh_59 hG) hg dX12_drawnOfficer_39 ?_
      refine j_isub hX dX12_drawnOfficer_40 ?_
      have hf := ltd hf
      refine j_istore_n hX dX12_drawnOfficer_41 (by decide) rfl ?_
      refine j_iinc hX dX12_drawnOfficer_42 rfl (congrArg (_ + ·) ic_1) (by decide) rfl ?_
      refine j_goto (tgt := 19) hX dX12_drawnOfficer_45 (by decide) ?_
      exact aJx (ih _ _ _ hG  hf) (And.intro rfl (And.intro rfl (And.intro rfl (rfl))))
def fX12_drawnOfficer (i : Nat → Nat → Int32) (lo : Nat → Nat → Int64) : Option ((Int32) × (Nat → Nat → Int64)) := bn1 (fX12_weights i) fun v1 =>
    if v1 = 0 then (some (0, lo)) else (bn2 (fX12_draw v1 lo) fun v3 lo4 =>
    fX12_drawnOfficer_19 fuel v3 0 i lo4)
theorem kX12_drawnOfficer  {vR : Int32} {loR : Nat → Nat → Int64} (hX : aX p s m args c RX12 cX12_drawnOfficer 4 D cA A ad0) (hr : meth.sig.returnType = (some .int)) (hlk : meth.locks = false) (hRf : 1 ≤ R.frames) (hRl : 64 * 1 ≤ R.locals) (hG : aGood sh rv) (hf : fX12_drawnOfficer i lo = some (vR, loR)) : aJ p l e R s m args below meth c (MQ below (aPost D cA ad0 A (sh, i0, lo0, rv0) (some (.int vR)) (sh, i, loR, rv)) args s (sh.length - sh.length) (aSn sh - aSn sh) A) D cA A ad0 4 sh.length (aSn sh) 0 [some (.ref (100 + 50)), none, none, none] [] (sh, i, lo, rv) := by
  unfold fX12_drawnOfficer at hf
  refine j_aload_n hX dX12_drawnOfficer_0 rfl ?_
  obtain ⟨v1, hh2, hf⟩ := bd1 hf
  refine j_cV0i hX lk_X12_427 kX12 dX12_drawnOfficer_1 (sh_50 hG) (okX12_weights hG hh2) rfl rfl (rmm (by omega) hRf hRl (by decide)) (Nat.le_of_ble_eq_true rfl) (Nat.le_add_right _ _) (Nat.le_add_right _ _) ?_
  refine j_istore_n hX dX12_drawnOfficer_4 (by decide) rfl ?_
  refine j_iload_n hX dX12_drawnOfficer_5 rfl ?_
  refine j_if_ne (tgt := 11) hX dX12_drawnOfficer_6 (by decide) (fun hc => ?_) (fun hc => ?_)
  · have hf := ifn hc hf
    refine j_aload_n hX dX12_drawnOfficer_11 rfl ?_
    refine j_iload_n hX dX12_drawnOfficer_12 rfl ?_
    obtain ⟨v3, lo4, hh5, hf⟩ := bd2 hf
    refine j_cV1i hX lk_X12_430 kX12 dX12_drawnOfficer_13 (sh_50 hG) (okX12_draw hG hh5) rfl rfl (rmm (by omega) hRf hRl (by decide)) (Nat.le_of_ble_eq_true rfl) (Nat.le_add_right _ _) (Nat.le_add_right _ _) ?_
    refine j_istore_n hX dX12_drawnOfficer_16 (by decide) rfl ?_
    refine j_iconst hX dX12_drawnOfficer_17 ic_0 ?_
    refine jpc (b := 18) rfl ?_
    refine j_istore_n hX dX12_drawnOfficer_18 (by decide) rfl ?_
    exact aJx (kX12_drawnOfficer_19 hX hr hlk hRf hRl fuel _ _ _ hG  hf) (And.intro rfl (And.intro rfl (And.intro rfl (rfl))))
  · have hf := ifp hc hf
    refine j_iconst hX dX12_drawnOfficer_9 ic_0 ?_
    cases hf
    exact j_ret hX hr hlk rfl dX12_drawnOfficer_10
theorem okX12_drawnOfficer {l : Launch} {sh : List aSh} {i : Nat → Nat → Int32} {lo : Nat → Nat → Int64} {rv : Nat → Nat → Option Nat}  {vR : Int32} {loR : Nat → Nat → Int64} (hG : aGood sh rv) (hf : fX12_drawnOfficer i lo = some (vR, loR)) : aM l yX12_drawnOfficer cX12_drawnOfficer 4 (some .int) 1 [.ref (100 + 50)] (sh, i, lo, rv) (some (.int vR)) (sh, i, loR, rv) :=
  aM_of (by decide) (Nat.le_of_ble_eq_true rfl) (Nat.le_refl _) (Nat.le_refl _) (fun p e s m args below meth c D cA A ad0 hX hr hlk hnm => kX12_drawnOfficer hX hr hlk (Nat.le_refl _) (Nat.le_refl _) hG hf)
def fX12_nights_109 (kh34 : Int32 → Int32 → (Nat → Nat → Int32) → (Nat → Nat → Int64) → (Nat → Nat → Option Nat) → Option ((Int32) × (Nat → Nat → Int32) × (Nat → Nat → Int64) × (Nat → Nat → Option Nat))) (kh59 : Int32 → Int32 → Int32 → (Nat → Nat → Int32) → (Nat → Nat → Int64) → (Nat → Nat → Option Nat) → Option ((Int32) × (Nat → Nat → Int32) × (Nat → Nat → Int64) × (Nat → Nat → Option Nat))) (x1 : Int32) (x4 : Int32) (x5 : Int32) (i : Nat → Nat → Int32) (lo : Nat → Nat → Int64) (rv : Nat → Nat → Option Nat) : Option ((Int32) × (Nat → Nat → Int32) × (Nat → Nat → Int64) × (Nat → Nat → Option Nat)) := kh59 x1 x4 (x5 + 1) i lo rv
theorem kX12_nights_109  {vR : Int32} {iR : Nat → Nat → Int32} {loR : Nat → Nat → Int64} {rvR : Nat → Nat → Option Nat} (hX : aX p s m args c RX12 cX12_nights 6 D cA A ad0) (hr : meth.sig.returnType = (some .int)) (hlk : meth.locks = false) (hRf : 1150 ≤ R.frames) (hRl : 64 * 1150 ≤ R.locals) {kh34 : Int32 → Int32 → (Nat → Nat → Int32) → (Nat → Nat → Int64) → (Nat → Nat → Option Nat) → Option ((Int32) × (Nat → Nat → Int32) × (Nat → Nat → Int64) × (Nat → Nat → Option Nat))} {kh59 : Int32 → Int32 → Int32 → (Nat → Nat → Int32) → (Nat → Nat → Int64) → (Nat → Nat → Option Nat) → Option ((Int32) × (Nat → Nat → Int32) × (Nat → Nat → Int64) × (Nat → Nat → Option Nat))} (Hkh34 : ∀ (x1 : Int32) (x4 : Int32) (i : Nat → Nat → Int32) (lo : Nat → Nat → Int64) (rv : Nat → Nat → Option Nat), aGood sh rv → kh34 x1 x4 i lo rv = some (vR, iR, loR, rvR) → aJ p l e R s m args below meth c (MQ below (aPost D cA ad0 A (sh, i0, lo0, rv0) (some (.int vR)) (sh, iR, loR, rvR)) args s (sh.length - sh.length) (aSn sh - aSn sh) A) D cA A ad0 6 sh.length (aSn sh) 34 [some (.ref (100 + 50)), some (.int x1), none, none, some (.int x4), none] [] (sh, i, lo, rv)) (Hkh59 : ∀ (x1 : Int32) (x4 : Int32) (x5 : Int32) (i : Nat → Nat → Int32) (lo : Nat → Nat → Int64) (rv : Nat → Nat → Option Nat), aGood sh rv → kh59 x1 x4 x5 i lo rv = some (vR, iR, loR, rvR) → aJ p l e R s m args below meth c (MQ below (aPost D cA ad0 A (sh, i0, lo0, rv0) (some (.int vR)) (sh, iR, loR, rvR)) args s (sh.length - sh.length) (aSn sh - aSn sh) A) D cA A ad0 6 sh.length (aSn sh) 59 [some (.ref (100 + 50)), some (.int x1), none, none, some (.int x4), some (.int x5)] [] (sh, i, lo, rv)) {x1 : Int32} {x4 : Int32} {x5 : Int32} (hG : aGood sh rv) (hf : fX12_nights_109 kh34 kh59 x1 x4 x5 i lo rv = some (vR, iR, loR, rvR)) : aJ p l e R s m args below meth c (MQ below (aPost D cA ad0 A (sh, i0, lo0, rv0) (some (.int vR)) (sh, iR, loR, rvR)) args s (sh.length - sh.length) (aSn sh - aSn sh) A) D cA A ad0 6 sh.length (aSn sh) 109 [some (.ref (100 + 50)), some (.int x1), none, none, some (.int x4), some (.int x5)] [] (sh, i, lo, rv) := by
  unfold fX12_nights_109 at hf
  refine j_iinc hX dX12_nights_109 rfl (congrArg (_ + ·) ic_1) (by decide) rfl ?_
  refine j_goto (tgt := 59) hX dX12_nights_112 (by decide) ?_
  exact aJx (Hkh59 _ _ _ _ _ _ hG  hf) (And.intro rfl (And.intro rfl (And.intro rfl (And.intro rfl (rfl)))))
theorem gX12_nights_109 {vR : Int32} {iR : Nat → Nat → Int32} {loR : Nat → Nat → Int64} {rvR : Nat → Nat → Option Nat} {kh34 : Int32 → Int32 → (Nat → Nat → Int32) → (Nat → Nat → Int64) → (Nat → Nat → Option Nat) → Option ((Int32) × (Nat → Nat → Int32) × (Nat → Nat → Int64) × (Nat → Nat → Option Nat))} {kh59 : Int32 → Int32 → Int32 → (Nat → Nat → Int32) → (Nat → Nat → Int64) → (Nat → Nat → Option Nat) → Option ((Int32) × (Nat → Nat → Int32) × (Nat → Nat → Int64) × (Nat → Nat → Option Nat))} (Hkh34 : ∀ (x1 : Int32) (x4 : Int32) (i : Nat → Nat → Int32) (lo : Nat → Nat → Int64) (rv : Nat → Nat → Option Nat), aGood sh rv → kh34 x1 x4 i lo rv = some (vR, iR, loR, rvR) → aGood sh rvR) (Hkh59 : ∀ (x1 : Int32) (x4 : Int32) (x5 : Int32) (i : Nat → Nat → Int32) (lo : Nat → Nat → Int64) (rv : Nat → Nat → Option Nat), aGood sh rv → kh59 x1 x4 x5 i lo rv = some (vR, iR, loR, rvR) → aGood sh rvR) {x1 : Int32} {x4 : Int32} {x5 : Int32} (hG : aGood sh rv) (hf : fX12_nights_109 kh34 kh59 x1 x4 x5 i lo rv = some (vR, iR, loR, rvR)) : aGood sh rvR := by
  unfold fX12_nights_109 at hf
  exact Hkh59 _ _ _ _ _ _ hG  hf
def fX12_nights_59 (kh34 : Int32 → Int32 → (Nat → Nat → Int32) → (Nat → Nat → Int64) → (Nat → Nat → Option Nat) → Option ((Int32) × (Nat → Nat → Int32) × (Nat → Nat → Int64) × (Nat → Nat → Option Nat))) : Nat → Int32 → Int32 → Int32 → (Nat → Nat → Int32) → (Nat → Nat → Int64) → (Nat → Nat → Option Nat) → Option ((Int32) × (Nat → Nat → Int32) × (Nat → Nat → Int64) × (Nat → Nat → Option Nat))
  | 0, _, _, _, _, _, _ => none
  | n + 1, x1, x4, x5, i, lo, rv => if (i 50 26) ≤ x5 then (kh34 x1 (x4 + 1) i lo rv) else (if aIn (((6 : Int32) * x5) + (3 : Int32)) 296 = true then
    (if (i 63 ((((6 : Int32) * x5) + (3 : Int32)) : Int32).toNatClampNeg) = 0 then (bn2 (fX12_draw 100 lo) fun v13 lo14 =>
    if (i 50 36) ≤ v13 then (fX12_nights_109 kh34 (fX12_nights_59 kh34 n) x1 x4 x5 i lo14 rv) else (if aIn (((6 : Int32) * x5) + (3 : Int32)) 296 = true then
    (lt (u2 i 63 ((((6 : Int32) * x5) + (3 : Int32)) : Int32).toNatClampNeg 1) fun i16 => fX12_nights_109 kh34 (fX12_nights_59 kh34 n) x1 x4 x5 i16 lo14 rv) else none)) else (fX12_nights_109 kh34 (fX12_nights_59 kh34 n) x1 x4 x5 i lo rv)) else none)
theorem kX12_nights_59  {vR : Int32} {iR : Nat → Nat → Int32} {loR : Nat → Nat → Int64} {rvR : Nat → Nat → Option Nat} (hX : aX p s m args c RX12 cX12_nights 6 D cA A ad0) (hr : meth.sig.returnType = (some .int)) (hlk : meth.locks = false) (hRf : 1150 ≤ R.frames) (hRl : 64 * 1150 ≤ R.locals) {kh34 : Int32 → Int32 → (Nat → Nat → Int32) → (Nat → Nat → Int64) → (Nat → Nat → Option Nat) → Option ((Int32) × (Nat → Nat → Int32) × (Nat → Nat → Int64) × (Nat → Nat → Option Nat))} (Hkh34 : ∀ (x1 : Int32) (x4 : Int32) (i : Nat → Nat → Int32) (lo : Nat → Nat → Int64) (rv : Nat → Nat → Option Nat), aGood sh rv → kh34 x1 x4 i lo rv = some (vR, iR, loR, rvR) → aJ p l e R s m args below meth c (MQ below (aPost D cA ad0 A (sh, i0, lo0, rv0) (some (.int vR)) (sh, iR, loR, rvR)) args s (sh.length - sh.length) (aSn sh - aSn sh) A) D cA A ad0 6 sh.length (aSn sh) 34 [some (.ref (100 + 50)), some (.int x1), none, none, some (.int x4), none] [] (sh, i, lo, rv)) : ∀ (n : Nat) (x1 : Int32) (x4 : Int32) (x5 : Int32) (i : Nat → Nat → Int32) (lo : Nat → Nat → Int64) (rv : Nat → Nat → Option Nat), aGood sh rv → fX12_nights_59 kh34 n x1 x4 x5 i lo rv = some (vR, iR, loR, rvR) → aJ p l e R s m args below meth c (MQ below (aPost D cA ad0 A (sh, i0, lo0, rv0) (some (.int vR)) (sh, iR, loR, rvR)) args s (sh.length - sh.length) (aSn sh - aSn sh) A) D cA A ad0 6 sh.length (aSn sh) 59 [some (.ref (100 + 50)), some (.int x1), none, none, some (.int x4), some (.int x5)] [] (sh, i, lo, rv) := by
  intro n
  induction n with
  | zero => intros; rename_i hf; cases hf
  | succ n ih =>
    intro x1 x4 x5 i lo rv hG hf
    rw [fX12_nights_59] at hf
    refine j_iload hX dX12_nights_59 rfl ?_
    refine j_aload_n hX dX12_nights_61 rfl ?_
    refine j_getI (k := 26) hX kX12 (by decide) fk_X12_297 dX12_nights_62 (sh_50 hG) rfl ?_
    refine j_icmp_ge (tgt := 115) hX dX12_nights_65 (by decide) (fun hc => ?_) (fun hc => ?_)
    · have hf := ifp hc hf
      refine j_iinc hX dX12_nights_115 rfl (congrArg (_ + ·) ic_1) (by decide) rfl ?_
      refine j_goto (tgt := 34) hX dX12_nights_118 (by decide) ?_
      exact aJx (Hkh34 _ _ _ _ _ hG  hf) (And.intro rfl (And.intro rfl (And.intro rfl (rfl))))
    · have hf := ifn hc hf
      refine j_aload_n hX dX12_nights_68 rfl ?_
      refine j_getR (k := 33) hX kX12 (by decide) fk_X12_61 (rf_50_33 hG) dX12_nights_69 (sh_50 hG) rfl ?_
      refine j_bipush hX dX12_nights_72 bp_6 ?_
      refine j_iload hX dX12_nights_74 rfl ?_
      refine j_imul hX dX12_nights_76 ?_
      refine jpc (b := 77) rfl ?_
      refine j_iconst hX dX12_nights_77 ic_3 ?_
      refine j_iadd hX dX12_nights_78 ?_
      obtain ⟨hg, hf⟩ := gd hf
      refine j_iald hX (sh_63 hG) hg dX12_nights_79 ?_
      refine j_if_ne (tgt := 109) hX dX12_nights_80 (by decide) (fun hc => ?_) (fun hc => ?_)
      · have hf := ifn hc hf
        exact aJx (kX12_nights_109 hX hr hlk hRf hRl Hkh34 ih hG  hf) (And.intro rfl (And.intro rfl (And.intro rfl (And.intro rfl (rfl)))))
      · have hf := ifp hc hf
        refine j_aload_n hX dX12_nights_83 rfl ?_
        refine j_bipush hX dX12_nights_84 bp_100 ?_
        obtain ⟨v13, lo14, hh15, hf⟩ := bd2 hf
        refine j_cV1i hX lk_X12_430 kX12 dX12_nights_86 (sh_50 hG) (okX12_draw hG hh15) rfl rfl (rmm (by omega) hRf hRl (by decide)) (Nat.le_of_ble_eq_true rfl) (Nat.le_add_right _ _) (Nat.le_add_right _ _) ?_
        refine j_aload_n hX dX12_nights_89 rfl ?_
        refine j_getI (k := 36) hX kX12 (by decide) fk_X12_71 dX12_nights_90 (sh_50 hG) rfl ?_
        refine jpc (b := 93) rfl ?_
        refine j_icmp_ge (tgt := 109) hX dX12_nights_93 (by decide) (fun hc => ?_) (fun hc => ?_)
        · have hf := ifp hc hf
          exact aJx (kX12_nights_109 hX hr hlk hRf hRl Hkh34 ih hG  hf) (And.intro rfl (And.intro rfl (And.intro rfl (And.intro rfl (rfl)))))
        · have hf := ifn hc hf
          refine j_aload_n hX dX12_nights_96 rfl ?_
          refine j_getR (k := 33) hX kX12 (by decide) fk_X12_61 (rf_50_33 hG) dX12_nights_97 (sh_50 hG) rfl ?_
          refine j_bipush hX dX12_nights_100 bp_6 ?_
          refine j_iload hX dX12_nights_102 rfl ?_
          refine j_imul hX dX12_nights_104 ?_
          refine jpc (b := 105) rfl ?_
          refine j_iconst hX dX12_nights_105 ic_3 ?_
          refine j_iadd hX dX12_nights_106 ?_
          refine j_iconst hX dX12_nights_107 ic_1 ?_
          obtain ⟨hg, hf⟩ := gd hf
          have hf := ltd hf
          refine j_iast hX (sh_63 hG) hg dX12_nights_108 ?_
          exact aJx (kX12_nights_109 hX hr hlk hRf hRl Hkh34 ih hG  hf) (And.intro rfl (And.intro rfl (And.intro rfl (And.intro rfl (rfl)))))
theorem gX12_nights_59 {vR : Int32} {iR : Nat → Nat → Int32} {loR : Nat → Nat → Int64} {rvR : Nat → Nat → Option Nat} {kh34 : Int32 → Int32 → (Nat → Nat → Int32) → (Nat → Nat → Int64) → (Nat → Nat → Option Nat) → Option ((Int32) × (Nat → Nat → Int32) × (Nat → Nat → Int64) × (Nat → Nat → Option Nat))} (Hkh34 : ∀ (x1 : Int32) (x4 : Int32) (i : Nat → Nat → Int32) (lo : Nat → Nat → Int64) (rv : Nat → Nat → Option Nat), aGood sh rv → kh34 x1 x4 i lo rv = some (vR, iR, loR, rvR) → aGood sh rvR) : ∀ (n : Nat) (x1 : Int32) (x4 : Int32) (x5 : Int32) (i : Nat → Nat → Int32) (lo : Nat → Nat → Int64) (rv : Nat → Nat → Option Nat), aGood sh rv → fX12_nights_59 kh34 n x1 x4 x5 i lo rv = some (vR, iR, loR, rvR) → aGood sh rvR := by
  intro n
  induction n with
  | zero => intros; rename_i hf; cases hf
  | succ n ih =>
    intro x1 x4 x5 i lo rv hG hf
    rw [fX12_nights_59] at hf
    refine ifs hf (fun hc hf => ?_) (fun hc hf => ?_)
    · have hf := hf
      exact Hkh34 _ _ _ _ _ hG  hf
    · have hf := hf
      obtain ⟨hg, hf⟩ := gd hf
      refine ifs2 hf (fun hc hf => ?_) (fun hc hf => ?_)
      · have hf := hf
        exact gX12_nights_109 Hkh34 ih hG  hf
      · have hf := hf
        obtain ⟨v13, lo14, hh15, hf⟩ := bd2 hf
        refine ifs hf (fun hc hf => ?_) (fun hc hf => ?_)
        · have hf := hf
          exact gX12_nights_109 Hkh34 ih hG  hf
        · have hf := hf
          obtain ⟨hg, hf⟩ := gd hf
          have hf := ltd hf
          exact gX12_nights_109 Hkh34 ih hG  hf
def fX12_nights_34 : Nat → Int32 → Int32 → (Nat → Nat → Int32) → (Nat → Nat → Int64) → (Nat → Nat → Option Nat) → Option ((Int32) × (Nat → Nat → Int32) × (Nat → Nat → Int64) × (Nat → Nat → Option Nat))
  | 0, _, _, _, _, _ => none
  | n + 1, x1, x4, i, lo, rv => if x1 ≤ x4 then (if aIn 55 296 = true then
    (some ((i 63 (55 : Int32).toNatClampNeg), i, lo, rv)) else none) else (bn1 (fX12_remember i) fun i5 =>
    bn2 (fX12_drawnOfficer i5 lo) fun v7 lo8 =>
    bn2 (fX12_goesBorder 63 296 v7 i5 rv) fun i10 rv11 =>
    fX12_nights_59 (fX12_nights_34 n) fuel x1 x4 0 i10 lo8 rv11)
theorem kX12_nights_34  {vR : Int32} {iR : Nat → Nat → Int32} {loR : Nat → Nat → Int64} {rvR : Nat → Nat → Option Nat} (hX : aX p s m args c RX12 cX12_nights 6 D cA A ad0) (hr : meth.sig.returnType = (some .int)) (hlk : meth.locks = false) (hRf : 1150 ≤ R.frames) (hRl : 64 * 1150 ≤ R.locals) : ∀ (n : Nat) (x1 : Int32) (x4 : Int32) (i : Nat → Nat → Int32) (lo : Nat → Nat → Int64) (rv : Nat → Nat → Option Nat), aGood sh rv → fX12_nights_34 n x1 x4 i lo rv = some (vR, iR, loR, rvR) → aJ p l e R s m args below meth c (MQ below (aPost D cA ad0 A (sh, i0, lo0, rv0) (some (.int vR)) (sh, iR, loR, rvR)) args s (sh.length - sh.length) (aSn sh - aSn sh) A) D cA A ad0 6 sh.length (aSn sh) 34 [some (.ref (100 + 50)), some (.int x1), none, none, some (.int x4), none] [] (sh, i, lo, rv) := by
  intro n
  induction n with
  | zero => intros; rename_i hf; cases hf
  | succ n ih =>
    intro x1 x4 i lo rv hG hf
    rw [fX12_nights_34] at hf
    refine j_iload hX dX12_nights_34 rfl ?_
    refine j_iload_n hX dX12_nights_36 rfl ?_
    refine j_icmp_ge (tgt := 121) hX dX12_nights_37 (by decide) (fun hc => ?_) (fun hc => ?_)
    · have hf := ifp hc hf
      refine j_aload_n hX dX12_nights_121 rfl ?_
      refine j_getR (k := 33) hX kX12 (by decide) fk_X12_61 (rf_50_33 hG) dX12_nights_122 (sh_50 hG) rfl ?_
      refine j_bipush hX dX12_nights_125 bp_55 ?_
      obtain ⟨hg, hf⟩ := gd hf
      refine j_iald hX (sh_63 hG) hg dX12_nights_127 ?_
      cases hf
      exact j_ret hX hr hlk rfl dX12_nights_128
    · have hf := ifn hc hf
      refine j_aload_n hX dX12_nights_40 rfl ?_
      obtain ⟨i5, hh6, hf⟩ := bd1 hf
      refine j_cV0v hX lk_X12_386 kX12 dX12_nights_41 (sh_50 hG) (okX12_remember hG hh6) rfl rfl (rmm (by omega) hRf hRl (by decide)) (Nat.le_of_ble_eq_true rfl) (Nat.le_add_right _ _) (Nat.le_add_right _ _) ?_
      refine j_aload_n hX dX12_nights_44 rfl ?_
      refine j_aload_n hX dX12_nights_45 rfl ?_
      refine j_getR (k := 33) hX kX12 (by decide) fk_X12_61 (rf_50_33 hG) dX12_nights_46 (sh_50 hG) rfl ?_
      refine jpc (b := 49) rfl ?_
      refine j_aload_n hX dX12_nights_49 rfl ?_
      obtain ⟨v7, lo8, hh9, hf⟩ := bd2 hf
      refine j_cV0i hX lk_X12_435 kX12 dX12_nights_50 (sh_50 hG) (okX12_drawnOfficer hG hh9) rfl rfl (rmm (by omega) hRf hRl (by decide)) (Nat.le_of_ble_eq_true rfl) (Nat.le_add_right _ _) (Nat.le_add_right _ _) ?_
      obtain ⟨i10, rv11, hh12, hf⟩ := bd2 hf
      refine j_cV2v hX lk_X12_416 kX12 dX12_nights_53 (sh_50 hG) (okX12_goesBorder hG (sh_63 hG) hh12) rfl rfl (rmm (by omega) hRf hRl (by decide)) (Nat.le_of_ble_eq_true rfl) (Nat.le_add_right _ _) (Nat.le_add_right _ _) ?_
      have hG := gdX12_goesBorder hG (sh_63 hG) hh12
      refine j_iconst hX dX12_nights_56 ic_0 ?_
      refine j_istore hX dX12_nights_57 (by decide) rfl ?_
      exact aJx (kX12_nights_59 hX hr hlk hRf hRl ih fuel _ _ _ _ _ _ hG  hf) (And.intro rfl (And.intro rfl (And.intro rfl (And.intro rfl (rfl)))))
theorem gX12_nights_34 {vR : Int32} {iR : Nat → Nat → Int32} {loR : Nat → Nat → Int64} {rvR : Nat → Nat → Option Nat} : ∀ (n : Nat) (x1 : Int32) (x4 : Int32) (i : Nat → Nat → Int32) (lo : Nat → Nat → Int64) (rv : Nat → Nat → Option Nat), aGood sh rv → fX12_nights_34 n x1 x4 i lo rv = some (vR, iR, loR, rvR) → aGood sh rvR := by
  intro n
  induction n with
  | zero => intros; rename_i hf; cases hf
  | succ n ih =>
    intro x1 x4 i lo rv hG hf
    rw [fX12_nights_34] at hf
    refine ifs hf (fun hc hf => ?_) (fun hc hf => ?_)
    · have hf := hf
      obtain ⟨hg, hf⟩ := gd hf
      cases hf
      exact hG
    · have hf := hf
      obtain ⟨i5, hh6, hf⟩ := bd1 hf
      obtain ⟨v7, lo8, hh9, hf⟩ := bd2 hf
      obtain ⟨i10, rv11, hh12, hf⟩ := bd2 hf
      have hG := gdX12_goesBorder hG (sh_63 hG) hh12
      exact gX12_nights_59 ih fuel _ _ _ _ _ _ hG  hf
def fX12_nights (a1 : Int32) (a2 : Int64) (i : Nat → Nat → Int32) (lo : Nat → Nat → Int64) (rv : Nat → Nat → Option Nat) : Option ((Int32) × (Nat → Nat → Int32) × (Nat → Nat → Int64) × (Nat → Nat → Option Nat)) := lt (u2 i 50 0 0) fun i1 =>
    if (i1 50 26) = 0 then (some ((-1), i1, lo, rv)) else (bn1 (fX12_isIn (a1 : Int32).toInt64 1 20) fun v2 =>
    if v2 = 0 then (some ((-1), i1, lo, rv)) else (lt (u2 lo 50 43 a2) fun lo4 =>
    fX12_nights_34 fuel a1 0 i1 lo4 rv))
theorem kX12_nights  {vR : Int32} {iR : Nat → Nat → Int32} {loR : Nat → Nat → Int64} {rvR : Nat → Nat → Option Nat} (hX : aX p s m args c RX12 cX12_nights 6 D cA A ad0) (hr : meth.sig.returnType = (some .int)) (hlk : meth.locks = false) (hRf : 1150 ≤ R.frames) (hRl : 64 * 1150 ≤ R.locals) {a1 : Int32} {a2 : Int64} (hG : aGood sh rv) (hf : fX12_nights a1 a2 i lo rv = some (vR, iR, loR, rvR)) : aJ p l e R s m args below meth c (MQ below (aPost D cA ad0 A (sh, i0, lo0, rv0) (some (.int vR)) (sh, iR, loR, rvR)) args s (sh.length - sh.length) (aSn sh - aSn sh) A) D cA A ad0 6 sh.length (aSn sh) 0 [some (.ref (100 + 50)), some (.int a1), some (.long a2), none, none, none] [] (sh, i, lo, rv) := by
  unfold fX12_nights at hf
  refine j_aload_n hX dX12_nights_0 rfl ?_
  refine j_iconst hX dX12_nights_1 ic_0 ?_
  have hf := ltd hf
  refine j_putI (k := 0) hX kX12 (by decide) fk_X12_99 dX12_nights_2 (sh_50 hG) rfl rfl rfl rfl ?_
  refine j_aload_n hX dX12_nights_5 rfl ?_
  refine j_getI (k := 26) hX kX12 (by decide) fk_X12_297 dX12_nights_6 (sh_50 hG) rfl ?_
  refine jpc (b := 9) rfl ?_
  refine j_if_eq (tgt := 24) hX dX12_nights_9 (by decide) (fun hc => ?_) (fun hc => ?_)
  · have hf := ifp hc hf
    refine j_iconst hX dX12_nights_24 ic_m1 ?_
    cases hf
    exact j_ret hX hr hlk rfl dX12_nights_25
  · have hf := ifn hc hf
    refine j_iload_n hX dX12_nights_12 rfl ?_
    refine j_i2l hX dX12_nights_13 ?_
    refine j_lconst (v := 1) hX dX12_nights_14 (by decide) ?_
    refine j_ldc2_w hX kc_X12_433 dX12_nights_15 ?_
    obtain ⟨v2, hh3, hf⟩ := bd1 hf
    refine j_cS3i hX lk_X12_220 dX12_nights_18 (okX12_isIn hG hh3) rfl rfl (rmm (by omega) hRf hRl (by decide)) (Nat.le_of_ble_eq_true rfl) (Nat.le_add_right _ _) (Nat.le_add_right _ _) ?_
    refine jpc (b := 21) rfl ?_
    refine j_if_ne (tgt := 26) hX dX12_nights_21 (by decide) (fun hc => ?_) (fun hc => ?_)
    · have hf := ifn hc hf
      refine j_aload_n hX dX12_nights_26 rfl ?_
      refine j_lload_n hX dX12_nights_27 rfl ?_
      have hf := ltd hf
      refine j_putL (k := 43) hX kX12 (by decide) fk_X12_419 dX12_nights_28 (sh_50 hG) rfl rfl ?_
      refine j_iconst hX dX12_nights_31 ic_0 ?_
      refine j_istore hX dX12_nights_32 (by decide) rfl ?_
      exact aJx (kX12_nights_34 hX hr hlk hRf hRl fuel _ _ _ _ _ hG  hf) (And.intro rfl (And.intro rfl (And.intro rfl (rfl))))
    · have hf := ifp hc hf
      refine j_iconst hX dX12_nights_24 ic_m1 ?_
      cases hf
      exact j_ret hX hr hlk rfl dX12_nights_25
theorem gdX12_nights {vR : Int32} {iR : Nat → Nat → Int32} {loR : Nat → Nat → Int64} {rvR : Nat → Nat → Option Nat} {a1 : Int32} {a2 : Int64} (hG : aGood sh rv) (hf : fX12_nights a1 a2 i lo rv = some (vR, iR, loR, rvR)) : aGood sh rvR := by
  unfold fX12_nights at hf
  have hf := ltd hf
  refine ifs hf (fun hc hf => ?_) (fun hc hf => ?_)
  · have hf := hf
    cases hf
    exact hG
  · have hf := hf
    obtain ⟨v2, hh3, hf⟩ := bd1 hf
    refine ifs2 hf (fun hc hf => ?_) (fun hc hf => ?_)
    · have hf := hf
      have hf := ltd hf
      exact gX12_nights_34 fuel _ _ _ _ _ hG  hf
    · have hf := hf
      cases hf
      exact hG
theorem okX12_nights {l : Launch} {sh : List aSh} {i : Nat → Nat → Int32} {lo : Nat → Nat → Int64} {rv : Nat → Nat → Option Nat}  {a1 : Int32} {a2 : Int64} {vR : Int32} {iR : Nat → Nat → Int32} {loR : Nat → Nat → Int64} {rvR : Nat → Nat → Option Nat} (hG : aGood sh rv) (hf : fX12_nights a1 a2 i lo rv = some (vR, iR, loR, rvR)) : aM l yX12_nights cX12_nights 6 (some .int) 1150 [.ref (100 + 50), .int a1, .long a2] (sh, i, lo, rv) (some (.int vR)) (sh, iR, loR, rvR) :=
  aM_of (by decide) (Nat.le_of_ble_eq_true rfl) (Nat.le_refl _) (Nat.le_refl _) (fun p e s m args below meth c D cA A ad0 hX hr hlk hnm => kX12_nights hX hr hlk (Nat.le_refl _) (Nat.le_refl _) hG hf)
def fX12_undo_26 : Nat → Int32 → (Nat → Nat → Int32) → Option ((Int32) × (Nat → Nat → Int32))
  | 0, _, _ => none
  | n + 1, x1, i => if 296 ≤ x1 then (some ((i 50 42), i)) else (if aIn (((296 : Int32) * (i 50 42)) + x1) 11840 = true then
    (if aIn x1 296 = true then
    (lt (u2 i 63 (x1 : Int32).toNatClampNeg (i 65 ((((296 : Int32) * (i 50 42)) + x1) : Int32).toNatClampNeg)) fun i3 => fX12_undo_26 n (x1 + 1) i3) else none) else none)
theorem kX12_undo_26  {vR : Int32} {iR : Nat → Nat → Int32} (hX : aX p s m args c RX12 cX12_undo 2 D cA A ad0) (hr : meth.sig.returnType = (some .int)) (hlk : meth.locks = false) (hRf : 0 ≤ R.frames) (hRl : 64 * 0 ≤ R.locals) : ∀ (n : Nat) (x1 : Int32) (i : Nat → Nat → Int32), aGood sh rv → fX12_undo_26 n x1 i = some (vR, iR) → aJ p l e R s m args below meth c (MQ below (aPost D cA ad0 A (sh, i0, lo0, rv0) (some (.int vR)) (sh, iR, lo, rv)) args s (sh.length - sh.length) (aSn sh - aSn sh) A) D cA A ad0 2 sh.length (aSn sh) 26 [some (.ref (100 + 50)), some (.int x1)] [] (sh, i, lo, rv) := by
  intro n
  induction n with
  | zero => intros; rename_i hf; cases hf
  | succ n ih =>
    intro x1 i hG hf
    rw [fX12_undo_26] at hf
    refine j_iload_n hX dX12_undo_26 rfl ?_
    refine j_sipush hX dX12_undo_27 sp_296 ?_
    refine j_icmp_ge (tgt := 60) hX dX12_undo_30 (by decide) (fun hc => ?_) (fun hc => ?_)
    · have hf := ifp hc hf
      refine j_aload_n hX dX12_undo_60 rfl ?_
      refine j_getI (k := 42) hX kX12 (by decide) fk_X12_312 dX12_undo_61 (sh_50 hG) rfl ?_
      cases hf
      exact j_ret hX hr hlk rfl dX12_undo_64
    · have hf := ifn hc hf
      refine j_aload_n hX dX12_undo_33 rfl ?_
      refine j_getR (k := 33) hX kX12 (by decide) fk_X12_61 (rf_50_33 hG) dX12_undo_34 (sh_50 hG) rfl ?_
      refine j_iload_n hX dX12_undo_37 rfl ?_
      refine j_aload_n hX dX12_undo_38 rfl ?_
      refine j_getR (k := 41) hX kX12 (by decide) fk_X12_74 (rf_50_41 hG) dX12_undo_39 (sh_50 hG) rfl ?_
      refine jpc (b := 42) rfl ?_
      refine j_sipush hX dX12_undo_42 sp_296 ?_
      refine j_aload_n hX dX12_undo_45 rfl ?_
      refine j_getI (k := 42) hX kX12 (by decide) fk_X12_312 dX12_undo_46 (sh_50 hG) rfl ?_
      refine j_imul hX dX12_undo_49 ?_
      refine j_iload_n hX dX12_undo_50 rfl ?_
      refine j_iadd hX dX12_undo_51 ?_
      refine jpc (b := 52) rfl ?_
      obtain ⟨hg, hf⟩ := gd hf
      refine j_iald hX (sh_65 hG) hg dX12_undo_52 ?_
      obtain ⟨hg, hf⟩ := gd hf
      have hf := ltd hf
      refine j_iast hX (sh_63 hG) hg dX12_undo_53 ?_
      refine j_iinc hX dX12_undo_54 rfl (congrArg (_ + ·) ic_1) (by decide) rfl ?_
      refine j_goto (tgt := 26) hX dX12_undo_57 (by decide) ?_
      exact aJx (ih _ _ hG  hf) (And.intro rfl (And.intro rfl (rfl)))
def fX12_undo (i : Nat → Nat → Int32) : Option ((Int32) × (Nat → Nat → Int32)) := lt (u2 i 50 0 0) fun i1 =>
    if (i1 50 42) = 0 then (some ((-1), i1)) else (lt (u2 i1 50 42 ((i1 50 42) - (1 : Int32))) fun i2 =>
    fX12_undo_26 fuel 0 i2)
theorem kX12_undo  {vR : Int32} {iR : Nat → Nat → Int32} (hX : aX p s m args c RX12 cX12_undo 2 D cA A ad0) (hr : meth.sig.returnType = (some .int)) (hlk : meth.locks = false) (hRf : 0 ≤ R.frames) (hRl : 64 * 0 ≤ R.locals) (hG : aGood sh rv) (hf : fX12_undo i = some (vR, iR)) : aJ p l e R s m args below meth c (MQ below (aPost D cA ad0 A (sh, i0, lo0, rv0) (some (.int vR)) (sh, iR, lo, rv)) args s (sh.length - sh.length) (aSn sh - aSn sh) A) D cA A ad0 2 sh.length (aSn sh) 0 [some (.ref (100 + 50)), none] [] (sh, i, lo, rv) := by
  unfold fX12_undo at hf
  refine j_aload_n hX dX12_undo_0 rfl ?_
  refine j_iconst hX dX12_undo_1 ic_0 ?_
  have hf := ltd hf
  refine j_putI (k := 0) hX kX12 (by decide) fk_X12_99 dX12_undo_2 (sh_50 hG) rfl rfl rfl rfl ?_
  refine j_aload_n hX dX12_undo_5 rfl ?_
  refine j_getI (k := 42) hX kX12 (by decide) fk_X12_312 dX12_undo_6 (sh_50 hG) rfl ?_
  refine jpc (b := 9) rfl ?_
  refine j_if_ne (tgt := 14) hX dX12_undo_9 (by decide) (fun hc => ?_) (fun hc => ?_)
  · have hf := ifn hc hf
    refine j_aload_n hX dX12_undo_14 rfl ?_
    refine j_dup hX dX12_undo_15 rfl ?_
    refine j_getI (k := 42) hX kX12 (by decide) fk_X12_312 dX12_undo_16 (sh_50 hG) rfl ?_
    refine j_iconst hX dX12_undo_19 ic_1 ?_
    refine j_isub hX dX12_undo_20 ?_
    refine jpc (b := 21) rfl ?_
    have hf := ltd hf
    refine j_putI (k := 42) hX kX12 (by decide) fk_X12_312 dX12_undo_21 (sh_50 hG) rfl rfl rfl rfl ?_
    refine j_iconst hX dX12_undo_24 ic_0 ?_
    refine j_istore_n hX dX12_undo_25 (by decide) rfl ?_
    exact aJx (kX12_undo_26 hX hr hlk hRf hRl fuel _ _ hG  hf) (And.intro rfl (And.intro rfl (rfl)))
  · have hf := ifp hc hf
    refine j_iconst hX dX12_undo_12 ic_m1 ?_
    cases hf
    exact j_ret hX hr hlk rfl dX12_undo_13
theorem okX12_undo {l : Launch} {sh : List aSh} {i : Nat → Nat → Int32} {lo : Nat → Nat → Int64} {rv : Nat → Nat → Option Nat}  {vR : Int32} {iR : Nat → Nat → Int32} (hG : aGood sh rv) (hf : fX12_undo i = some (vR, iR)) : aM l yX12_undo cX12_undo 2 (some .int) 0 [.ref (100 + 50)] (sh, i, lo, rv) (some (.int vR)) (sh, iR, lo, rv) :=
  aM_of (by decide) (Nat.le_of_ble_eq_true rfl) (Nat.le_refl _) (Nat.le_refl _) (fun p e s m args below meth c D cA A ad0 hX hr hlk hnm => kX12_undo hX hr hlk (Nat.le_refl _) (Nat.le_refl _) hG hf)
def fX12_log (a1 : Int32) (a2 : Int32) (i : Nat → Nat → Int32) : Option ((Int32) × (Nat → Nat → Int32)) := lt (u2 i 50 0 0) fun i1 =>
    if aIn 55 296 = true then
    (bn1 (fX12_isIn (a1 : Int32).toInt64 0 (((i1 63 (55 : Int32).toNatClampNeg) - (1 : Int32)) : Int32).toInt64) fun v2 =>
    if v2 = 0 then (some ((-1), i1)) else (bn1 (fX12_isIn (a2 : Int32).toInt64 0 3) fun v4 =>
    if v4 = 0 then (some ((-1), i1)) else (if aIn 55 296 = true then
    (if aIn (((56 : Int32) + ((4 : Int32) * (((i1 63 (55 : Int32).toNatClampNeg) - (1 : Int32)) - a1))) + a2) 296 = true then
    (some ((i1 63 ((((56 : Int32) + ((4 : Int32) * (((i1 63 (55 : Int32).toNatClampNeg) - (1 : Int32)) - a1))) + a2) : Int32).toNatClampNeg), i1)) else none) else none))) else none
theorem kX12_log  {vR : Int32} {iR : Nat → Nat → Int32} (hX : aX p s m args c RX12 cX12_log 3 D cA A ad0) (hr : meth.sig.returnType = (some .int)) (hlk : meth.locks = false) (hRf : 1 ≤ R.frames) (hRl : 64 * 1 ≤ R.locals) {a1 : Int32} {a2 : Int32} (hG : aGood sh rv) (hf : fX12_log a1 a2 i = some (vR, iR)) : aJ p l e R s m args below meth c (MQ below (aPost D cA ad0 A (sh, i0, lo0, rv0) (some (.int vR)) (sh, iR, lo, rv)) args s (sh.length - sh.length) (aSn sh - aSn sh) A) D cA A ad0 3 sh.length (aSn sh) 0 [some (.ref (100 + 50)), some (.int a1), some (.int a2)] [] (sh, i, lo, rv) := by
  unfold fX12_log at hf
  refine j_aload_n hX dX12_log_0 rfl ?_
  refine j_iconst hX dX12_log_1 ic_0 ?_
  have hf := ltd hf
  refine j_putI (k := 0) hX kX12 (by decide) fk_X12_99 dX12_log_2 (sh_50 hG) rfl rfl rfl rfl ?_
  refine j_iload_n hX dX12_log_5 rfl ?_
  refine j_i2l hX dX12_log_6 ?_
  refine jpc (b := 7) rfl ?_
  refine j_lconst (v := 0) hX dX12_log_7 (by decide) ?_
  refine j_aload_n hX dX12_log_8 rfl ?_
  refine j_getR (k := 33) hX kX12 (by decide) fk_X12_61 (rf_50_33 hG) dX12_log_9 (sh_50 hG) rfl ?_
  refine j_bipush hX dX12_log_12 bp_55 ?_
  obtain ⟨hg, hf⟩ := gd hf
  refine j_iald hX (sh_63 hG) hg dX12_log_14 ?_
  refine j_iconst hX dX12_log_15 ic_1 ?_
  refine j_isub hX dX12_log_16 ?_
  refine j_i2l hX dX12_log_17 ?_
  obtain ⟨v2, hh3, hf⟩ := bd1 hf
  refine j_cS3i hX lk_X12_220 dX12_log_18 (okX12_isIn hG hh3) rfl rfl (rmm (by omega) hRf hRl (by decide)) (Nat.le_of_ble_eq_true rfl) (Nat.le_add_right _ _) (Nat.le_add_right _ _) ?_
  refine j_if_eq (tgt := 62) hX dX12_log_21 (by decide) (fun hc => ?_) (fun hc => ?_)
  · have hf := ifp hc hf
    refine j_iconst hX dX12_log_62 ic_m1 ?_
    cases hf
    exact j_ret hX hr hlk rfl dX12_log_63
  · have hf := ifn hc hf
    refine j_iload_n hX dX12_log_24 rfl ?_
    refine j_i2l hX dX12_log_25 ?_
    refine j_lconst (v := 0) hX dX12_log_26 (by decide) ?_
    refine j_ldc2_w hX kc_X12_367 dX12_log_27 ?_
    obtain ⟨v4, hh5, hf⟩ := bd1 hf
    refine j_cS3i hX lk_X12_220 dX12_log_30 (okX12_isIn hG hh5) rfl rfl (rmm (by omega) hRf hRl (by decide)) (Nat.le_of_ble_eq_true rfl) (Nat.le_add_right _ _) (Nat.le_add_right _ _) ?_
    refine jpc (b := 33) rfl ?_
    refine j_if_eq (tgt := 62) hX dX12_log_33 (by decide) (fun hc => ?_) (fun hc => ?_)
    · have hf := ifp hc hf
      refine j_iconst hX dX12_log_62 ic_m1 ?_
      cases hf
      exact j_ret hX hr hlk rfl dX12_log_63
    · have hf := ifn hc hf
      refine j_aload_n hX dX12_log_36 rfl ?_
      refine j_getR (k := 33) hX kX12 (by decide) fk_X12_61 (rf_50_33 hG) dX12_log_37 (sh_50 hG) rfl ?_
      refine j_bipush hX dX12_log_40 bp_56 ?_
      refine j_iconst hX dX12_log_42 ic_4 ?_
      refine j_aload_n hX dX12_log_43 rfl ?_
      refine jpc (b := 44) rfl ?_
      refine j_getR (k := 33) hX kX12 (by decide) fk_X12_61 (rf_50_33 hG) dX12_log_44 (sh_50 hG) rfl ?_
      refine j_bipush hX dX12_log_47 bp_55 ?_
      obtain ⟨hg, hf⟩ := gd hf
      refine j_iald hX (sh_63 hG) hg dX12_log_49 ?_
      refine j_iconst hX dX12_log_50 ic_1 ?_
      refine j_isub hX dX12_log_51 ?_
      refine j_iload_n hX dX12_log_52 rfl ?_
      refine j_isub hX dX12_log_53 ?_
      refine j_imul hX dX12_log_54 ?_
      refine jpc (b := 55) rfl ?_
      refine j_iadd hX dX12_log_55 ?_
      refine j_iload_n hX dX12_log_56 rfl ?_
      refine j_iadd hX dX12_log_57 ?_
      obtain ⟨hg, hf⟩ := gd hf
      refine j_iald hX (sh_63 hG) hg dX12_log_58 ?_
      refine j_goto (tgt := 63) hX dX12_log_59 (by decide) ?_
      cases hf
      exact j_ret hX hr hlk rfl dX12_log_63
theorem okX12_log {l : Launch} {sh : List aSh} {i : Nat → Nat → Int32} {lo : Nat → Nat → Int64} {rv : Nat → Nat → Option Nat}  {a1 : Int32} {a2 : Int32} {vR : Int32} {iR : Nat → Nat → Int32} (hG : aGood sh rv) (hf : fX12_log a1 a2 i = some (vR, iR)) : aM l yX12_log cX12_log 3 (some .int) 1 [.ref (100 + 50), .int a1, .int a2] (sh, i, lo, rv) (some (.int vR)) (sh, iR, lo, rv) :=
  aM_of (by decide) (Nat.le_of_ble_eq_true rfl) (Nat.le_refl _) (Nat.le_refl _) (fun p e s m args below meth c D cA A ad0 hX hr hlk hnm => kX12_log hX hr hlk (Nat.le_refl _) (Nat.le_refl _) hG hf)
def fX12_isLine (a1 : Int32) (i : Nat → Nat → Int32) : Option ((Int32)) := if a1 < 0 then (some (0)) else (if (i 50 31) ≤ a1 then (some (0)) else (some (1)))
theorem kX12_isLine  {vR : Int32} (hX : aX p s m args c RX12 cX12_isLine 2 D cA A ad0) (hr : meth.sig.returnType = (some .boolean)) (hlk : meth.locks = false) (hRf : 0 ≤ R.frames) (hRl : 64 * 0 ≤ R.locals) {a1 : Int32} (hG : aGood sh rv) (hf : fX12_isLine a1 i = some (vR)) : aJ p l e R s m args below meth c (MQ below (aPost D cA ad0 A (sh, i0, lo0, rv0) (some (.int vR)) (sh, i, lo, rv)) args s (sh.length - sh.length) (aSn sh - aSn sh) A) D cA A ad0 2 sh.length (aSn sh) 0 [some (.ref (100 + 50)), some (.int a1)] [] (sh, i, lo, rv) := by
  unfold fX12_isLine at hf
  refine j_iload_n hX dX12_isLine_0 rfl ?_
  refine j_if_lt (tgt := 16) hX dX12_isLine_1 (by decide) (fun hc => ?_) (fun hc => ?_)
  · have hf := ifp hc hf
    refine j_iconst hX dX12_isLine_16 ic_0 ?_
    cases hf
    exact j_ret hX hr hlk rfl dX12_isLine_17
  · have hf := ifn hc hf
    refine j_iload_n hX dX12_isLine_4 rfl ?_
    refine j_aload_n hX dX12_isLine_5 rfl ?_
    refine j_getI (k := 31) hX kX12 (by decide) fk_X12_292 dX12_isLine_6 (sh_50 hG) rfl ?_
    refine j_icmp_ge (tgt := 16) hX dX12_isLine_9 (by decide) (fun hc => ?_) (fun hc => ?_)
    · have hf := ifp hc hf
      refine j_iconst hX dX12_isLine_16 ic_0 ?_
      cases hf
      exact j_ret hX hr hlk rfl dX12_isLine_17
    · have hf := ifn hc hf
      refine j_iconst hX dX12_isLine_12 ic_1 ?_
      refine j_goto (tgt := 17) hX dX12_isLine_13 (by decide) ?_
      cases hf
      exact j_ret hX hr hlk rfl dX12_isLine_17
theorem okX12_isLine {l : Launch} {sh : List aSh} {i : Nat → Nat → Int32} {lo : Nat → Nat → Int64} {rv : Nat → Nat → Option Nat}  {a1 : Int32} {vR : Int32} (hG : aGood sh rv) (hf : fX12_isLine a1 i = some (vR)) : aM l yX12_isLine cX12_isLine 2 (some .boolean) 0 [.ref (100 + 50), .int a1] (sh, i, lo, rv) (some (.int vR)) (sh, i, lo, rv) :=
  aM_of (by decide) (Nat.le_of_ble_eq_true rfl) (Nat.le_refl _) (Nat.le_refl _) (fun p e s m args below meth c D cA A ad0 hX hr hlk hnm => kX12_isLine hX hr hlk (Nat.le_refl _) (Nat.le_refl _) hG hf)
def fX12_step (a1 : Int32) (a2 : Int32) (a3 : Int32) (i : Nat → Nat → Int32) : Option ((Int32) × (Nat → Nat → Int32)) := lt (u2 i 50 0 0) fun i1 =>
    bn1 (fX12_isLine a1 i1) fun v2 =>
    if v2 = 0 then (some ((-1000000), i1)) else (if aIn a1 5 = true then
    (bn1 (fX12_isIn (a2 : Int32).toInt64 0 (((i1 62 (a1 : Int32).toNatClampNeg) - (1 : Int32)) : Int32).toInt64) fun v4 =>
    if v4 = 0 then (some ((-1000000), i1)) else (bn1 (fX12_isIn (a3 : Int32).toInt64 0 2) fun v6 =>
    if v6 = 0 then (some ((-1000000), i1)) else (if aIn (((3 : Int32) * (((16 : Int32) * a1) + a2)) + a3) 240 = true then
    (some ((i1 61 ((((3 : Int32) * (((16 : Int32) * a1) + a2)) + a3) : Int32).toNatClampNeg), i1)) else none))) else none)
theorem kX12_step  {vR : Int32} {iR : Nat → Nat → Int32} (hX : aX p s m args c RX12 cX12_step 4 D cA A ad0) (hr : meth.sig.returnType = (some .int)) (hlk : meth.locks = false) (hRf : 1 ≤ R.frames) (hRl : 64 * 1 ≤ R.locals) {a1 : Int32} {a2 : Int32} {a3 : Int32} (hG : aGood sh rv) (hf : fX12_step a1 a2 a3 i = some (vR, iR)) : aJ p l e R s m args below meth c (MQ below (aPost D cA ad0 A (sh, i0, lo0, rv0) (some (.int vR)) (sh, iR, lo, rv)) args s (sh.length - sh.length) (aSn sh - aSn sh) A) D cA A ad0 4 sh.length (aSn sh) 0 [some (.ref (100 + 50)), some (.int a1), some (.int a2), some (.int a3)] [] (sh, i, lo, rv) := by
  unfold fX12_step at hf
  refine j_aload_n hX dX12_step_0 rfl ?_
  refine j_iconst hX dX12_step_1 ic_0 ?_
  have hf := ltd hf
  refine j_putI (k := 0) hX kX12 (by decide) fk_X12_99 dX12_step_2 (sh_50 hG) rfl rfl rfl rfl ?_
  refine j_aload_n hX dX12_step_5 rfl ?_
  refine j_iload_n hX dX12_step_6 rfl ?_
  refine jpc (b := 7) rfl ?_
  obtain ⟨v2, hh3, hf⟩ := bd1 hf
  refine j_cV1i hX lk_X12_438 kX12 dX12_step_7 (sh_50 hG) (okX12_isLine hG hh3) rfl rfl (rmm (by omega) hRf hRl (by decide)) (Nat.le_of_ble_eq_true rfl) (Nat.le_add_right _ _) (Nat.le_add_right _ _) ?_
  refine j_if_eq (tgt := 61) hX dX12_step_10 (by decide) (fun hc => ?_) (fun hc => ?_)
  · have hf := ifp hc hf
    refine j_ldc_w hX kc_X12_441 dX12_step_61 ?_
    cases hf
    exact j_ret hX hr hlk rfl dX12_step_64
  · have hf := ifn hc hf
    refine j_iload_n hX dX12_step_13 rfl ?_
    refine j_i2l hX dX12_step_14 ?_
    refine j_lconst (v := 0) hX dX12_step_15 (by decide) ?_
    refine j_aload_n hX dX12_step_16 rfl ?_
    refine j_getR (k := 25) hX kX12 (by decide) fk_X12_58 (rf_50_25 hG) dX12_step_17 (sh_50 hG) rfl ?_
    refine jpc (b := 20) rfl ?_
    refine j_iload_n hX dX12_step_20 rfl ?_
    obtain ⟨hg, hf⟩ := gd hf
    refine j_iald hX (sh_62 hG) hg dX12_step_21 ?_
    refine j_iconst hX dX12_step_22 ic_1 ?_
    refine j_isub hX dX12_step_23 ?_
    refine j_i2l hX dX12_step_24 ?_
    obtain ⟨v4, hh5, hf⟩ := bd1 hf
    refine j_cS3i hX lk_X12_220 dX12_step_25 (okX12_isIn hG hh5) rfl rfl (rmm (by omega) hRf hRl (by decide)) (Nat.le_of_ble_eq_true rfl) (Nat.le_add_right _ _) (Nat.le_add_right _ _) ?_
    refine j_if_eq (tgt := 61) hX dX12_step_28 (by decide) (fun hc => ?_) (fun hc => ?_)
    · have hf := ifp hc hf
      refine j_ldc_w hX kc_X12_441 dX12_step_61 ?_
      cases hf
      exact j_ret hX hr hlk rfl dX12_step_64
    · have hf := ifn hc hf
      refine j_iload_n hX dX12_step_31 rfl ?_
      refine j_i2l hX dX12_step_32 ?_
      refine j_lconst (v := 0) hX dX12_step_33 (by decide) ?_
      refine j_ldc2_w hX kc_X12_278 dX12_step_34 ?_
      obtain ⟨v6, hh7, hf⟩ := bd1 hf
      refine j_cS3i hX lk_X12_220 dX12_step_37 (okX12_isIn hG hh7) rfl rfl (rmm (by omega) hRf hRl (by decide)) (Nat.le_of_ble_eq_true rfl) (Nat.le_add_right _ _) (Nat.le_add_right _ _) ?_
      refine jpc (b := 40) rfl ?_
      refine j_if_eq (tgt := 61) hX dX12_step_40 (by decide) (fun hc => ?_) (fun hc => ?_)
      · have hf := ifp hc hf
        refine j_ldc_w hX kc_X12_441 dX12_step_61 ?_
        cases hf
        exact j_ret hX hr hlk rfl dX12_step_64
      · have hf := ifn hc hf
        refine j_aload_n hX dX12_step_43 rfl ?_
        refine j_getR (k := 24) hX kX12 (by decide) fk_X12_55 (rf_50_24 hG) dX12_step_44 (sh_50 hG) rfl ?_
        refine j_iconst hX dX12_step_47 ic_3 ?_
        refine j_bipush hX dX12_step_48 bp_16 ?_
        refine j_iload_n hX dX12_step_50 rfl ?_
        refine jpc (b := 51) rfl ?_
        refine j_imul hX dX12_step_51 ?_
        refine j_iload_n hX dX12_step_52 rfl ?_
        refine j_iadd hX dX12_step_53 ?_
        refine j_imul hX dX12_step_54 ?_
        refine j_iload_n hX dX12_step_55 rfl ?_
        refine j_iadd hX dX12_step_56 ?_
        refine jpc (b := 57) rfl ?_
        obtain ⟨hg, hf⟩ := gd hf
        refine j_iald hX (sh_61 hG) hg dX12_step_57 ?_
        refine j_goto (tgt := 64) hX dX12_step_58 (by decide) ?_
        cases hf
        exact j_ret hX hr hlk rfl dX12_step_64
theorem okX12_step {l : Launch} {sh : List aSh} {i : Nat → Nat → Int32} {lo : Nat → Nat → Int64} {rv : Nat → Nat → Option Nat}  {a1 : Int32} {a2 : Int32} {a3 : Int32} {vR : Int32} {iR : Nat → Nat → Int32} (hG : aGood sh rv) (hf : fX12_step a1 a2 a3 i = some (vR, iR)) : aM l yX12_step cX12_step 4 (some .int) 1 [.ref (100 + 50), .int a1, .int a2, .int a3] (sh, i, lo, rv) (some (.int vR)) (sh, iR, lo, rv) :=
  aM_of (by decide) (Nat.le_of_ble_eq_true rfl) (Nat.le_refl _) (Nat.le_refl _) (fun p e s m args below meth c D cA A ad0 hX hr hlk hnm => kX12_step hX hr hlk (Nat.le_refl _) (Nat.le_refl _) hG hf)
def fX12_canStep (w1 : Nat) (n1 : Nat) (a2 : Int32) (i : Nat → Nat → Int32) : Option ((Int32)) := if aIn (a2 + (1 : Int32)) 240 = true then
    (lt (i 61 ((a2 + (1 : Int32)) : Int32).toNatClampNeg) fun t1 =>
    if aIn (a2 + (2 : Int32)) 240 = true then
    (lt (i 61 ((a2 + (2 : Int32)) : Int32).toNatClampNeg) fun t2 =>
    if aIn a2 240 = true then
    (if (i 61 (a2 : Int32).toNatClampNeg) = 0 then (bn1 (fX12_canMove w1 n1 t1 t2 i) fun v3 =>
    if narrow .boolean (.int v3) = .int v3 then
    some (v3) else none) else
    if (i 61 (a2 : Int32).toNatClampNeg) = 1 then (bn1 (fX12_canSay w1 n1 t1 t2 i) fun v5 =>
    if narrow .boolean (.int v5) = .int v5 then
    some (v5) else none) else
    if (i 61 (a2 : Int32).toNatClampNeg) = 2 then (bn1 (fX12_canWake w1 n1 t1 i) fun v7 =>
    if narrow .boolean (.int v7) = .int v7 then
    some (v7) else none) else
    if (i 61 (a2 : Int32).toNatClampNeg) = 3 then (bn1 (fX12_canLie w1 n1 t1 i) fun v9 =>
    if narrow .boolean (.int v9) = .int v9 then
    some (v9) else none) else
    if (i 61 (a2 : Int32).toNatClampNeg) = 4 then (bn1 (fX12_canSwap t1 t2 i) fun v11 =>
    if narrow .boolean (.int v11) = .int v11 then
    some (v11) else none) else
    (bn1 (fX12_isOfficer t1 i) fun v13 =>
    if narrow .boolean (.int v13) = .int v13 then
    some (v13) else none)) else none) else none) else none
theorem kX12_canStep  {w1 : Nat} {n1 : Nat} {vR : Int32} (hX : aX p s m args c RX12 cX12_canStep 5 D cA A ad0) (hr : meth.sig.returnType = (some .boolean)) (hlk : meth.locks = false) (hRf : 2 ≤ R.frames) (hRl : 64 * 2 ≤ R.locals) (h1 : sh[w1]? = some (.inl (.int, n1))) {a2 : Int32} (hG : aGood sh rv) (hf : fX12_canStep w1 n1 a2 i = some (vR)) : aJ p l e R s m args below meth c (MQ below (aPost D cA ad0 A (sh, i0, lo0, rv0) (some (.int vR)) (sh, i, lo, rv)) args s (sh.length - sh.length) (aSn sh - aSn sh) A) D cA A ad0 5 sh.length (aSn sh) 0 [some (.ref (100 + 50)), some (.ref (100 + w1)), some (.int a2), none, none] [] (sh, i, lo, rv) := by
  unfold fX12_canStep at hf
  refine j_aload_n hX dX12_canStep_0 rfl ?_
  refine j_getR (k := 24) hX kX12 (by decide) fk_X12_55 (rf_50_24 hG) dX12_canStep_1 (sh_50 hG) rfl ?_
  refine j_iload_n hX dX12_canStep_4 rfl ?_
  refine j_iconst hX dX12_canStep_5 ic_1 ?_
  refine j_iadd hX dX12_canStep_6 ?_
  refine jpc (b := 7) rfl ?_
  obtain ⟨hg, hf⟩ := gd hf
  refine j_iald hX (sh_61 hG) hg dX12_canStep_7 ?_
  have hf := ltd hf
  refine j_istore_n hX dX12_canStep_8 (by decide) rfl ?_
  refine j_aload_n hX dX12_canStep_9 rfl ?_
  refine j_getR (k := 24) hX kX12 (by decide) fk_X12_55 (rf_50_24 hG) dX12_canStep_10 (sh_50 hG) rfl ?_
  refine j_iload_n hX dX12_canStep_13 rfl ?_
  refine j_iconst hX dX12_canStep_14 ic_2 ?_
  refine jpc (b := 15) rfl ?_
  refine j_iadd hX dX12_canStep_15 ?_
  obtain ⟨hg, hf⟩ := gd hf
  refine j_iald hX (sh_61 hG) hg dX12_canStep_16 ?_
  have hf := ltd hf
  refine j_istore hX dX12_canStep_17 (by decide) rfl ?_
  refine j_aload_n hX dX12_canStep_19 rfl ?_
  refine j_getR (k := 24) hX kX12 (by decide) fk_X12_55 (rf_50_24 hG) dX12_canStep_20 (sh_50 hG) rfl ?_
  refine j_iload_n hX dX12_canStep_23 rfl ?_
  obtain ⟨hg, hf⟩ := gd hf
  refine j_iald hX (sh_61 hG) hg dX12_canStep_24 ?_
  refine sw2 (k := 0) hf (fun hc0 hf => ?_) (fun hc0 hf => ?_)
  · refine j_tabIn (off := 35) (tgt := 60) hX dX12_canStep_25 (by rw [hc0]; decide) (by rw [hc0]; decide) (by rw [hc0]; rfl) (by decide) ?_
    refine j_aload_n hX dX12_canStep_60 rfl ?_
    refine j_aload_n hX dX12_canStep_61 rfl ?_
    refine j_iload_n hX dX12_canStep_62 rfl ?_
    refine j_iload hX dX12_canStep_63 rfl ?_
    obtain ⟨v3, hh4, hf⟩ := bd1 hf
    refine j_cV3i hX lk_X12_382 kX12 dX12_canStep_65 (sh_50 hG) (okX12_canMove hG h1 hh4) rfl rfl (rmm (by omega) hRf hRl (by decide)) (Nat.le_of_ble_eq_true rfl) (Nat.le_add_right _ _) (Nat.le_add_right _ _) ?_
    refine jpc (b := 68) rfl ?_
    obtain ⟨hg, hf⟩ := gd hf
    cases hf
    exact j_ret hX hr hlk hg dX12_canStep_68
  refine sw2 (k := 1) hf (fun hc1 hf => ?_) (fun hc1 hf => ?_)
  · refine j_tabIn (off := 44) (tgt := 69) hX dX12_canStep_25 (by rw [hc1]; decide) (by rw [hc1]; decide) (by rw [hc1]; rfl) (by decide) ?_
    refine j_aload_n hX dX12_canStep_69 rfl ?_
    refine j_aload_n hX dX12_canStep_70 rfl ?_
    refine j_iload_n hX dX12_canStep_71 rfl ?_
    refine j_iload hX dX12_canStep_72 rfl ?_
    obtain ⟨v5, hh6, hf⟩ := bd1 hf
    refine j_cV3i hX lk_X12_393 kX12 dX12_canStep_74 (sh_50 hG) (okX12_canSay hG h1 hh6) rfl rfl (rmm (by omega) hRf hRl (by decide)) (Nat.le_of_ble_eq_true rfl) (Nat.le_add_right _ _) (Nat.le_add_right _ _) ?_
    refine jpc (b := 77) rfl ?_
    obtain ⟨hg, hf⟩ := gd hf
    cases hf
    exact j_ret hX hr hlk hg dX12_canStep_77
  refine sw2 (k := 2) hf (fun hc2 hf => ?_) (fun hc2 hf => ?_)
  · refine j_tabIn (off := 53) (tgt := 78) hX dX12_canStep_25 (by rw [hc2]; decide) (by rw [hc2]; decide) (by rw [hc2]; rfl) (by decide) ?_
    refine j_aload_n hX dX12_canStep_78 rfl ?_
    refine j_aload_n hX dX12_canStep_79 rfl ?_
    refine j_iload_n hX dX12_canStep_80 rfl ?_
    obtain ⟨v7, hh8, hf⟩ := bd1 hf
    refine j_cV2i hX lk_X12_396 kX12 dX12_canStep_81 (sh_50 hG) (okX12_canWake hG h1 hh8) rfl rfl (rmm (by omega) hRf hRl (by decide)) (Nat.le_of_ble_eq_true rfl) (Nat.le_add_right _ _) (Nat.le_add_right _ _) ?_
    obtain ⟨hg, hf⟩ := gd hf
    cases hf
    exact j_ret hX hr hlk hg dX12_canStep_84
  refine sw2 (k := 3) hf (fun hc3 hf => ?_) (fun hc3 hf => ?_)
  · refine j_tabIn (off := 60) (tgt := 85) hX dX12_canStep_25 (by rw [hc3]; decide) (by rw [hc3]; decide) (by rw [hc3]; rfl) (by decide) ?_
    refine j_aload_n hX dX12_canStep_85 rfl ?_
    refine j_aload_n hX dX12_canStep_86 rfl ?_
    refine j_iload_n hX dX12_canStep_87 rfl ?_
    obtain ⟨v9, hh10, hf⟩ := bd1 hf
    refine j_cV2i hX lk_X12_400 kX12 dX12_canStep_88 (sh_50 hG) (okX12_canLie hG h1 hh10) rfl rfl (rmm (by omega) hRf hRl (by decide)) (Nat.le_of_ble_eq_true rfl) (Nat.le_add_right _ _) (Nat.le_add_right _ _) ?_
    obtain ⟨hg, hf⟩ := gd hf
    cases hf
    exact j_ret hX hr hlk hg dX12_canStep_91
  refine sw2 (k := 4) hf (fun hc4 hf => ?_) (fun hc4 hf => ?_)
  · refine j_tabIn (off := 67) (tgt := 92) hX dX12_canStep_25 (by rw [hc4]; decide) (by rw [hc4]; decide) (by rw [hc4]; rfl) (by decide) ?_
    refine j_aload_n hX dX12_canStep_92 rfl ?_
    refine j_iload_n hX dX12_canStep_93 rfl ?_
    refine j_iload hX dX12_canStep_94 rfl ?_
    obtain ⟨v11, hh12, hf⟩ := bd1 hf
    refine j_cV2i hX lk_X12_407 kX12 dX12_canStep_96 (sh_50 hG) (okX12_canSwap hG hh12) rfl rfl (rmm (by omega) hRf hRl (by decide)) (Nat.le_of_ble_eq_true rfl) (Nat.le_add_right _ _) (Nat.le_add_right _ _) ?_
    obtain ⟨hg, hf⟩ := gd hf
    cases hf
    exact j_ret hX hr hlk hg dX12_canStep_99
  refine j_tabOut (tgt := 100) hX dX12_canStep_25 (by have g0 := i32ne (z := 0) hc0 (by decide); have g1 := i32ne (z := 1) hc1 (by decide); have g2 := i32ne (z := 2) hc2 (by decide); have g3 := i32ne (z := 3) hc3 (by decide); have g4 := i32ne (z := 4) hc4 (by decide); omega) (by decide) ?_
  refine j_aload_n hX dX12_canStep_100 rfl ?_
  refine j_iload_n hX dX12_canStep_101 rfl ?_
  obtain ⟨v13, hh14, hf⟩ := bd1 hf
  refine j_cV1i hX lk_X12_374 kX12 dX12_canStep_102 (sh_50 hG) (okX12_isOfficer hG hh14) rfl rfl (rmm (by omega) hRf hRl (by decide)) (Nat.le_of_ble_eq_true rfl) (Nat.le_add_right _ _) (Nat.le_add_right _ _) ?_
  obtain ⟨hg, hf⟩ := gd hf
  cases hf
  exact j_ret hX hr hlk hg dX12_canStep_105
theorem okX12_canStep {l : Launch} {sh : List aSh} {i : Nat → Nat → Int32} {lo : Nat → Nat → Int64} {rv : Nat → Nat → Option Nat}  {w1 : Nat} {n1 : Nat} {a2 : Int32} {vR : Int32} (hG : aGood sh rv) (h1 : sh[w1]? = some (.inl (.int, n1))) (hf : fX12_canStep w1 n1 a2 i = some (vR)) : aM l yX12_canStep cX12_canStep 5 (some .boolean) 2 [.ref (100 + 50), .ref (100 + w1), .int a2] (sh, i, lo, rv) (some (.int vR)) (sh, i, lo, rv) :=
  aM_of (by decide) (Nat.le_of_ble_eq_true rfl) (Nat.le_refl _) (Nat.le_refl _) (fun p e s m args below meth c D cA A ad0 hX hr hlk hnm => kX12_canStep hX hr hlk (Nat.le_refl _) (Nat.le_refl _) h1 hG hf)
def fX12_steps (w1 : Nat) (n1 : Nat) (a2 : Int32) (i : Nat → Nat → Int32) (rv : Nat → Nat → Option Nat) : Option ((Nat → Nat → Int32) × (Nat → Nat → Option Nat)) := if aIn (a2 + (1 : Int32)) 240 = true then
    (lt (i 61 ((a2 + (1 : Int32)) : Int32).toNatClampNeg) fun t1 =>
    if aIn (a2 + (2 : Int32)) 240 = true then
    (lt (i 61 ((a2 + (2 : Int32)) : Int32).toNatClampNeg) fun t2 =>
    if aIn a2 240 = true then
    (if (i 61 (a2 : Int32).toNatClampNeg) = 0 then (bn1 (fX12_moves w1 n1 t1 t2 i) fun i3 =>
    some (i3, rv)) else
    if (i 61 (a2 : Int32).toNatClampNeg) = 1 then (if aIn (((6 : Int32) * t1) + (2 : Int32)) n1 = true then
    (lt (u2 i w1 ((((6 : Int32) * t1) + (2 : Int32)) : Int32).toNatClampNeg t2) fun i5 => some (i5, rv)) else none) else
    if (i 61 (a2 : Int32).toNatClampNeg) = 2 then (bn3 (fX12_wakes w1 n1 t1 0 9 i rv) fun v6 i7 rv8 =>
    some (i7, rv8)) else
    if (i 61 (a2 : Int32).toNatClampNeg) = 3 then (if aIn (((6 : Int32) * t1) + (3 : Int32)) n1 = true then
    (lt (u2 i w1 ((((6 : Int32) * t1) + (3 : Int32)) : Int32).toNatClampNeg 1) fun i10 => some (i10, rv)) else none) else
    if (i 61 (a2 : Int32).toNatClampNeg) = 4 then (bn1 (fX12_swaps w1 n1 t1 t2 i) fun i11 =>
    some (i11, rv)) else
    (bn2 (fX12_goesBorder w1 n1 t1 i rv) fun i13 rv14 =>
    some (i13, rv14))) else none) else none) else none
theorem kX12_steps  {w1 : Nat} {n1 : Nat} {iR : Nat → Nat → Int32} {rvR : Nat → Nat → Option Nat} (hX : aX p s m args c RX12 cX12_steps 6 D cA A ad0) (hr : meth.sig.returnType = none) (hlk : meth.locks = false) (hRf : 1150 ≤ R.frames) (hRl : 64 * 1150 ≤ R.locals) (h1 : sh[w1]? = some (.inl (.int, n1))) {a2 : Int32} (hG : aGood sh rv) (hf : fX12_steps w1 n1 a2 i rv = some (iR, rvR)) : aJ p l e R s m args below meth c (MQ below (aPost D cA ad0 A (sh, i0, lo0, rv0) none (sh, iR, lo, rvR)) args s (sh.length - sh.length) (aSn sh - aSn sh) A) D cA A ad0 6 sh.length (aSn sh) 0 [some (.ref (100 + 50)), some (.ref (100 + w1)), some (.int a2), none, none, none] [] (sh, i, lo, rv) := by
  unfold fX12_steps at hf
  refine j_aload_n hX dX12_steps_0 rfl ?_
  refine j_getR (k := 24) hX kX12 (by decide) fk_X12_55 (rf_50_24 hG) dX12_steps_1 (sh_50 hG) rfl ?_
  refine j_iload_n hX dX12_steps_4 rfl ?_
  refine j_iconst hX dX12_steps_5 ic_1 ?_
  refine j_iadd hX dX12_steps_6 ?_
  refine jpc (b := 7) rfl ?_
  obtain ⟨hg, hf⟩ := gd hf
  refine j_iald hX (sh_61 hG) hg dX12_steps_7 ?_
  have hf := ltd hf
  refine j_istore_n hX dX12_steps_8 (by decide) rfl ?_
  refine j_aload_n hX dX12_steps_9 rfl ?_
  refine j_getR (k := 24) hX kX12 (by decide) fk_X12_55 (rf_50_24 hG) dX12_steps_10 (sh_50 hG) rfl ?_
  refine j_iload_n hX dX12_steps_13 rfl ?_
  refine j_iconst hX dX12_steps_14 ic_2 ?_
  refine jpc (b := 15) rfl ?_
  refine j_iadd hX dX12_steps_15 ?_
  obtain ⟨hg, hf⟩ := gd hf
  refine j_iald hX (sh_61 hG) hg dX12_steps_16 ?_
  have hf := ltd hf
  refine j_istore hX dX12_steps_17 (by decide) rfl ?_
  refine j_aload_n hX dX12_steps_19 rfl ?_
  refine j_getR (k := 24) hX kX12 (by decide) fk_X12_55 (rf_50_24 hG) dX12_steps_20 (sh_50 hG) rfl ?_
  refine j_iload_n hX dX12_steps_23 rfl ?_
  obtain ⟨hg, hf⟩ := gd hf
  refine j_iald hX (sh_61 hG) hg dX12_steps_24 ?_
  refine sw2 (k := 0) hf (fun hc0 hf => ?_) (fun hc0 hf => ?_)
  · refine j_tabIn (off := 35) (tgt := 60) hX dX12_steps_25 (by rw [hc0]; decide) (by rw [hc0]; decide) (by rw [hc0]; rfl) (by decide) ?_
    refine j_aload_n hX dX12_steps_60 rfl ?_
    refine j_aload_n hX dX12_steps_61 rfl ?_
    refine j_iload_n hX dX12_steps_62 rfl ?_
    refine j_iload hX dX12_steps_63 rfl ?_
    obtain ⟨i3, hh4, hf⟩ := bd1 hf
    refine j_cV3v hX lk_X12_389 kX12 dX12_steps_65 (sh_50 hG) (okX12_moves hG h1 hh4) rfl rfl (rmm (by omega) hRf hRl (by decide)) (Nat.le_of_ble_eq_true rfl) (Nat.le_add_right _ _) (Nat.le_add_right _ _) ?_
    refine jpc (b := 68) rfl ?_
    refine j_goto (tgt := 126) hX dX12_steps_68 (by decide) ?_
    cases hf
    exact j_vret hX hr hlk dX12_steps_126
  refine sw2 (k := 1) hf (fun hc1 hf => ?_) (fun hc1 hf => ?_)
  · refine j_tabIn (off := 46) (tgt := 71) hX dX12_steps_25 (by rw [hc1]; decide) (by rw [hc1]; decide) (by rw [hc1]; rfl) (by decide) ?_
    refine j_aload_n hX dX12_steps_71 rfl ?_
    refine j_bipush hX dX12_steps_72 bp_6 ?_
    refine j_iload_n hX dX12_steps_74 rfl ?_
    refine j_imul hX dX12_steps_75 ?_
    refine j_iconst hX dX12_steps_76 ic_2 ?_
    refine jpc (b := 77) rfl ?_
    refine j_iadd hX dX12_steps_77 ?_
    refine j_iload hX dX12_steps_78 rfl ?_
    obtain ⟨hg, hf⟩ := gd hf
    have hf := ltd hf
    refine j_iast hX h1 hg dX12_steps_80 ?_
    refine j_goto (tgt := 126) hX dX12_steps_81 (by decide) ?_
    cases hf
    exact j_vret hX hr hlk dX12_steps_126
  refine sw2 (k := 2) hf (fun hc2 hf => ?_) (fun hc2 hf => ?_)
  · refine j_tabIn (off := 59) (tgt := 84) hX dX12_steps_25 (by rw [hc2]; decide) (by rw [hc2]; decide) (by rw [hc2]; rfl) (by decide) ?_
    refine j_aload_n hX dX12_steps_84 rfl ?_
    refine j_aload_n hX dX12_steps_85 rfl ?_
    refine j_iload_n hX dX12_steps_86 rfl ?_
    refine j_iconst hX dX12_steps_87 ic_0 ?_
    refine j_bipush hX dX12_steps_88 bp_9 ?_
    refine jpc (b := 90) rfl ?_
    obtain ⟨v6, i7, rv8, hh9, hf⟩ := bd3 hf
    refine j_cV4i hX lk_X12_352 kX12 dX12_steps_90 (sh_50 hG) (okX12_wakes hG h1 hh9) rfl rfl (rmm (by omega) hRf hRl (by decide)) (Nat.le_of_ble_eq_true rfl) (Nat.le_add_right _ _) (Nat.le_add_right _ _) ?_
    have hG := gdX12_wakes hG h1 hh9
    refine j_istore hX dX12_steps_93 (by decide) rfl ?_
    refine j_goto (tgt := 126) hX dX12_steps_95 (by decide) ?_
    cases hf
    exact j_vret hX hr hlk dX12_steps_126
  refine sw2 (k := 3) hf (fun hc3 hf => ?_) (fun hc3 hf => ?_)
  · refine j_tabIn (off := 73) (tgt := 98) hX dX12_steps_25 (by rw [hc3]; decide) (by rw [hc3]; decide) (by rw [hc3]; rfl) (by decide) ?_
    refine j_aload_n hX dX12_steps_98 rfl ?_
    refine j_bipush hX dX12_steps_99 bp_6 ?_
    refine j_iload_n hX dX12_steps_101 rfl ?_
    refine j_imul hX dX12_steps_102 ?_
    refine j_iconst hX dX12_steps_103 ic_3 ?_
    refine jpc (b := 104) rfl ?_
    refine j_iadd hX dX12_steps_104 ?_
    refine j_iconst hX dX12_steps_105 ic_1 ?_
    obtain ⟨hg, hf⟩ := gd hf
    have hf := ltd hf
    refine j_iast hX h1 hg dX12_steps_106 ?_
    refine j_goto (tgt := 126) hX dX12_steps_107 (by decide) ?_
    cases hf
    exact j_vret hX hr hlk dX12_steps_126
  refine sw2 (k := 4) hf (fun hc4 hf => ?_) (fun hc4 hf => ?_)
  · refine j_tabIn (off := 85) (tgt := 110) hX dX12_steps_25 (by rw [hc4]; decide) (by rw [hc4]; decide) (by rw [hc4]; rfl) (by decide) ?_
    refine j_aload_n hX dX12_steps_110 rfl ?_
    refine j_iload_n hX dX12_steps_111 rfl ?_
    refine j_iload hX dX12_steps_112 rfl ?_
    obtain ⟨i11, hh12, hf⟩ := bd1 hf
    refine j_cS3v hX lk_X12_410 dX12_steps_114 (okX12_swaps hG h1 hh12) rfl rfl (rmm (by omega) hRf hRl (by decide)) (Nat.le_of_ble_eq_true rfl) (Nat.le_add_right _ _) (Nat.le_add_right _ _) ?_
    refine j_goto (tgt := 126) hX dX12_steps_117 (by decide) ?_
    refine jpc (b := 126) rfl ?_
    cases hf
    exact j_vret hX hr hlk dX12_steps_126
  refine j_tabOut (tgt := 120) hX dX12_steps_25 (by have g0 := i32ne (z := 0) hc0 (by decide); have g1 := i32ne (z := 1) hc1 (by decide); have g2 := i32ne (z := 2) hc2 (by decide); have g3 := i32ne (z := 3) hc3 (by decide); have g4 := i32ne (z := 4) hc4 (by decide); omega) (by decide) ?_
  refine j_aload_n hX dX12_steps_120 rfl ?_
  refine j_aload_n hX dX12_steps_121 rfl ?_
  refine j_iload_n hX dX12_steps_122 rfl ?_
  obtain ⟨i13, rv14, hh15, hf⟩ := bd2 hf
  refine j_cV2v hX lk_X12_416 kX12 dX12_steps_123 (sh_50 hG) (okX12_goesBorder hG h1 hh15) rfl rfl (rmm (by omega) hRf hRl (by decide)) (Nat.le_of_ble_eq_true rfl) (Nat.le_add_right _ _) (Nat.le_add_right _ _) ?_
  have hG := gdX12_goesBorder hG h1 hh15
  cases hf
  exact j_vret hX hr hlk dX12_steps_126
theorem gdX12_steps {w1 : Nat} {n1 : Nat} {iR : Nat → Nat → Int32} {rvR : Nat → Nat → Option Nat} {a2 : Int32} (hG : aGood sh rv) (h1 : sh[w1]? = some (.inl (.int, n1))) (hf : fX12_steps w1 n1 a2 i rv = some (iR, rvR)) : aGood sh rvR := by
  unfold fX12_steps at hf
  obtain ⟨hg, hf⟩ := gd hf
  have hf := ltd hf
  obtain ⟨hg, hf⟩ := gd hf
  have hf := ltd hf
  obtain ⟨hg, hf⟩ := gd hf
  refine sw2 (k := 0) hf (fun hc0 hf => ?_) (fun hc0 hf => ?_)
  · have hf := hf
    obtain ⟨i3, hh4, hf⟩ := bd1 hf
    cases hf
    exact hG
  refine sw2 (k := 1) hf (fun hc1 hf => ?_) (fun hc1 hf => ?_)
  · have hf := hf
    obtain ⟨hg, hf⟩ := gd hf
    have hf := ltd hf
    cases hf
    exact hG
  refine sw2 (k := 2) hf (fun hc2 hf => ?_) (fun hc2 hf => ?_)
  · have hf := hf
    obtain ⟨v6, i7, rv8, hh9, hf⟩ := bd3 hf
    have hG := gdX12_wakes hG h1 hh9
    cases hf
    exact hG
  refine sw2 (k := 3) hf (fun hc3 hf => ?_) (fun hc3 hf => ?_)
  · have hf := hf
    obtain ⟨hg, hf⟩ := gd hf
    have hf := ltd hf
    cases hf
    exact hG
  refine sw2 (k := 4) hf (fun hc4 hf => ?_) (fun hc4 hf => ?_)
  · have hf := hf
    obtain ⟨i11, hh12, hf⟩ := bd1 hf
    cases hf
    exact hG
  obtain ⟨i13, rv14, hh15, hf⟩ := bd2 hf
  have hG := gdX12_goesBorder hG h1 hh15
  cases hf
  exact hG
theorem okX12_steps {l : Launch} {sh : List aSh} {i : Nat → Nat → Int32} {lo : Nat → Nat → Int64} {rv : Nat → Nat → Option Nat}  {w1 : Nat} {n1 : Nat} {a2 : Int32} {iR : Nat → Nat → Int32} {rvR : Nat → Nat → Option Nat} (hG : aGood sh rv) (h1 : sh[w1]? = some (.inl (.int, n1))) (hf : fX12_steps w1 n1 a2 i rv = some (iR, rvR)) : aM l yX12_steps cX12_steps 6 none 1150 [.ref (100 + 50), .ref (100 + w1), .int a2] (sh, i, lo, rv) none (sh, iR, lo, rvR) :=
  aM_of (by decide) (Nat.le_of_ble_eq_true rfl) (Nat.le_refl _) (Nat.le_refl _) (fun p e s m args below meth c D cA A ad0 hX hr hlk hnm => kX12_steps hX hr hlk (Nat.le_refl _) (Nat.le_refl _) h1 hG hf)
def fX12_lostIn_4 (w1 : Nat) (n1 : Nat) : Nat → Int32 → Int32 → (Nat → Nat → Int32) → Option ((Int32))
  | 0, _, _, _ => none
  | n + 1, x2, x3, i => if (i 50 26) ≤ x3 then (some (x2)) else (if aIn (((6 : Int32) * x3) + (5 : Int32)) n1 = true then
    (lt (x2 + (i w1 ((((6 : Int32) * x3) + (5 : Int32)) : Int32).toNatClampNeg)) fun t1 =>
    fX12_lostIn_4 w1 n1 n t1 (x3 + 1) i) else none)
theorem kX12_lostIn_4  {w1 : Nat} {n1 : Nat} {vR : Int32} (hX : aX p s m args c RX12 cX12_lostIn 4 D cA A ad0) (hr : meth.sig.returnType = (some .int)) (hlk : meth.locks = false) (hRf : 0 ≤ R.frames) (hRl : 64 * 0 ≤ R.locals) (h1 : sh[w1]? = some (.inl (.int, n1))) : ∀ (n : Nat) (x2 : Int32) (x3 : Int32), aGood sh rv → fX12_lostIn_4 w1 n1 n x2 x3 i = some (vR) → aJ p l e R s m args below meth c (MQ below (aPost D cA ad0 A (sh, i0, lo0, rv0) (some (.int vR)) (sh, i, lo, rv)) args s (sh.length - sh.length) (aSn sh - aSn sh) A) D cA A ad0 4 sh.length (aSn sh) 4 [some (.ref (100 + 50)), some (.ref (100 + w1)), some (.int x2), some (.int x3)] [] (sh, i, lo, rv) := by
  intro n
  induction n with
  | zero => intros; rename_i hf; cases hf
  | succ n ih =>
    intro x2 x3 hG hf
    rw [fX12_lostIn_4] at hf
    refine j_iload_n hX dX12_lostIn_4 rfl ?_
    refine j_aload_n hX dX12_lostIn_5 rfl ?_
    refine j_getI (k := 26) hX kX12 (by decide) fk_X12_297 dX12_lostIn_6 (sh_50 hG) rfl ?_
    refine j_icmp_ge (tgt := 29) hX dX12_lostIn_9 (by decide) (fun hc => ?_) (fun hc => ?_)
    · have hf := ifp hc hf
      refine j_iload_n hX dX12_lostIn_29 rfl ?_
      cases hf
      exact j_ret hX hr hlk rfl dX12_lostIn_30
    · have hf := ifn hc hf
      refine j_iload_n hX dX12_lostIn_12 rfl ?_
      refine j_aload_n hX dX12_lostIn_13 rfl ?_
      refine j_bipush hX dX12_lostIn_14 bp_6 ?_
      refine j_iload_n hX dX12_lostIn_16 rfl ?_
      refine j_imul hX dX12_lostIn_17 ?_
      refine jpc (b := 18) rfl ?_
      refine j_iconst hX dX12_lostIn_18 ic_5 ?_
      refine j_iadd hX dX12_lostIn_19 ?_
      obtain ⟨hg, hf⟩ := gd hf
      refine j_iald hX h1 hg dX12_lostIn_20 ?_
      refine j_iadd hX dX12_lostIn_21 ?_
      have hf := ltd hf
      refine j_istore_n hX dX12_lostIn_22 (by decide) rfl ?_
      refine j_iinc hX dX12_lostIn_23 rfl (congrArg (_ + ·) ic_1) (by decide) rfl ?_
      refine j_goto (tgt := 4) hX dX12_lostIn_26 (by decide) ?_
      exact aJx (ih _ _ hG  hf) (And.intro rfl (And.intro rfl (And.intro rfl (And.intro rfl (rfl)))))
def fX12_lostIn (w1 : Nat) (n1 : Nat) (i : Nat → Nat → Int32) : Option ((Int32)) := fX12_lostIn_4 w1 n1 fuel 0 0 i
theorem kX12_lostIn  {w1 : Nat} {n1 : Nat} {vR : Int32} (hX : aX p s m args c RX12 cX12_lostIn 4 D cA A ad0) (hr : meth.sig.returnType = (some .int)) (hlk : meth.locks = false) (hRf : 0 ≤ R.frames) (hRl : 64 * 0 ≤ R.locals) (h1 : sh[w1]? = some (.inl (.int, n1))) (hG : aGood sh rv) (hf : fX12_lostIn w1 n1 i = some (vR)) : aJ p l e R s m args below meth c (MQ below (aPost D cA ad0 A (sh, i0, lo0, rv0) (some (.int vR)) (sh, i, lo, rv)) args s (sh.length - sh.length) (aSn sh - aSn sh) A) D cA A ad0 4 sh.length (aSn sh) 0 [some (.ref (100 + 50)), some (.ref (100 + w1)), none, none] [] (sh, i, lo, rv) := by
  unfold fX12_lostIn at hf
  refine j_iconst hX dX12_lostIn_0 ic_0 ?_
  refine j_istore_n hX dX12_lostIn_1 (by decide) rfl ?_
  refine j_iconst hX dX12_lostIn_2 ic_0 ?_
  refine j_istore_n hX dX12_lostIn_3 (by decide) rfl ?_
  exact aJx (kX12_lostIn_4 hX hr hlk hRf hRl h1 fuel _ _ hG  hf) (And.intro rfl (And.intro rfl (And.intro rfl (And.intro rfl (rfl)))))
theorem okX12_lostIn {l : Launch} {sh : List aSh} {i : Nat → Nat → Int32} {lo : Nat → Nat → Int64} {rv : Nat → Nat → Option Nat}  {w1 : Nat} {n1 : Nat} {vR : Int32} (hG : aGood sh rv) (h1 : sh[w1]? = some (.inl (.int, n1))) (hf : fX12_lostIn w1 n1 i = some (vR)) : aM l yX12_lostIn cX12_lostIn 4 (some .int) 0 [.ref (100 + 50), .ref (100 + w1)] (sh, i, lo, rv) (some (.int vR)) (sh, i, lo, rv) :=
  aM_of (by decide) (Nat.le_of_ble_eq_true rfl) (Nat.le_refl _) (Nat.le_refl _) (fun p e s m args below meth c D cA A ad0 hX hr hlk hnm => kX12_lostIn hX hr hlk (Nat.le_refl _) (Nat.le_refl _) h1 hG hf)
def fX12_run_98 (x1 : Int32) (x2 : Int32) (x3 : Int32) (i : Nat → Nat → Int32) (rv : Nat → Nat → Option Nat) : Option ((Int32) × (Nat → Nat → Int32) × (Nat → Nat → Option Nat)) := if x2 = 1 then (bn1 (fX12_lostIn 64 296 i) fun v13 =>
    bn1 (fX12_lostIn 63 296 i) fun v15 =>
    some ((v13 - v15), i, rv)) else (if aIn x1 5 = true then
    (if x3 = (i 62 (x1 : Int32).toNatClampNeg) then (some ((-1), i, rv)) else (some (x3, i, rv))) else none)
theorem kX12_run_98  {vR : Int32} {iR : Nat → Nat → Int32} {rvR : Nat → Nat → Option Nat} (hX : aX p s m args c RX12 cX12_run 4 D cA A ad0) (hr : meth.sig.returnType = (some .int)) (hlk : meth.locks = false) (hRf : 1151 ≤ R.frames) (hRl : 64 * 1151 ≤ R.locals) {x1 : Int32} {x2 : Int32} {x3 : Int32} (hG : aGood sh rv) (hf : fX12_run_98 x1 x2 x3 i rv = some (vR, iR, rvR)) : aJ p l e R s m args below meth c (MQ below (aPost D cA ad0 A (sh, i0, lo0, rv0) (some (.int vR)) (sh, iR, lo, rvR)) args s (sh.length - sh.length) (aSn sh - aSn sh) A) D cA A ad0 4 sh.length (aSn sh) 98 [some (.ref (100 + 50)), some (.int x1), some (.int x2), some (.int x3)] [] (sh, i, lo, rv) := by
  unfold fX12_run_98 at hf
  refine j_iload_n hX dX12_run_98 rfl ?_
  refine j_iconst hX dX12_run_99 ic_1 ?_
  refine j_icmp_ne (tgt := 121) hX dX12_run_100 (by decide) (fun hc => ?_) (fun hc => ?_)
  · have hf := ifn hc hf
    refine j_iload_n hX dX12_run_121 rfl ?_
    refine j_aload_n hX dX12_run_122 rfl ?_
    refine j_getR (k := 25) hX kX12 (by decide) fk_X12_58 (rf_50_25 hG) dX12_run_123 (sh_50 hG) rfl ?_
    refine j_iload_n hX dX12_run_126 rfl ?_
    obtain ⟨hg, hf⟩ := gd hf
    refine j_iald hX (sh_62 hG) hg dX12_run_127 ?_
    refine j_icmp_ne (tgt := 135) hX dX12_run_128 (by decide) (fun hc => ?_) (fun hc => ?_)
    · have hf := ifn hc hf
      refine j_iload_n hX dX12_run_135 rfl ?_
      cases hf
      exact j_ret hX hr hlk rfl dX12_run_136
    · have hf := ifp hc hf
      refine j_iconst hX dX12_run_131 ic_m1 ?_
      refine j_goto (tgt := 136) hX dX12_run_132 (by decide) ?_
      cases hf
      exact j_ret hX hr hlk rfl dX12_run_136
  · have hf := ifp hc hf
    refine j_aload_n hX dX12_run_103 rfl ?_
    refine j_aload_n hX dX12_run_104 rfl ?_
    refine j_getR (k := 34) hX kX12 (by decide) fk_X12_64 (rf_50_34 hG) dX12_run_105 (sh_50 hG) rfl ?_
    obtain ⟨v13, hh14, hf⟩ := bd1 hf
    refine j_cV1i hX lk_X12_448 kX12 dX12_run_108 (sh_50 hG) (okX12_lostIn hG (sh_64 hG) hh14) rfl rfl (rmm (by omega) hRf hRl (by decide)) (Nat.le_of_ble_eq_true rfl) (Nat.le_add_right _ _) (Nat.le_add_right _ _) ?_
    refine j_aload_n hX dX12_run_111 rfl ?_
    refine jpc (b := 112) rfl ?_
    refine j_aload_n hX dX12_run_112 rfl ?_
    refine j_getR (k := 33) hX kX12 (by decide) fk_X12_61 (rf_50_33 hG) dX12_run_113 (sh_50 hG) rfl ?_
    obtain ⟨v15, hh16, hf⟩ := bd1 hf
    refine j_cV1i hX lk_X12_448 kX12 dX12_run_116 (sh_50 hG) (okX12_lostIn hG (sh_63 hG) hh16) rfl rfl (rmm (by omega) hRf hRl (by decide)) (Nat.le_of_ble_eq_true rfl) (Nat.le_add_right _ _) (Nat.le_add_right _ _) ?_
    refine j_isub hX dX12_run_119 ?_
    cases hf
    exact j_ret hX hr hlk rfl dX12_run_120
theorem gX12_run_98 {vR : Int32} {iR : Nat → Nat → Int32} {rvR : Nat → Nat → Option Nat} {x1 : Int32} {x2 : Int32} {x3 : Int32} (hG : aGood sh rv) (hf : fX12_run_98 x1 x2 x3 i rv = some (vR, iR, rvR)) : aGood sh rvR := by
  unfold fX12_run_98 at hf
  refine ifs2 hf (fun hc hf => ?_) (fun hc hf => ?_)
  · have hf := hf
    obtain ⟨hg, hf⟩ := gd hf
    refine ifs2 hf (fun hc hf => ?_) (fun hc hf => ?_)
    · have hf := hf
      cases hf
      exact hG
    · have hf := hf
      cases hf
      exact hG
  · have hf := hf
    obtain ⟨v13, hh14, hf⟩ := bd1 hf
    obtain ⟨v15, hh16, hf⟩ := bd1 hf
    cases hf
    exact hG
def fX12_run_47 : Nat → Int32 → Int32 → Int32 → (Nat → Nat → Int32) → (Nat → Nat → Option Nat) → Option ((Int32) × (Nat → Nat → Int32) × (Nat → Nat → Option Nat))
  | 0, _, _, _, _, _ => none
  | n + 1, x1, x2, x3, i, rv => if aIn x1 5 = true then
    (if (i 62 (x1 : Int32).toNatClampNeg) ≤ x3 then (fX12_run_98 x1 x2 x3 i rv) else (bn1 (fX12_canStep 64 296 ((3 : Int32) * (((16 : Int32) * x1) + x3)) i) fun v8 =>
    if v8 = 0 then (fX12_run_98 x1 x2 x3 i rv) else (bn2 (fX12_steps 64 296 ((3 : Int32) * (((16 : Int32) * x1) + x3)) i rv) fun i10 rv11 =>
    fX12_run_47 n x1 x2 (x3 + 1) i10 rv11))) else none
theorem kX12_run_47  {vR : Int32} {iR : Nat → Nat → Int32} {rvR : Nat → Nat → Option Nat} (hX : aX p s m args c RX12 cX12_run 4 D cA A ad0) (hr : meth.sig.returnType = (some .int)) (hlk : meth.locks = false) (hRf : 1151 ≤ R.frames) (hRl : 64 * 1151 ≤ R.locals) : ∀ (n : Nat) (x1 : Int32) (x2 : Int32) (x3 : Int32) (i : Nat → Nat → Int32) (rv : Nat → Nat → Option Nat), aGood sh rv → fX12_run_47 n x1 x2 x3 i rv = some (vR, iR, rvR) → aJ p l e R s m args below meth c (MQ below (aPost D cA ad0 A (sh, i0, lo0, rv0) (some (.int vR)) (sh, iR, lo, rvR)) args s (sh.length - sh.length) (aSn sh - aSn sh) A) D cA A ad0 4 sh.length (aSn sh) 47 [some (.ref (100 + 50)), some (.int x1), some (.int x2), some (.int x3)] [] (sh, i, lo, rv) := by
  intro n
  induction n with
  | zero => intros; rename_i hf; cases hf
  | succ n ih =>
    intro x1 x2 x3 i rv hG hf
    rw [fX12_run_47] at hf
    refine j_iload_n hX dX12_run_47 rfl ?_
    refine j_aload_n hX dX12_run_48 rfl ?_
    refine j_getR (k := 25) hX kX12 (by decide) fk_X12_58 (rf_50_25 hG) dX12_run_49 (sh_50 hG) rfl ?_
    refine j_iload_n hX dX12_run_52 rfl ?_
    obtain ⟨hg, hf⟩ := gd hf
    refine j_iald hX (sh_62 hG) hg dX12_run_53 ?_
    refine j_icmp_ge (tgt := 98) hX dX12_run_54 (by decide) (fun hc => ?_) (fun hc => ?_)
    · have hf := ifp hc hf
      exact aJx (kX12_run_98 hX hr hlk hRf hRl hG  hf) (And.intro rfl (And.intro rfl (And.intro rfl (And.intro rfl (rfl)))))
    · have hf := ifn hc hf
      refine j_aload_n hX dX12_run_57 rfl ?_
      refine j_aload_n hX dX12_run_58 rfl ?_
      refine j_getR (k := 34) hX kX12 (by decide) fk_X12_64 (rf_50_34 hG) dX12_run_59 (sh_50 hG) rfl ?_
      refine j_iconst hX dX12_run_62 ic_3 ?_
      refine j_bipush hX dX12_run_63 bp_16 ?_
      refine jpc (b := 65) rfl ?_
      refine j_iload_n hX dX12_run_65 rfl ?_
      refine j_imul hX dX12_run_66 ?_
      refine j_iload_n hX dX12_run_67 rfl ?_
      refine j_iadd hX dX12_run_68 ?_
      refine j_imul hX dX12_run_69 ?_
      obtain ⟨v8, hh9, hf⟩ := bd1 hf
      refine j_cV2i hX lk_X12_442 kX12 dX12_run_70 (sh_50 hG) (okX12_canStep hG (sh_64 hG) hh9) rfl rfl (rmm (by omega) hRf hRl (by decide)) (Nat.le_of_ble_eq_true rfl) (Nat.le_add_right _ _) (Nat.le_add_right _ _) ?_
      refine jpc (b := 73) rfl ?_
      refine j_if_eq (tgt := 98) hX dX12_run_73 (by decide) (fun hc => ?_) (fun hc => ?_)
      · have hf := ifp hc hf
        exact aJx (kX12_run_98 hX hr hlk hRf hRl hG  hf) (And.intro rfl (And.intro rfl (And.intro rfl (And.intro rfl (rfl)))))
      · have hf := ifn hc hf
        refine j_aload_n hX dX12_run_76 rfl ?_
        refine j_aload_n hX dX12_run_77 rfl ?_
        refine j_getR (k := 34) hX kX12 (by decide) fk_X12_64 (rf_50_34 hG) dX12_run_78 (sh_50 hG) rfl ?_
        refine j_iconst hX dX12_run_81 ic_3 ?_
        refine j_bipush hX dX12_run_82 bp_16 ?_
        refine jpc (b := 84) rfl ?_
        refine j_iload_n hX dX12_run_84 rfl ?_
        refine j_imul hX dX12_run_85 ?_
        refine j_iload_n hX dX12_run_86 rfl ?_
        refine j_iadd hX dX12_run_87 ?_
        refine j_imul hX dX12_run_88 ?_
        obtain ⟨i10, rv11, hh12, hf⟩ := bd2 hf
        refine j_cV2v hX lk_X12_445 kX12 dX12_run_89 (sh_50 hG) (okX12_steps hG (sh_64 hG) hh12) rfl rfl (rmm (by omega) hRf hRl (by decide)) (Nat.le_of_ble_eq_true rfl) (Nat.le_add_right _ _) (Nat.le_add_right _ _) ?_
        have hG := gdX12_steps hG (sh_64 hG) hh12
        refine jpc (b := 92) rfl ?_
        refine j_iinc hX dX12_run_92 rfl (congrArg (_ + ·) ic_1) (by decide) rfl ?_
        refine j_goto (tgt := 47) hX dX12_run_95 (by decide) ?_
        exact aJx (ih _ _ _ _ _ hG  hf) (And.intro rfl (And.intro rfl (And.intro rfl (And.intro rfl (rfl)))))
theorem gX12_run_47 {vR : Int32} {iR : Nat → Nat → Int32} {rvR : Nat → Nat → Option Nat} : ∀ (n : Nat) (x1 : Int32) (x2 : Int32) (x3 : Int32) (i : Nat → Nat → Int32) (rv : Nat → Nat → Option Nat), aGood sh rv → fX12_run_47 n x1 x2 x3 i rv = some (vR, iR, rvR) → aGood sh rvR := by
  intro n
  induction n with
  | zero => intros; rename_i hf; cases hf
  | succ n ih =>
    intro x1 x2 x3 i rv hG hf
    rw [fX12_run_47] at hf
    obtain ⟨hg, hf⟩ := gd hf
    refine ifs hf (fun hc hf => ?_) (fun hc hf => ?_)
    · have hf := hf
      exact gX12_run_98 hG  hf
    · have hf := hf
      obtain ⟨v8, hh9, hf⟩ := bd1 hf
      refine ifs hf (fun hc hf => ?_) (fun hc hf => ?_)
      · have hf := hf
        exact gX12_run_98 hG  hf
      · have hf := hf
        obtain ⟨i10, rv11, hh12, hf⟩ := bd2 hf
        have hG := gdX12_steps hG (sh_64 hG) hh12
        exact ih _ _ _ _ _ hG  hf
def fX12_run (a1 : Int32) (a2 : Int32) (i : Nat → Nat → Int32) (rv : Nat → Nat → Option Nat) : Option ((Int32) × (Nat → Nat → Int32) × (Nat → Nat → Option Nat)) := lt (u2 i 50 0 0) fun i1 =>
    bn1 (fX12_isLine a1 i1) fun v2 =>
    if v2 = 0 then (some ((-1000000), i1, rv)) else (if (i1 50 26) = 0 then (some ((-1000000), i1, rv)) else (bn1 (fX12_isIn (a2 : Int32).toInt64 0 1) fun v4 =>
    if v4 = 0 then (some ((-1000000), i1, rv)) else (bn1 (fX12_copy 63 296 64 296 i1) fun i6 =>
    fX12_run_47 fuel a1 a2 0 i6 rv)))
theorem kX12_run  {vR : Int32} {iR : Nat → Nat → Int32} {rvR : Nat → Nat → Option Nat} (hX : aX p s m args c RX12 cX12_run 4 D cA A ad0) (hr : meth.sig.returnType = (some .int)) (hlk : meth.locks = false) (hRf : 1151 ≤ R.frames) (hRl : 64 * 1151 ≤ R.locals) {a1 : Int32} {a2 : Int32} (hG : aGood sh rv) (hf : fX12_run a1 a2 i rv = some (vR, iR, rvR)) : aJ p l e R s m args below meth c (MQ below (aPost D cA ad0 A (sh, i0, lo0, rv0) (some (.int vR)) (sh, iR, lo, rvR)) args s (sh.length - sh.length) (aSn sh - aSn sh) A) D cA A ad0 4 sh.length (aSn sh) 0 [some (.ref (100 + 50)), some (.int a1), some (.int a2), none] [] (sh, i, lo, rv) := by
  unfold fX12_run at hf
  refine j_aload_n hX dX12_run_0 rfl ?_
  refine j_iconst hX dX12_run_1 ic_0 ?_
  have hf := ltd hf
  refine j_putI (k := 0) hX kX12 (by decide) fk_X12_99 dX12_run_2 (sh_50 hG) rfl rfl rfl rfl ?_
  refine j_aload_n hX dX12_run_5 rfl ?_
  refine j_iload_n hX dX12_run_6 rfl ?_
  refine jpc (b := 7) rfl ?_
  obtain ⟨v2, hh3, hf⟩ := bd1 hf
  refine j_cV1i hX lk_X12_438 kX12 dX12_run_7 (sh_50 hG) (okX12_isLine hG hh3) rfl rfl (rmm (by omega) hRf hRl (by decide)) (Nat.le_of_ble_eq_true rfl) (Nat.le_add_right _ _) (Nat.le_add_right _ _) ?_
  refine j_if_eq (tgt := 30) hX dX12_run_10 (by decide) (fun hc => ?_) (fun hc => ?_)
  · have hf := ifp hc hf
    refine j_ldc_w hX kc_X12_441 dX12_run_30 ?_
    cases hf
    exact j_ret hX hr hlk rfl dX12_run_33
  · have hf := ifn hc hf
    refine j_aload_n hX dX12_run_13 rfl ?_
    refine j_getI (k := 26) hX kX12 (by decide) fk_X12_297 dX12_run_14 (sh_50 hG) rfl ?_
    refine j_if_eq (tgt := 30) hX dX12_run_17 (by decide) (fun hc => ?_) (fun hc => ?_)
    · have hf := ifp hc hf
      refine j_ldc_w hX kc_X12_441 dX12_run_30 ?_
      cases hf
      exact j_ret hX hr hlk rfl dX12_run_33
    · have hf := ifn hc hf
      refine j_iload_n hX dX12_run_20 rfl ?_
      refine j_i2l hX dX12_run_21 ?_
      refine j_lconst (v := 0) hX dX12_run_22 (by decide) ?_
      refine j_lconst (v := 1) hX dX12_run_23 (by decide) ?_
      obtain ⟨v4, hh5, hf⟩ := bd1 hf
      refine j_cS3i hX lk_X12_220 dX12_run_24 (okX12_isIn hG hh5) rfl rfl (rmm (by omega) hRf hRl (by decide)) (Nat.le_of_ble_eq_true rfl) (Nat.le_add_right _ _) (Nat.le_add_right _ _) ?_
      refine jpc (b := 27) rfl ?_
      refine j_if_ne (tgt := 34) hX dX12_run_27 (by decide) (fun hc => ?_) (fun hc => ?_)
      · have hf := ifn hc hf
        refine j_aload_n hX dX12_run_34 rfl ?_
        refine j_getR (k := 33) hX kX12 (by decide) fk_X12_61 (rf_50_33 hG) dX12_run_35 (sh_50 hG) rfl ?_
        refine j_aload_n hX dX12_run_38 rfl ?_
        refine j_getR (k := 34) hX kX12 (by decide) fk_X12_64 (rf_50_34 hG) dX12_run_39 (sh_50 hG) rfl ?_
        obtain ⟨i6, hh7, hf⟩ := bd1 hf
        refine j_cS2v hX lk_X12_359 dX12_run_42 (okX12_copy hG (sh_63 hG) (sh_64 hG) hh7) rfl rfl (rmm (by omega) hRf hRl (by decide)) (Nat.le_of_ble_eq_true rfl) (Nat.le_add_right _ _) (Nat.le_add_right _ _) ?_
        refine jpc (b := 45) rfl ?_
        refine j_iconst hX dX12_run_45 ic_0 ?_
        refine j_istore_n hX dX12_run_46 (by decide) rfl ?_
        exact aJx (kX12_run_47 hX hr hlk hRf hRl fuel _ _ _ _ _ hG  hf) (And.intro rfl (And.intro rfl (And.intro rfl (And.intro rfl (rfl)))))
      · have hf := ifp hc hf
        refine j_ldc_w hX kc_X12_441 dX12_run_30 ?_
        cases hf
        exact j_ret hX hr hlk rfl dX12_run_33
theorem gdX12_run {vR : Int32} {iR : Nat → Nat → Int32} {rvR : Nat → Nat → Option Nat} {a1 : Int32} {a2 : Int32} (hG : aGood sh rv) (hf : fX12_run a1 a2 i rv = some (vR, iR, rvR)) : aGood sh rvR := by
  unfold fX12_run at hf
  have hf := ltd hf
  obtain ⟨v2, hh3, hf⟩ := bd1 hf
  refine ifs hf (fun hc hf => ?_) (fun hc hf => ?_)
  · have hf := hf
    cases hf
    exact hG
  · have hf := hf
    refine ifs hf (fun hc hf => ?_) (fun hc hf => ?_)
    · have hf := hf
      cases hf
      exact hG
    · have hf := hf
      obtain ⟨v4, hh5, hf⟩ := bd1 hf
      refine ifs2 hf (fun hc hf => ?_) (fun hc hf => ?_)
      · have hf := hf
        obtain ⟨i6, hh7, hf⟩ := bd1 hf
        exact gX12_run_47 fuel _ _ _ _ _ hG  hf
      · have hf := hf
        cases hf
        exact hG
theorem okX12_run {l : Launch} {sh : List aSh} {i : Nat → Nat → Int32} {lo : Nat → Nat → Int64} {rv : Nat → Nat → Option Nat}  {a1 : Int32} {a2 : Int32} {vR : Int32} {iR : Nat → Nat → Int32} {rvR : Nat → Nat → Option Nat} (hG : aGood sh rv) (hf : fX12_run a1 a2 i rv = some (vR, iR, rvR)) : aM l yX12_run cX12_run 4 (some .int) 1151 [.ref (100 + 50), .int a1, .int a2] (sh, i, lo, rv) (some (.int vR)) (sh, iR, lo, rvR) :=
  aM_of (by decide) (Nat.le_of_ble_eq_true rfl) (Nat.le_refl _) (Nat.le_refl _) (fun p e s m args below meth c D cA A ad0 hX hr hlk hnm => kX12_run hX hr hlk (Nat.le_refl _) (Nat.le_refl _) hG hf)
def fX12_perform_24 : Nat → Int32 → Int32 → (Nat → Nat → Int32) → (Nat → Nat → Option Nat) → Option ((Int32) × (Nat → Nat → Int32) × (Nat → Nat → Option Nat))
  | 0, _, _, _, _ => none
  | n + 1, x1, x2, i, rv => if aIn x1 5 = true then
    (if (i 62 (x1 : Int32).toNatClampNeg) ≤ x2 then (some (x2, i, rv)) else (bn1 (fX12_canStep 63 296 ((3 : Int32) * (((16 : Int32) * x1) + x2)) i) fun v4 =>
    if v4 = 0 then (some (x2, i, rv)) else (bn1 (fX12_remember i) fun i6 =>
    bn2 (fX12_steps 63 296 ((3 : Int32) * (((16 : Int32) * x1) + x2)) i6 rv) fun i8 rv9 =>
    fX12_perform_24 n x1 (x2 + 1) i8 rv9))) else none
theorem kX12_perform_24  {vR : Int32} {iR : Nat → Nat → Int32} {rvR : Nat → Nat → Option Nat} (hX : aX p s m args c RX12 cX12_perform 3 D cA A ad0) (hr : meth.sig.returnType = (some .int)) (hlk : meth.locks = false) (hRf : 1151 ≤ R.frames) (hRl : 64 * 1151 ≤ R.locals) : ∀ (n : Nat) (x1 : Int32) (x2 : Int32) (i : Nat → Nat → Int32) (rv : Nat → Nat → Option Nat), aGood sh rv → fX12_perform_24 n x1 x2 i rv = some (vR, iR, rvR) → aJ p l e R s m args below meth c (MQ below (aPost D cA ad0 A (sh, i0, lo0, rv0) (some (.int vR)) (sh, iR, lo, rvR)) args s (sh.length - sh.length) (aSn sh - aSn sh) A) D cA A ad0 3 sh.length (aSn sh) 24 [some (.ref (100 + 50)), some (.int x1), some (.int x2)] [] (sh, i, lo, rv) := by
  intro n
  induction n with
  | zero => intros; rename_i hf; cases hf
  | succ n ih =>
    intro x1 x2 i rv hG hf
    rw [fX12_perform_24] at hf
    refine j_iload_n hX dX12_perform_24 rfl ?_
    refine j_aload_n hX dX12_perform_25 rfl ?_
    refine j_getR (k := 25) hX kX12 (by decide) fk_X12_58 (rf_50_25 hG) dX12_perform_26 (sh_50 hG) rfl ?_
    refine j_iload_n hX dX12_perform_29 rfl ?_
    obtain ⟨hg, hf⟩ := gd hf
    refine j_iald hX (sh_62 hG) hg dX12_perform_30 ?_
    refine j_icmp_ge (tgt := 79) hX dX12_perform_31 (by decide) (fun hc => ?_) (fun hc => ?_)
    · have hf := ifp hc hf
      refine j_iload_n hX dX12_perform_79 rfl ?_
      cases hf
      exact j_ret hX hr hlk rfl dX12_perform_80
    · have hf := ifn hc hf
      refine j_aload_n hX dX12_perform_34 rfl ?_
      refine j_aload_n hX dX12_perform_35 rfl ?_
      refine j_getR (k := 33) hX kX12 (by decide) fk_X12_61 (rf_50_33 hG) dX12_perform_36 (sh_50 hG) rfl ?_
      refine j_iconst hX dX12_perform_39 ic_3 ?_
      refine j_bipush hX dX12_perform_40 bp_16 ?_
      refine jpc (b := 42) rfl ?_
      refine j_iload_n hX dX12_perform_42 rfl ?_
      refine j_imul hX dX12_perform_43 ?_
      refine j_iload_n hX dX12_perform_44 rfl ?_
      refine j_iadd hX dX12_perform_45 ?_
      refine j_imul hX dX12_perform_46 ?_
      obtain ⟨v4, hh5, hf⟩ := bd1 hf
      refine j_cV2i hX lk_X12_442 kX12 dX12_perform_47 (sh_50 hG) (okX12_canStep hG (sh_63 hG) hh5) rfl rfl (rmm (by omega) hRf hRl (by decide)) (Nat.le_of_ble_eq_true rfl) (Nat.le_add_right _ _) (Nat.le_add_right _ _) ?_
      refine jpc (b := 50) rfl ?_
      refine j_if_eq (tgt := 79) hX dX12_perform_50 (by decide) (fun hc => ?_) (fun hc => ?_)
      · have hf := ifp hc hf
        refine j_iload_n hX dX12_perform_79 rfl ?_
        cases hf
        exact j_ret hX hr hlk rfl dX12_perform_80
      · have hf := ifn hc hf
        refine j_aload_n hX dX12_perform_53 rfl ?_
        obtain ⟨i6, hh7, hf⟩ := bd1 hf
        refine j_cV0v hX lk_X12_386 kX12 dX12_perform_54 (sh_50 hG) (okX12_remember hG hh7) rfl rfl (rmm (by omega) hRf hRl (by decide)) (Nat.le_of_ble_eq_true rfl) (Nat.le_add_right _ _) (Nat.le_add_right _ _) ?_
        refine j_aload_n hX dX12_perform_57 rfl ?_
        refine j_aload_n hX dX12_perform_58 rfl ?_
        refine j_getR (k := 33) hX kX12 (by decide) fk_X12_61 (rf_50_33 hG) dX12_perform_59 (sh_50 hG) rfl ?_
        refine jpc (b := 62) rfl ?_
        refine j_iconst hX dX12_perform_62 ic_3 ?_
        refine j_bipush hX dX12_perform_63 bp_16 ?_
        refine j_iload_n hX dX12_perform_65 rfl ?_
        refine j_imul hX dX12_perform_66 ?_
        refine j_iload_n hX dX12_perform_67 rfl ?_
        refine j_iadd hX dX12_perform_68 ?_
        refine jpc (b := 69) rfl ?_
        refine j_imul hX dX12_perform_69 ?_
        obtain ⟨i8, rv9, hh10, hf⟩ := bd2 hf
        refine j_cV2v hX lk_X12_445 kX12 dX12_perform_70 (sh_50 hG) (okX12_steps hG (sh_63 hG) hh10) rfl rfl (rmm (by omega) hRf hRl (by decide)) (Nat.le_of_ble_eq_true rfl) (Nat.le_add_right _ _) (Nat.le_add_right _ _) ?_
        have hG := gdX12_steps hG (sh_63 hG) hh10
        refine j_iinc hX dX12_perform_73 rfl (congrArg (_ + ·) ic_1) (by decide) rfl ?_
        refine j_goto (tgt := 24) hX dX12_perform_76 (by decide) ?_
        exact aJx (ih _ _ _ _ hG  hf) (And.intro rfl (And.intro rfl (And.intro rfl (rfl))))
theorem gX12_perform_24 {vR : Int32} {iR : Nat → Nat → Int32} {rvR : Nat → Nat → Option Nat} : ∀ (n : Nat) (x1 : Int32) (x2 : Int32) (i : Nat → Nat → Int32) (rv : Nat → Nat → Option Nat), aGood sh rv → fX12_perform_24 n x1 x2 i rv = some (vR, iR, rvR) → aGood sh rvR := by
  intro n
  induction n with
  | zero => intros; rename_i hf; cases hf
  | succ n ih =>
    intro x1 x2 i rv hG hf
    rw [fX12_perform_24] at hf
    obtain ⟨hg, hf⟩ := gd hf
    refine ifs hf (fun hc hf => ?_) (fun hc hf => ?_)
    · have hf := hf
      cases hf
      exact hG
    · have hf := hf
      obtain ⟨v4, hh5, hf⟩ := bd1 hf
      refine ifs hf (fun hc hf => ?_) (fun hc hf => ?_)
      · have hf := hf
        cases hf
        exact hG
      · have hf := hf
        obtain ⟨i6, hh7, hf⟩ := bd1 hf
        obtain ⟨i8, rv9, hh10, hf⟩ := bd2 hf
        have hG := gdX12_steps hG (sh_63 hG) hh10
        exact ih _ _ _ _ hG  hf
def fX12_perform (a1 : Int32) (i : Nat → Nat → Int32) (rv : Nat → Nat → Option Nat) : Option ((Int32) × (Nat → Nat → Int32) × (Nat → Nat → Option Nat)) := lt (u2 i 50 0 0) fun i1 =>
    bn1 (fX12_isLine a1 i1) fun v2 =>
    if v2 = 0 then (some ((-1), i1, rv)) else (if (i1 50 26) = 0 then (some ((-1), i1, rv)) else (fX12_perform_24 fuel a1 0 i1 rv))
theorem kX12_perform  {vR : Int32} {iR : Nat → Nat → Int32} {rvR : Nat → Nat → Option Nat} (hX : aX p s m args c RX12 cX12_perform 3 D cA A ad0) (hr : meth.sig.returnType = (some .int)) (hlk : meth.locks = false) (hRf : 1151 ≤ R.frames) (hRl : 64 * 1151 ≤ R.locals) {a1 : Int32} (hG : aGood sh rv) (hf : fX12_perform a1 i rv = some (vR, iR, rvR)) : aJ p l e R s m args below meth c (MQ below (aPost D cA ad0 A (sh, i0, lo0, rv0) (some (.int vR)) (sh, iR, lo, rvR)) args s (sh.length - sh.length) (aSn sh - aSn sh) A) D cA A ad0 3 sh.length (aSn sh) 0 [some (.ref (100 + 50)), some (.int a1), none] [] (sh, i, lo, rv) := by
  unfold fX12_perform at hf
  refine j_aload_n hX dX12_perform_0 rfl ?_
  refine j_iconst hX dX12_perform_1 ic_0 ?_
  have hf := ltd hf
  refine j_putI (k := 0) hX kX12 (by decide) fk_X12_99 dX12_perform_2 (sh_50 hG) rfl rfl rfl rfl ?_
  refine j_aload_n hX dX12_perform_5 rfl ?_
  refine j_iload_n hX dX12_perform_6 rfl ?_
  refine jpc (b := 7) rfl ?_
  obtain ⟨v2, hh3, hf⟩ := bd1 hf
  refine j_cV1i hX lk_X12_438 kX12 dX12_perform_7 (sh_50 hG) (okX12_isLine hG hh3) rfl rfl (rmm (by omega) hRf hRl (by decide)) (Nat.le_of_ble_eq_true rfl) (Nat.le_add_right _ _) (Nat.le_add_right _ _) ?_
  refine j_if_eq (tgt := 20) hX dX12_perform_10 (by decide) (fun hc => ?_) (fun hc => ?_)
  · have hf := ifp hc hf
    refine j_iconst hX dX12_perform_20 ic_m1 ?_
    cases hf
    exact j_ret hX hr hlk rfl dX12_perform_21
  · have hf := ifn hc hf
    refine j_aload_n hX dX12_perform_13 rfl ?_
    refine j_getI (k := 26) hX kX12 (by decide) fk_X12_297 dX12_perform_14 (sh_50 hG) rfl ?_
    refine j_if_ne (tgt := 22) hX dX12_perform_17 (by decide) (fun hc => ?_) (fun hc => ?_)
    · have hf := ifn hc hf
      refine j_iconst hX dX12_perform_22 ic_0 ?_
      refine j_istore_n hX dX12_perform_23 (by decide) rfl ?_
      exact aJx (kX12_perform_24 hX hr hlk hRf hRl fuel _ _ _ _ hG  hf) (And.intro rfl (And.intro rfl (And.intro rfl (rfl))))
    · have hf := ifp hc hf
      refine j_iconst hX dX12_perform_20 ic_m1 ?_
      cases hf
      exact j_ret hX hr hlk rfl dX12_perform_21
theorem gdX12_perform {vR : Int32} {iR : Nat → Nat → Int32} {rvR : Nat → Nat → Option Nat} {a1 : Int32} (hG : aGood sh rv) (hf : fX12_perform a1 i rv = some (vR, iR, rvR)) : aGood sh rvR := by
  unfold fX12_perform at hf
  have hf := ltd hf
  obtain ⟨v2, hh3, hf⟩ := bd1 hf
  refine ifs hf (fun hc hf => ?_) (fun hc hf => ?_)
  · have hf := hf
    cases hf
    exact hG
  · have hf := hf
    refine ifs2 hf (fun hc hf => ?_) (fun hc hf => ?_)
    · have hf := hf
      exact gX12_perform_24 fuel _ _ _ _ hG  hf
    · have hf := hf
      cases hf
      exact hG
theorem okX12_perform {l : Launch} {sh : List aSh} {i : Nat → Nat → Int32} {lo : Nat → Nat → Int64} {rv : Nat → Nat → Option Nat}  {a1 : Int32} {vR : Int32} {iR : Nat → Nat → Int32} {rvR : Nat → Nat → Option Nat} (hG : aGood sh rv) (hf : fX12_perform a1 i rv = some (vR, iR, rvR)) : aM l yX12_perform cX12_perform 3 (some .int) 1151 [.ref (100 + 50), .int a1] (sh, i, lo, rv) (some (.int vR)) (sh, iR, lo, rvR) :=
  aM_of (by decide) (Nat.le_of_ble_eq_true rfl) (Nat.le_refl _) (Nat.le_refl _) (fun p e s m args below meth c D cA A ad0 hX hr hlk hnm => kX12_perform hX hr hlk (Nat.le_refl _) (Nat.le_refl _) hG hf)
def fX12_time (a1 : Int32) (a2 : Int32) (i : Nat → Nat → Int32) (rv : Nat → Nat → Option Nat) : Option ((Int32) × (Nat → Nat → Int32) × (Nat → Nat → Option Nat)) := lt (u2 i 50 0 0) fun i1 =>
    bn1 (fX12_isOfficer a1 i1) fun v2 =>
    if v2 = 0 then (some ((-1), i1, rv)) else (bn1 (fX12_isIn (a2 : Int32).toInt64 0 1) fun v4 =>
    if v4 = 0 then (some ((-1), i1, rv)) else (bn2 (fX12_tryBorder a1 i1 rv) fun i6 rv7 =>
    if a2 = 0 then (some ((i6 50 37), i6, rv7)) else (some ((i6 50 38), i6, rv7))))
theorem kX12_time  {vR : Int32} {iR : Nat → Nat → Int32} {rvR : Nat → Nat → Option Nat} (hX : aX p s m args c RX12 cX12_time 3 D cA A ad0) (hr : meth.sig.returnType = (some .int)) (hlk : meth.locks = false) (hRf : 1150 ≤ R.frames) (hRl : 64 * 1150 ≤ R.locals) {a1 : Int32} {a2 : Int32} (hG : aGood sh rv) (hf : fX12_time a1 a2 i rv = some (vR, iR, rvR)) : aJ p l e R s m args below meth c (MQ below (aPost D cA ad0 A (sh, i0, lo0, rv0) (some (.int vR)) (sh, iR, lo, rvR)) args s (sh.length - sh.length) (aSn sh - aSn sh) A) D cA A ad0 3 sh.length (aSn sh) 0 [some (.ref (100 + 50)), some (.int a1), some (.int a2)] [] (sh, i, lo, rv) := by
  unfold fX12_time at hf
  refine j_aload_n hX dX12_time_0 rfl ?_
  refine j_iconst hX dX12_time_1 ic_0 ?_
  have hf := ltd hf
  refine j_putI (k := 0) hX kX12 (by decide) fk_X12_99 dX12_time_2 (sh_50 hG) rfl rfl rfl rfl ?_
  refine j_aload_n hX dX12_time_5 rfl ?_
  refine j_iload_n hX dX12_time_6 rfl ?_
  refine jpc (b := 7) rfl ?_
  obtain ⟨v2, hh3, hf⟩ := bd1 hf
  refine j_cV1i hX lk_X12_374 kX12 dX12_time_7 (sh_50 hG) (okX12_isOfficer hG hh3) rfl rfl (rmm (by omega) hRf hRl (by decide)) (Nat.le_of_ble_eq_true rfl) (Nat.le_add_right _ _) (Nat.le_add_right _ _) ?_
  refine j_if_eq (tgt := 23) hX dX12_time_10 (by decide) (fun hc => ?_) (fun hc => ?_)
  · have hf := ifp hc hf
    refine j_iconst hX dX12_time_23 ic_m1 ?_
    cases hf
    exact j_ret hX hr hlk rfl dX12_time_24
  · have hf := ifn hc hf
    refine j_iload_n hX dX12_time_13 rfl ?_
    refine j_i2l hX dX12_time_14 ?_
    refine j_lconst (v := 0) hX dX12_time_15 (by decide) ?_
    refine j_lconst (v := 1) hX dX12_time_16 (by decide) ?_
    obtain ⟨v4, hh5, hf⟩ := bd1 hf
    refine j_cS3i hX lk_X12_220 dX12_time_17 (okX12_isIn hG hh5) rfl rfl (rmm (by omega) hRf hRl (by decide)) (Nat.le_of_ble_eq_true rfl) (Nat.le_add_right _ _) (Nat.le_add_right _ _) ?_
    refine jpc (b := 20) rfl ?_
    refine j_if_ne (tgt := 25) hX dX12_time_20 (by decide) (fun hc => ?_) (fun hc => ?_)
    · have hf := ifn hc hf
      refine j_aload_n hX dX12_time_25 rfl ?_
      refine j_iload_n hX dX12_time_26 rfl ?_
      obtain ⟨i6, rv7, hh8, hf⟩ := bd2 hf
      refine j_cV1v hX lk_X12_451 kX12 dX12_time_27 (sh_50 hG) (okX12_tryBorder hG hh8) rfl rfl (rmm (by omega) hRf hRl (by decide)) (Nat.le_of_ble_eq_true rfl) (Nat.le_add_right _ _) (Nat.le_add_right _ _) ?_
      have hG := gdX12_tryBorder hG hh8
      refine j_iload_n hX dX12_time_30 rfl ?_
      refine j_if_ne (tgt := 41) hX dX12_time_31 (by decide) (fun hc => ?_) (fun hc => ?_)
      · have hf := ifn hc hf
        refine j_aload_n hX dX12_time_41 rfl ?_
        refine j_getI (k := 38) hX kX12 (by decide) fk_X12_336 dX12_time_42 (sh_50 hG) rfl ?_
        cases hf
        exact j_ret hX hr hlk rfl dX12_time_45
      · have hf := ifp hc hf
        refine j_aload_n hX dX12_time_34 rfl ?_
        refine j_getI (k := 37) hX kX12 (by decide) fk_X12_333 dX12_time_35 (sh_50 hG) rfl ?_
        refine j_goto (tgt := 45) hX dX12_time_38 (by decide) ?_
        cases hf
        exact j_ret hX hr hlk rfl dX12_time_45
    · have hf := ifp hc hf
      refine j_iconst hX dX12_time_23 ic_m1 ?_
      cases hf
      exact j_ret hX hr hlk rfl dX12_time_24
theorem gdX12_time {vR : Int32} {iR : Nat → Nat → Int32} {rvR : Nat → Nat → Option Nat} {a1 : Int32} {a2 : Int32} (hG : aGood sh rv) (hf : fX12_time a1 a2 i rv = some (vR, iR, rvR)) : aGood sh rvR := by
  unfold fX12_time at hf
  have hf := ltd hf
  obtain ⟨v2, hh3, hf⟩ := bd1 hf
  refine ifs hf (fun hc hf => ?_) (fun hc hf => ?_)
  · have hf := hf
    cases hf
    exact hG
  · have hf := hf
    obtain ⟨v4, hh5, hf⟩ := bd1 hf
    refine ifs2 hf (fun hc hf => ?_) (fun hc hf => ?_)
    · have hf := hf
      obtain ⟨i6, rv7, hh8, hf⟩ := bd2 hf
      have hG := gdX12_tryBorder hG hh8
      refine ifs2 hf (fun hc hf => ?_) (fun hc hf => ?_)
      · have hf := hf
        cases hf
        exact hG
      · have hf := hf
        cases hf
        exact hG
    · have hf := hf
      cases hf
      exact hG
theorem okX12_time {l : Launch} {sh : List aSh} {i : Nat → Nat → Int32} {lo : Nat → Nat → Int64} {rv : Nat → Nat → Option Nat}  {a1 : Int32} {a2 : Int32} {vR : Int32} {iR : Nat → Nat → Int32} {rvR : Nat → Nat → Option Nat} (hG : aGood sh rv) (hf : fX12_time a1 a2 i rv = some (vR, iR, rvR)) : aM l yX12_time cX12_time 3 (some .int) 1150 [.ref (100 + 50), .int a1, .int a2] (sh, i, lo, rv) (some (.int vR)) (sh, iR, lo, rvR) :=
  aM_of (by decide) (Nat.le_of_ble_eq_true rfl) (Nat.le_refl _) (Nat.le_refl _) (fun p e s m args below meth c D cA A ad0 hX hr hlk hnm => kX12_time hX hr hlk (Nat.le_refl _) (Nat.le_refl _) hG hf)
end DC
