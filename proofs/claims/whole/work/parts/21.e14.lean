/-! decompiled: X12_rests X12_which X12_woken X12_tired X12_beside X12_slack X12_longest X12_image X12_back X12_count -/
section DC
variable {p : Program} {l : Launch} {e : Env} {R : Room} {s : State} {m : MethodId} {args : Array Value} {below : List Frame} {meth : Method} {c : Code} {D : va_G} {cA : FieldType → ClassId} {A : Nat → Prop} {ad0 : Nat → Nat} {sh : List aSh} {i i0 : Nat → Nat → Int32} {lo lo0 : Nat → Nat → Int64} {rv rv0 : Nat → Nat → Option Nat}
def fX12_rests_131 (kh38 : Int32 → Int32 → Int32 → Int32 → Int32 → (Nat → Nat → Int32) → (Nat → Nat → Option Nat) → Option ((Int32) × (Nat → Nat → Int32) × (Nat → Nat → Option Nat))) (x1 : Int32) (x2 : Int32) (x3 : Int32) (x4 : Int32) (x5 : Int32) (i : Nat → Nat → Int32) (rv : Nat → Nat → Option Nat) : Option ((Int32) × (Nat → Nat → Int32) × (Nat → Nat → Option Nat)) := kh38 x1 x2 x3 x4 (x5 + 1) i rv
theorem kX12_rests_131  {vR : Int32} {iR : Nat → Nat → Int32} {rvR : Nat → Nat → Option Nat} (hX : aX p s m args c RX12 cX12_rests 8 D cA A ad0) (hr : meth.sig.returnType = (some .int)) (hlk : meth.locks = false) (hRf : 1148 ≤ R.frames) (hRl : 64 * 1148 ≤ R.locals) {kh38 : Int32 → Int32 → Int32 → Int32 → Int32 → (Nat → Nat → Int32) → (Nat → Nat → Option Nat) → Option ((Int32) × (Nat → Nat → Int32) × (Nat → Nat → Option Nat))} (Hkh38 : ∀ (x1 : Int32) (x2 : Int32) (x3 : Int32) (x4 : Int32) (x5 : Int32) (i : Nat → Nat → Int32) (rv : Nat → Nat → Option Nat), aGood sh rv → kh38 x1 x2 x3 x4 x5 i rv = some (vR, iR, rvR) → aJ p l e R s m args below meth c (MQ below (aPost D cA ad0 A (sh, i0, lo0, rv0) (some (.int vR)) (sh, iR, lo, rvR)) args s (sh.length - sh.length) (aSn sh - aSn sh) A) D cA A ad0 8 sh.length (aSn sh) 38 [some (.ref (100 + 50)), some (.int x1), some (.int x2), some (.int x3), some (.int x4), some (.int x5), none, none] [] (sh, i, lo, rv)) {x1 : Int32} {x2 : Int32} {x3 : Int32} {x4 : Int32} {x5 : Int32} (hG : aGood sh rv) (hf : fX12_rests_131 kh38 x1 x2 x3 x4 x5 i rv = some (vR, iR, rvR)) : aJ p l e R s m args below meth c (MQ below (aPost D cA ad0 A (sh, i0, lo0, rv0) (some (.int vR)) (sh, iR, lo, rvR)) args s (sh.length - sh.length) (aSn sh - aSn sh) A) D cA A ad0 8 sh.length (aSn sh) 131 [some (.ref (100 + 50)), some (.int x1), some (.int x2), some (.int x3), some (.int x4), some (.int x5), none, none] [] (sh, i, lo, rv) := by
  unfold fX12_rests_131 at hf
  refine j_iinc hX dX12_rests_131 rfl (congrArg (_ + ·) ic_1) (by decide) rfl ?_
  refine j_goto (tgt := 38) hX dX12_rests_134 (by decide) ?_
  exact aJx (Hkh38 _ _ _ _ _ _ _ hG  hf) (And.intro rfl (And.intro rfl (And.intro rfl (And.intro rfl (And.intro rfl (And.intro rfl (rfl)))))))
theorem gX12_rests_131 {vR : Int32} {iR : Nat → Nat → Int32} {rvR : Nat → Nat → Option Nat} {kh38 : Int32 → Int32 → Int32 → Int32 → Int32 → (Nat → Nat → Int32) → (Nat → Nat → Option Nat) → Option ((Int32) × (Nat → Nat → Int32) × (Nat → Nat → Option Nat))} (Hkh38 : ∀ (x1 : Int32) (x2 : Int32) (x3 : Int32) (x4 : Int32) (x5 : Int32) (i : Nat → Nat → Int32) (rv : Nat → Nat → Option Nat), aGood sh rv → kh38 x1 x2 x3 x4 x5 i rv = some (vR, iR, rvR) → aGood sh rvR) {x1 : Int32} {x2 : Int32} {x3 : Int32} {x4 : Int32} {x5 : Int32} (hG : aGood sh rv) (hf : fX12_rests_131 kh38 x1 x2 x3 x4 x5 i rv = some (vR, iR, rvR)) : aGood sh rvR := by
  unfold fX12_rests_131 at hf
  exact Hkh38 _ _ _ _ _ _ _ hG  hf
def fX12_rests_38 : Nat → Int32 → Int32 → Int32 → Int32 → Int32 → (Nat → Nat → Int32) → (Nat → Nat → Option Nat) → Option ((Int32) × (Nat → Nat → Int32) × (Nat → Nat → Option Nat))
  | 0, _, _, _, _, _, _, _ => none
  | n + 1, x1, x2, x3, x4, x5, i, rv => if 4 ≤ x5 then (if x3 = (-1) then (some (x4, i, rv)) else (some ((-1), i, rv))) else (lt (x5 - x5 / (2 : Int32) * (2 : Int32)) fun t6 =>
    bn3 (fX12_favourOf x1 x2 ((1 : Int32) - (x5 / (2 : Int32))) t6 0 i rv) fun v7 i8 rv9 =>
    bn3 (fX12_favourOf x1 x2 (x5 / (2 : Int32)) t6 0 i8 rv9) fun v11 i12 rv13 =>
    if v11 < v7 then (fX12_rests_131 (fX12_rests_38 n) x1 x2 x3 x4 x5 i12 rv13) else (bn3 (fX12_favourOf x1 x2 (x5 / (2 : Int32)) ((1 : Int32) - t6) 1 i12 rv13) fun v15 i16 rv17 =>
    bn3 (fX12_favourOf x1 x2 (x5 / (2 : Int32)) t6 1 i16 rv17) fun v19 i20 rv21 =>
    if v15 ≤ v19 then (if x4 = x3 then (some ((((10 : Int32) * (x5 / (2 : Int32))) + t6), i20, rv21)) else (fX12_rests_131 (fX12_rests_38 n) x1 x2 x3 (x4 + 1) x5 i20 rv21)) else (fX12_rests_131 (fX12_rests_38 n) x1 x2 x3 x4 x5 i20 rv21)))
theorem kX12_rests_38  {vR : Int32} {iR : Nat → Nat → Int32} {rvR : Nat → Nat → Option Nat} (hX : aX p s m args c RX12 cX12_rests 8 D cA A ad0) (hr : meth.sig.returnType = (some .int)) (hlk : meth.locks = false) (hRf : 1148 ≤ R.frames) (hRl : 64 * 1148 ≤ R.locals) : ∀ (n : Nat) (x1 : Int32) (x2 : Int32) (x3 : Int32) (x4 : Int32) (x5 : Int32) (i : Nat → Nat → Int32) (rv : Nat → Nat → Option Nat), aGood sh rv → fX12_rests_38 n x1 x2 x3 x4 x5 i rv = some (vR, iR, rvR) → aJ p l e R s m args below meth c (MQ below (aPost D cA ad0 A (sh, i0, lo0, rv0) (some (.int vR)) (sh, iR, lo, rvR)) args s (sh.length - sh.length) (aSn sh - aSn sh) A) D cA A ad0 8 sh.length (aSn sh) 38 [some (.ref (100 + 50)), some (.int x1), some (.int x2), some (.int x3), some (.int x4), some (.int x5), none, none] [] (sh, i, lo, rv) := by
  intro n
  induction n with
  | zero => intros; rename_i hf; cases hf
  | succ n ih =>
    intro x1 x2 x3 x4 x5 i rv hG hf
    rw [fX12_rests_38] at hf
    refine j_iload hX dX12_rests_38 rfl ?_
    refine j_iconst hX dX12_rests_40 ic_4 ?_
    refine j_icmp_ge (tgt := 137) hX dX12_rests_41 (by decide) (fun hc => ?_) (fun hc => ?_)
    · have hf := ifp hc hf
      refine j_iload_n hX dX12_rests_137 rfl ?_
      refine j_iconst hX dX12_rests_138 ic_m1 ?_
      refine j_icmp_ne (tgt := 147) hX dX12_rests_139 (by decide) (fun hc => ?_) (fun hc => ?_)
      · have hf := ifn hc hf
        refine j_iconst hX dX12_rests_147 ic_m1 ?_
        cases hf
        exact j_ret hX hr hlk rfl dX12_rests_148
      · have hf := ifp hc hf
        refine j_iload hX dX12_rests_142 rfl ?_
        refine j_goto (tgt := 148) hX dX12_rests_144 (by decide) ?_
        cases hf
        exact j_ret hX hr hlk rfl dX12_rests_148
    · have hf := ifn hc hf
      refine j_iload hX dX12_rests_44 rfl ?_
      refine j_iconst hX dX12_rests_46 ic_2 ?_
      refine j_idiv hX dX12_rests_47 (by decide) ?_
      refine j_istore hX dX12_rests_48 (by decide) rfl ?_
      refine j_iload hX dX12_rests_50 rfl ?_
      refine jpc (b := 52) rfl ?_
      refine j_iconst hX dX12_rests_52 ic_2 ?_
      refine j_irem hX dX12_rests_53 (by decide) ?_
      have hf := ltd hf
      refine j_istore hX dX12_rests_54 (by decide) rfl ?_
      refine j_aload_n hX dX12_rests_56 rfl ?_
      refine j_iload_n hX dX12_rests_57 rfl ?_
      refine j_iload_n hX dX12_rests_58 rfl ?_
      refine jpc (b := 59) rfl ?_
      refine j_iconst hX dX12_rests_59 ic_1 ?_
      refine j_iload hX dX12_rests_60 rfl ?_
      refine j_isub hX dX12_rests_62 ?_
      refine j_iload hX dX12_rests_63 rfl ?_
      refine j_iconst hX dX12_rests_65 ic_0 ?_
      obtain ⟨v7, i8, rv9, hh10, hf⟩ := bd3 hf
      refine j_cV5i hX lk_X12_508 kX12 dX12_rests_66 (sh_50 hG) (okX12_favourOf hG hh10) rfl rfl (rmm (by omega) hRf hRl (by decide)) (Nat.le_of_ble_eq_true rfl) (Nat.le_add_right _ _) (Nat.le_add_right _ _) ?_
      have hG := gdX12_favourOf hG hh10
      refine jpc (b := 69) rfl ?_
      refine j_aload_n hX dX12_rests_69 rfl ?_
      refine j_iload_n hX dX12_rests_70 rfl ?_
      refine j_iload_n hX dX12_rests_71 rfl ?_
      refine j_iload hX dX12_rests_72 rfl ?_
      refine j_iload hX dX12_rests_74 rfl ?_
      refine j_iconst hX dX12_rests_76 ic_0 ?_
      refine jpc (b := 77) rfl ?_
      obtain ⟨v11, i12, rv13, hh14, hf⟩ := bd3 hf
      refine j_cV5i hX lk_X12_508 kX12 dX12_rests_77 (sh_50 hG) (okX12_favourOf hG hh14) rfl rfl (rmm (by omega) hRf hRl (by decide)) (Nat.le_of_ble_eq_true rfl) (Nat.le_add_right _ _) (Nat.le_add_right _ _) ?_
      have hG := gdX12_favourOf hG hh14
      refine j_icmp_gt (tgt := 131) hX dX12_rests_80 (by decide) (fun hc => ?_) (fun hc => ?_)
      · have hf := ifp hc hf
        exact aJx (kX12_rests_131 hX hr hlk hRf hRl ih hG  hf) (And.intro rfl (And.intro rfl (And.intro rfl (And.intro rfl (And.intro rfl (And.intro rfl (rfl)))))))
      · have hf := ifn hc hf
        refine j_aload_n hX dX12_rests_83 rfl ?_
        refine j_iload_n hX dX12_rests_84 rfl ?_
        refine j_iload_n hX dX12_rests_85 rfl ?_
        refine j_iload hX dX12_rests_86 rfl ?_
        refine j_iconst hX dX12_rests_88 ic_1 ?_
        refine jpc (b := 89) rfl ?_
        refine j_iload hX dX12_rests_89 rfl ?_
        refine j_isub hX dX12_rests_91 ?_
        refine j_iconst hX dX12_rests_92 ic_1 ?_
        obtain ⟨v15, i16, rv17, hh18, hf⟩ := bd3 hf
        refine j_cV5i hX lk_X12_508 kX12 dX12_rests_93 (sh_50 hG) (okX12_favourOf hG hh18) rfl rfl (rmm (by omega) hRf hRl (by decide)) (Nat.le_of_ble_eq_true rfl) (Nat.le_add_right _ _) (Nat.le_add_right _ _) ?_
        have hG := gdX12_favourOf hG hh18
        refine j_aload_n hX dX12_rests_96 rfl ?_
        refine j_iload_n hX dX12_rests_97 rfl ?_
        refine jpc (b := 98) rfl ?_
        refine j_iload_n hX dX12_rests_98 rfl ?_
        refine j_iload hX dX12_rests_99 rfl ?_
        refine j_iload hX dX12_rests_101 rfl ?_
        refine j_iconst hX dX12_rests_103 ic_1 ?_
        obtain ⟨v19, i20, rv21, hh22, hf⟩ := bd3 hf
        refine j_cV5i hX lk_X12_508 kX12 dX12_rests_104 (sh_50 hG) (okX12_favourOf hG hh22) rfl rfl (rmm (by omega) hRf hRl (by decide)) (Nat.le_of_ble_eq_true rfl) (Nat.le_add_right _ _) (Nat.le_add_right _ _) ?_
        have hG := gdX12_favourOf hG hh22
        refine j_icmp_le (tgt := 113) hX dX12_rests_107 (by decide) (fun hc => ?_) (fun hc => ?_)
        · have hf := ifp hc hf
          refine j_iload hX dX12_rests_113 rfl ?_
          refine j_iload_n hX dX12_rests_115 rfl ?_
          refine j_icmp_ne (tgt := 128) hX dX12_rests_116 (by decide) (fun hc => ?_) (fun hc => ?_)
          · have hf := ifn hc hf
            refine j_iinc hX dX12_rests_128 rfl (congrArg (_ + ·) ic_1) (by decide) rfl ?_
            exact aJx (kX12_rests_131 hX hr hlk hRf hRl ih hG  hf) (And.intro rfl (And.intro rfl (And.intro rfl (And.intro rfl (And.intro rfl (And.intro rfl (rfl)))))))
          · have hf := ifp hc hf
            refine j_bipush hX dX12_rests_119 bp_10 ?_
            refine j_iload hX dX12_rests_121 rfl ?_
            refine j_imul hX dX12_rests_123 ?_
            refine j_iload hX dX12_rests_124 rfl ?_
            refine j_iadd hX dX12_rests_126 ?_
            refine jpc (b := 127) rfl ?_
            cases hf
            exact j_ret hX hr hlk rfl dX12_rests_127
        · have hf := ifn hc hf
          refine j_goto (tgt := 131) hX dX12_rests_110 (by decide) ?_
          exact aJx (kX12_rests_131 hX hr hlk hRf hRl ih hG  hf) (And.intro rfl (And.intro rfl (And.intro rfl (And.intro rfl (And.intro rfl (And.intro rfl (rfl)))))))
theorem gX12_rests_38 {vR : Int32} {iR : Nat → Nat → Int32} {rvR : Nat → Nat → Option Nat} : ∀ (n : Nat) (x1 : Int32) (x2 : Int32) (x3 : Int32) (x4 : Int32) (x5 : Int32) (i : Nat → Nat → Int32) (rv : Nat → Nat → Option Nat), aGood sh rv → fX12_rests_38 n x1 x2 x3 x4 x5 i rv = some (vR, iR, rvR) → aGood sh rvR := by
  intro n
  induction n with
  | zero => intros; rename_i hf; cases hf
  | succ n ih =>
    intro x1 x2 x3 x4 x5 i rv hG hf
    rw [fX12_rests_38] at hf
    refine ifs hf (fun hc hf => ?_) (fun hc hf => ?_)
    · have hf := hf
      refine ifs2 hf (fun hc hf => ?_) (fun hc hf => ?_)
      · have hf := hf
        cases hf
        exact hG
      · have hf := hf
        cases hf
        exact hG
    · have hf := hf
      have hf := ltd hf
      obtain ⟨v7, i8, rv9, hh10, hf⟩ := bd3 hf
      have hG := gdX12_favourOf hG hh10
      obtain ⟨v11, i12, rv13, hh14, hf⟩ := bd3 hf
      have hG := gdX12_favourOf hG hh14
      refine ifs hf (fun hc hf => ?_) (fun hc hf => ?_)
      · have hf := hf
        exact gX12_rests_131 ih hG  hf
      · have hf := hf
        obtain ⟨v15, i16, rv17, hh18, hf⟩ := bd3 hf
        have hG := gdX12_favourOf hG hh18
        obtain ⟨v19, i20, rv21, hh22, hf⟩ := bd3 hf
        have hG := gdX12_favourOf hG hh22
        refine ifs hf (fun hc hf => ?_) (fun hc hf => ?_)
        · have hf := hf
          refine ifs2 hf (fun hc hf => ?_) (fun hc hf => ?_)
          · have hf := hf
            exact gX12_rests_131 ih hG  hf
          · have hf := hf
            cases hf
            exact hG
        · have hf := hf
          exact gX12_rests_131 ih hG  hf
def fX12_rests (a1 : Int32) (a2 : Int32) (a3 : Int32) (i : Nat → Nat → Int32) (rv : Nat → Nat → Option Nat) : Option ((Int32) × (Nat → Nat → Int32) × (Nat → Nat → Option Nat)) := lt (u2 i 50 0 0) fun i1 =>
    bn1 (fX12_isOfficer a1 i1) fun v2 =>
    if v2 = 0 then (some ((-1), i1, rv)) else (bn1 (fX12_isIn (a2 : Int32).toInt64 1 9) fun v4 =>
    if v4 = 0 then (some ((-1), i1, rv)) else (if (-1) ≤ a3 then (fX12_rests_38 fuel a1 a2 a3 0 0 i1 rv) else (some ((-1), i1, rv))))
theorem kX12_rests  {vR : Int32} {iR : Nat → Nat → Int32} {rvR : Nat → Nat → Option Nat} (hX : aX p s m args c RX12 cX12_rests 8 D cA A ad0) (hr : meth.sig.returnType = (some .int)) (hlk : meth.locks = false) (hRf : 1148 ≤ R.frames) (hRl : 64 * 1148 ≤ R.locals) {a1 : Int32} {a2 : Int32} {a3 : Int32} (hG : aGood sh rv) (hf : fX12_rests a1 a2 a3 i rv = some (vR, iR, rvR)) : aJ p l e R s m args below meth c (MQ below (aPost D cA ad0 A (sh, i0, lo0, rv0) (some (.int vR)) (sh, iR, lo, rvR)) args s (sh.length - sh.length) (aSn sh - aSn sh) A) D cA A ad0 8 sh.length (aSn sh) 0 [some (.ref (100 + 50)), some (.int a1), some (.int a2), some (.int a3), none, none, none, none] [] (sh, i, lo, rv) := by
  unfold fX12_rests at hf
  refine j_aload_n hX dX12_rests_0 rfl ?_
  refine j_iconst hX dX12_rests_1 ic_0 ?_
  have hf := ltd hf
  refine j_putI (k := 0) hX kX12 (by decide) fk_X12_99 dX12_rests_2 (sh_50 hG) rfl rfl rfl rfl ?_
  refine j_aload_n hX dX12_rests_5 rfl ?_
  refine j_iload_n hX dX12_rests_6 rfl ?_
  refine jpc (b := 7) rfl ?_
  obtain ⟨v2, hh3, hf⟩ := bd1 hf
  refine j_cV1i hX lk_X12_374 kX12 dX12_rests_7 (sh_50 hG) (okX12_isOfficer hG hh3) rfl rfl (rmm (by omega) hRf hRl (by decide)) (Nat.le_of_ble_eq_true rfl) (Nat.le_add_right _ _) (Nat.le_add_right _ _) ?_
  refine j_if_eq (tgt := 30) hX dX12_rests_10 (by decide) (fun hc => ?_) (fun hc => ?_)
  · have hf := ifp hc hf
    refine j_iconst hX dX12_rests_30 ic_m1 ?_
    cases hf
    exact j_ret hX hr hlk rfl dX12_rests_31
  · have hf := ifn hc hf
    refine j_iload_n hX dX12_rests_13 rfl ?_
    refine j_i2l hX dX12_rests_14 ?_
    refine j_lconst (v := 1) hX dX12_rests_15 (by decide) ?_
    refine j_ldc2_w hX kc_X12_488 dX12_rests_16 ?_
    obtain ⟨v4, hh5, hf⟩ := bd1 hf
    refine j_cS3i hX lk_X12_220 dX12_rests_19 (okX12_isIn hG hh5) rfl rfl (rmm (by omega) hRf hRl (by decide)) (Nat.le_of_ble_eq_true rfl) (Nat.le_add_right _ _) (Nat.le_add_right _ _) ?_
    refine jpc (b := 22) rfl ?_
    refine j_if_eq (tgt := 30) hX dX12_rests_22 (by decide) (fun hc => ?_) (fun hc => ?_)
    · have hf := ifp hc hf
      refine j_iconst hX dX12_rests_30 ic_m1 ?_
      cases hf
      exact j_ret hX hr hlk rfl dX12_rests_31
    · have hf := ifn hc hf
      refine j_iload_n hX dX12_rests_25 rfl ?_
      refine j_iconst hX dX12_rests_26 ic_m1 ?_
      refine j_icmp_ge (tgt := 32) hX dX12_rests_27 (by decide) (fun hc => ?_) (fun hc => ?_)
      · have hf := ifp hc hf
        refine j_iconst hX dX12_rests_32 ic_0 ?_
        refine j_istore hX dX12_rests_33 (by decide) rfl ?_
        refine j_iconst hX dX12_rests_35 ic_0 ?_
        refine j_istore hX dX12_rests_36 (by decide) rfl ?_
        exact aJx (kX12_rests_38 hX hr hlk hRf hRl fuel _ _ _ _ _ _ _ hG  hf) (And.intro rfl (And.intro rfl (And.intro rfl (And.intro rfl (And.intro rfl (And.intro rfl (rfl)))))))
      · have hf := ifn hc hf
        refine j_iconst hX dX12_rests_30 ic_m1 ?_
        cases hf
        exact j_ret hX hr hlk rfl dX12_rests_31
theorem gdX12_rests {vR : Int32} {iR : Nat → Nat → Int32} {rvR : Nat → Nat → Option Nat} {a1 : Int32} {a2 : Int32} {a3 : Int32} (hG : aGood sh rv) (hf : fX12_rests a1 a2 a3 i rv = some (vR, iR, rvR)) : aGood sh rvR := by
  unfold fX12_rests at hf
  have hf := ltd hf
  obtain ⟨v2, hh3, hf⟩ := bd1 hf
  refine ifs hf (fun hc hf => ?_) (fun hc hf => ?_)
  · have hf := hf
    cases hf
    exact hG
  · have hf := hf
    obtain ⟨v4, hh5, hf⟩ := bd1 hf
    refine ifs hf (fun hc hf => ?_) (fun hc hf => ?_)
    · have hf := hf
      cases hf
      exact hG
    · have hf := hf
      refine ifs hf (fun hc hf => ?_) (fun hc hf => ?_)
      · have hf := hf
        exact gX12_rests_38 fuel _ _ _ _ _ _ _ hG  hf
      · have hf := hf
        cases hf
        exact hG
theorem okX12_rests {l : Launch} {sh : List aSh} {i : Nat → Nat → Int32} {lo : Nat → Nat → Int64} {rv : Nat → Nat → Option Nat}  {a1 : Int32} {a2 : Int32} {a3 : Int32} {vR : Int32} {iR : Nat → Nat → Int32} {rvR : Nat → Nat → Option Nat} (hG : aGood sh rv) (hf : fX12_rests a1 a2 a3 i rv = some (vR, iR, rvR)) : aM l yX12_rests cX12_rests 8 (some .int) 1148 [.ref (100 + 50), .int a1, .int a2, .int a3] (sh, i, lo, rv) (some (.int vR)) (sh, iR, lo, rvR) :=
  aM_of (by decide) (Nat.le_of_ble_eq_true rfl) (Nat.le_refl _) (Nat.le_refl _) (fun p e s m args below meth c D cA A ad0 hX hr hlk hnm => kX12_rests hX hr hlk (Nat.le_refl _) (Nat.le_refl _) hG hf)
def fX12_which_71 (kh32 : Int32 → Int32 → Int32 → (Nat → Nat → Int32) → Option ((Int32) × (Nat → Nat → Int32))) (x1 : Int32) (x3 : Int32) (s0 : Int32) (s1 : Int32) (i : Nat → Nat → Int32) : Option ((Int32) × (Nat → Nat → Int32)) := kh32 x1 (s0 ||| s1) (x3 + 1) i
theorem kX12_which_71  {vR : Int32} {iR : Nat → Nat → Int32} (hX : aX p s m args c RX12 cX12_which 5 D cA A ad0) (hr : meth.sig.returnType = (some .int)) (hlk : meth.locks = false) (hRf : 1 ≤ R.frames) (hRl : 64 * 1 ≤ R.locals) {kh32 : Int32 → Int32 → Int32 → (Nat → Nat → Int32) → Option ((Int32) × (Nat → Nat → Int32))} (Hkh32 : ∀ (x1 : Int32) (x2 : Int32) (x3 : Int32) (i : Nat → Nat → Int32), aGood sh rv → kh32 x1 x2 x3 i = some (vR, iR) → aJ p l e R s m args below meth c (MQ below (aPost D cA ad0 A (sh, i0, lo0, rv0) (some (.int vR)) (sh, iR, lo, rv)) args s (sh.length - sh.length) (aSn sh - aSn sh) A) D cA A ad0 5 sh.length (aSn sh) 32 [some (.ref (100 + 50)), some (.int x1), some (.int x2), some (.int x3), none] [] (sh, i, lo, rv)) {x1 : Int32} {x3 : Int32} {s0 : Int32} {s1 : Int32} (hG : aGood sh rv) (hf : fX12_which_71 kh32 x1 x3 s0 s1 i = some (vR, iR)) : aJ p l e R s m args below meth c (MQ below (aPost D cA ad0 A (sh, i0, lo0, rv0) (some (.int vR)) (sh, iR, lo, rv)) args s (sh.length - sh.length) (aSn sh - aSn sh) A) D cA A ad0 5 sh.length (aSn sh) 71 [some (.ref (100 + 50)), some (.int x1), none, some (.int x3), none] [.int s1, .int s0] (sh, i, lo, rv) := by
  unfold fX12_which_71 at hf
  refine j_ior hX dX12_which_71 ?_
  refine j_istore_n hX dX12_which_72 (by decide) rfl ?_
  refine j_iinc hX dX12_which_73 rfl (congrArg (_ + ·) ic_1) (by decide) rfl ?_
  refine j_goto (tgt := 32) hX dX12_which_76 (by decide) ?_
  exact aJx (Hkh32 _ _ _ _ hG  hf) (And.intro rfl (And.intro rfl (And.intro rfl (And.intro rfl (rfl)))))
def fX12_which_70 (kh32 : Int32 → Int32 → Int32 → (Nat → Nat → Int32) → Option ((Int32) × (Nat → Nat → Int32))) (x1 : Int32) (x3 : Int32) (s0 : Int32) (i : Nat → Nat → Int32) : Option ((Int32) × (Nat → Nat → Int32)) := fX12_which_71 kh32 x1 x3 s0 0 i
theorem kX12_which_70  {vR : Int32} {iR : Nat → Nat → Int32} (hX : aX p s m args c RX12 cX12_which 5 D cA A ad0) (hr : meth.sig.returnType = (some .int)) (hlk : meth.locks = false) (hRf : 1 ≤ R.frames) (hRl : 64 * 1 ≤ R.locals) {kh32 : Int32 → Int32 → Int32 → (Nat → Nat → Int32) → Option ((Int32) × (Nat → Nat → Int32))} (Hkh32 : ∀ (x1 : Int32) (x2 : Int32) (x3 : Int32) (i : Nat → Nat → Int32), aGood sh rv → kh32 x1 x2 x3 i = some (vR, iR) → aJ p l e R s m args below meth c (MQ below (aPost D cA ad0 A (sh, i0, lo0, rv0) (some (.int vR)) (sh, iR, lo, rv)) args s (sh.length - sh.length) (aSn sh - aSn sh) A) D cA A ad0 5 sh.length (aSn sh) 32 [some (.ref (100 + 50)), some (.int x1), some (.int x2), some (.int x3), none] [] (sh, i, lo, rv)) {x1 : Int32} {x3 : Int32} {s0 : Int32} (hG : aGood sh rv) (hf : fX12_which_70 kh32 x1 x3 s0 i = some (vR, iR)) : aJ p l e R s m args below meth c (MQ below (aPost D cA ad0 A (sh, i0, lo0, rv0) (some (.int vR)) (sh, iR, lo, rv)) args s (sh.length - sh.length) (aSn sh - aSn sh) A) D cA A ad0 5 sh.length (aSn sh) 70 [some (.ref (100 + 50)), some (.int x1), none, some (.int x3), none] [.int s0] (sh, i, lo, rv) := by
  unfold fX12_which_70 at hf
  refine j_iconst hX dX12_which_70 ic_0 ?_
  exact aJx (kX12_which_71 hX hr hlk hRf hRl Hkh32 hG  hf) (And.intro rfl (And.intro rfl (And.intro rfl (rfl))))
def fX12_which_126 (kh84 : Int32 → Int32 → Int32 → Int32 → (Nat → Nat → Int32) → Option ((Int32) × (Nat → Nat → Int32))) (x1 : Int32) (x2 : Int32) (x4 : Int32) (s0 : Int32) (s1 : Int32) (i : Nat → Nat → Int32) : Option ((Int32) × (Nat → Nat → Int32)) := kh84 x1 x2 (s0 ||| s1) (x4 + 1) i
theorem kX12_which_126  {vR : Int32} {iR : Nat → Nat → Int32} (hX : aX p s m args c RX12 cX12_which 5 D cA A ad0) (hr : meth.sig.returnType = (some .int)) (hlk : meth.locks = false) (hRf : 1 ≤ R.frames) (hRl : 64 * 1 ≤ R.locals) {kh84 : Int32 → Int32 → Int32 → Int32 → (Nat → Nat → Int32) → Option ((Int32) × (Nat → Nat → Int32))} (Hkh84 : ∀ (x1 : Int32) (x2 : Int32) (x3 : Int32) (x4 : Int32) (i : Nat → Nat → Int32), aGood sh rv → kh84 x1 x2 x3 x4 i = some (vR, iR) → aJ p l e R s m args below meth c (MQ below (aPost D cA ad0 A (sh, i0, lo0, rv0) (some (.int vR)) (sh, iR, lo, rv)) args s (sh.length - sh.length) (aSn sh - aSn sh) A) D cA A ad0 5 sh.length (aSn sh) 84 [some (.ref (100 + 50)), some (.int x1), some (.int x2), some (.int x3), some (.int x4)] [] (sh, i, lo, rv)) {x1 : Int32} {x2 : Int32} {x4 : Int32} {s0 : Int32} {s1 : Int32} (hG : aGood sh rv) (hf : fX12_which_126 kh84 x1 x2 x4 s0 s1 i = some (vR, iR)) : aJ p l e R s m args below meth c (MQ below (aPost D cA ad0 A (sh, i0, lo0, rv0) (some (.int vR)) (sh, iR, lo, rv)) args s (sh.length - sh.length) (aSn sh - aSn sh) A) D cA A ad0 5 sh.length (aSn sh) 126 [some (.ref (100 + 50)), some (.int x1), some (.int x2), none, some (.int x4)] [.int s1, .int s0] (sh, i, lo, rv) := by
  unfold fX12_which_126 at hf
  refine j_ior hX dX12_which_126 ?_
  refine j_istore_n hX dX12_which_127 (by decide) rfl ?_
  refine j_iinc hX dX12_which_128 rfl (congrArg (_ + ·) ic_1) (by decide) rfl ?_
  refine j_goto (tgt := 84) hX dX12_which_131 (by decide) ?_
  exact aJx (Hkh84 _ _ _ _ _ hG  hf) (And.intro rfl (And.intro rfl (And.intro rfl (And.intro rfl (And.intro rfl (rfl))))))
def fX12_which_115 (kh84 : Int32 → Int32 → Int32 → Int32 → (Nat → Nat → Int32) → Option ((Int32) × (Nat → Nat → Int32))) (x1 : Int32) (x2 : Int32) (x4 : Int32) (s0 : Int32) (s1 : Int32) (s2 : Int32) (i : Nat → Nat → Int32) : Option ((Int32) × (Nat → Nat → Int32)) := if s1 = s2 then (fX12_which_126 kh84 x1 x2 x4 s0 ((1 : Int32) <<< (x4 &&& 31)) i) else (fX12_which_126 kh84 x1 x2 x4 s0 0 i)
theorem kX12_which_115  {vR : Int32} {iR : Nat → Nat → Int32} (hX : aX p s m args c RX12 cX12_which 5 D cA A ad0) (hr : meth.sig.returnType = (some .int)) (hlk : meth.locks = false) (hRf : 1 ≤ R.frames) (hRl : 64 * 1 ≤ R.locals) {kh84 : Int32 → Int32 → Int32 → Int32 → (Nat → Nat → Int32) → Option ((Int32) × (Nat → Nat → Int32))} (Hkh84 : ∀ (x1 : Int32) (x2 : Int32) (x3 : Int32) (x4 : Int32) (i : Nat → Nat → Int32), aGood sh rv → kh84 x1 x2 x3 x4 i = some (vR, iR) → aJ p l e R s m args below meth c (MQ below (aPost D cA ad0 A (sh, i0, lo0, rv0) (some (.int vR)) (sh, iR, lo, rv)) args s (sh.length - sh.length) (aSn sh - aSn sh) A) D cA A ad0 5 sh.length (aSn sh) 84 [some (.ref (100 + 50)), some (.int x1), some (.int x2), some (.int x3), some (.int x4)] [] (sh, i, lo, rv)) {x1 : Int32} {x2 : Int32} {x4 : Int32} {s0 : Int32} {s1 : Int32} {s2 : Int32} (hG : aGood sh rv) (hf : fX12_which_115 kh84 x1 x2 x4 s0 s1 s2 i = some (vR, iR)) : aJ p l e R s m args below meth c (MQ below (aPost D cA ad0 A (sh, i0, lo0, rv0) (some (.int vR)) (sh, iR, lo, rv)) args s (sh.length - sh.length) (aSn sh - aSn sh) A) D cA A ad0 5 sh.length (aSn sh) 115 [some (.ref (100 + 50)), some (.int x1), some (.int x2), none, some (.int x4)] [.int s2, .int s1, .int s0] (sh, i, lo, rv) := by
  unfold fX12_which_115 at hf
  refine j_icmp_ne (tgt := 125) hX dX12_which_115 (by decide) (fun hc => ?_) (fun hc => ?_)
  · have hf := ifn hc hf
    refine j_iconst hX dX12_which_125 ic_0 ?_
    exact aJx (kX12_which_126 hX hr hlk hRf hRl Hkh84 hG  hf) (And.intro rfl (And.intro rfl (And.intro rfl (And.intro rfl (rfl)))))
  · have hf := ifp hc hf
    refine j_iconst hX dX12_which_118 ic_1 ?_
    refine j_iload hX dX12_which_119 rfl ?_
    refine j_ishl hX dX12_which_121 ?_
    refine j_goto (tgt := 126) hX dX12_which_122 (by decide) ?_
    exact aJx (kX12_which_126 hX hr hlk hRf hRl Hkh84 hG  hf) (And.intro rfl (And.intro rfl (And.intro rfl (And.intro rfl (rfl)))))
def fX12_which_84 : Nat → Int32 → Int32 → Int32 → Int32 → (Nat → Nat → Int32) → Option ((Int32) × (Nat → Nat → Int32))
  | 0, _, _, _, _, _ => none
  | n + 1, x1, x2, x3, x4, i => if (i 50 27) ≤ x4 then (some (x3, i)) else (if aIn (((4 : Int32) * x4) + (1 : Int32)) 16 = true then
    (if (i 59 ((((4 : Int32) * x4) + (1 : Int32)) : Int32).toNatClampNeg) = 1 then (fX12_which_115 (fX12_which_84 n) x1 x2 x4 x3 x1 x2 i) else (fX12_which_115 (fX12_which_84 n) x1 x2 x4 x3 x1 0 i)) else none)
theorem kX12_which_84  {vR : Int32} {iR : Nat → Nat → Int32} (hX : aX p s m args c RX12 cX12_which 5 D cA A ad0) (hr : meth.sig.returnType = (some .int)) (hlk : meth.locks = false) (hRf : 1 ≤ R.frames) (hRl : 64 * 1 ≤ R.locals) : ∀ (n : Nat) (x1 : Int32) (x2 : Int32) (x3 : Int32) (x4 : Int32) (i : Nat → Nat → Int32), aGood sh rv → fX12_which_84 n x1 x2 x3 x4 i = some (vR, iR) → aJ p l e R s m args below meth c (MQ below (aPost D cA ad0 A (sh, i0, lo0, rv0) (some (.int vR)) (sh, iR, lo, rv)) args s (sh.length - sh.length) (aSn sh - aSn sh) A) D cA A ad0 5 sh.length (aSn sh) 84 [some (.ref (100 + 50)), some (.int x1), some (.int x2), some (.int x3), some (.int x4)] [] (sh, i, lo, rv) := by
  intro n
  induction n with
  | zero => intros; rename_i hf; cases hf
  | succ n ih =>
    intro x1 x2 x3 x4 i hG hf
    rw [fX12_which_84] at hf
    refine j_iload hX dX12_which_84 rfl ?_
    refine j_aload_n hX dX12_which_86 rfl ?_
    refine j_getI (k := 27) hX kX12 (by decide) fk_X12_300 dX12_which_87 (sh_50 hG) rfl ?_
    refine j_icmp_ge (tgt := 134) hX dX12_which_90 (by decide) (fun hc => ?_) (fun hc => ?_)
    · have hf := ifp hc hf
      refine j_iload_n hX dX12_which_134 rfl ?_
      cases hf
      exact j_ret hX hr hlk rfl dX12_which_135
    · have hf := ifn hc hf
      refine j_iload_n hX dX12_which_93 rfl ?_
      refine j_iload_n hX dX12_which_94 rfl ?_
      refine j_aload_n hX dX12_which_95 rfl ?_
      refine j_getR (k := 22) hX kX12 (by decide) fk_X12_49 (rf_50_22 hG) dX12_which_96 (sh_50 hG) rfl ?_
      refine j_iconst hX dX12_which_99 ic_4 ?_
      refine jpc (b := 100) rfl ?_
      refine j_iload hX dX12_which_100 rfl ?_
      refine j_imul hX dX12_which_102 ?_
      refine j_iconst hX dX12_which_103 ic_1 ?_
      refine j_iadd hX dX12_which_104 ?_
      obtain ⟨hg, hf⟩ := gd hf
      refine j_iald hX (sh_59 hG) hg dX12_which_105 ?_
      refine j_iconst hX dX12_which_106 ic_1 ?_
      refine j_icmp_ne (tgt := 114) hX dX12_which_107 (by decide) (fun hc => ?_) (fun hc => ?_)
      · have hf := ifn hc hf
        refine j_iconst hX dX12_which_114 ic_0 ?_
        exact aJx (kX12_which_115 hX hr hlk hRf hRl ih hG  hf) (And.intro rfl (And.intro rfl (And.intro rfl (And.intro rfl (rfl)))))
      · have hf := ifp hc hf
        refine j_iload_n hX dX12_which_110 rfl ?_
        refine j_goto (tgt := 115) hX dX12_which_111 (by decide) ?_
        exact aJx (kX12_which_115 hX hr hlk hRf hRl ih hG  hf) (And.intro rfl (And.intro rfl (And.intro rfl (And.intro rfl (rfl)))))
def fX12_which_32 : Nat → Int32 → Int32 → Int32 → (Nat → Nat → Int32) → Option ((Int32) × (Nat → Nat → Int32))
  | 0, _, _, _, _ => none
  | n + 1, x1, x2, x3, i => if (i 50 26) ≤ x3 then (fX12_which_84 fuel x1 x2 0 0 i) else (bn1 (fX12_isChild x3 i) fun v2 =>
    if v2 = 0 then (if aIn (((6 : Int32) * x3) + (3 : Int32)) 296 = true then
    (if (i 63 ((((6 : Int32) * x3) + (3 : Int32)) : Int32).toNatClampNeg) = 1 then (fX12_which_71 (fX12_which_32 n) x1 x3 x2 ((1 : Int32) <<< (x3 &&& 31)) i) else (fX12_which_70 (fX12_which_32 n) x1 x3 x2 i)) else none) else (fX12_which_70 (fX12_which_32 n) x1 x3 x2 i))
theorem kX12_which_32  {vR : Int32} {iR : Nat → Nat → Int32} (hX : aX p s m args c RX12 cX12_which 5 D cA A ad0) (hr : meth.sig.returnType = (some .int)) (hlk : meth.locks = false) (hRf : 1 ≤ R.frames) (hRl : 64 * 1 ≤ R.locals) : ∀ (n : Nat) (x1 : Int32) (x2 : Int32) (x3 : Int32) (i : Nat → Nat → Int32), aGood sh rv → fX12_which_32 n x1 x2 x3 i = some (vR, iR) → aJ p l e R s m args below meth c (MQ below (aPost D cA ad0 A (sh, i0, lo0, rv0) (some (.int vR)) (sh, iR, lo, rv)) args s (sh.length - sh.length) (aSn sh - aSn sh) A) D cA A ad0 5 sh.length (aSn sh) 32 [some (.ref (100 + 50)), some (.int x1), some (.int x2), some (.int x3), none] [] (sh, i, lo, rv) := by
  intro n
  induction n with
  | zero => intros; rename_i hf; cases hf
  | succ n ih =>
    intro x1 x2 x3 i hG hf
    rw [fX12_which_32] at hf
    refine j_iload_n hX dX12_which_32 rfl ?_
    refine j_aload_n hX dX12_which_33 rfl ?_
    refine j_getI (k := 26) hX kX12 (by decide) fk_X12_297 dX12_which_34 (sh_50 hG) rfl ?_
    refine j_icmp_ge (tgt := 79) hX dX12_which_37 (by decide) (fun hc => ?_) (fun hc => ?_)
    · have hf := ifp hc hf
      refine j_iconst hX dX12_which_79 ic_0 ?_
      refine j_istore_n hX dX12_which_80 (by decide) rfl ?_
      refine j_iconst hX dX12_which_81 ic_0 ?_
      refine j_istore hX dX12_which_82 (by decide) rfl ?_
      exact aJx (kX12_which_84 hX hr hlk hRf hRl fuel _ _ _ _ _ hG  hf) (And.intro rfl (And.intro rfl (And.intro rfl (And.intro rfl (And.intro rfl (rfl))))))
    · have hf := ifn hc hf
      refine j_iload_n hX dX12_which_40 rfl ?_
      refine j_aload_n hX dX12_which_41 rfl ?_
      refine j_iload_n hX dX12_which_42 rfl ?_
      obtain ⟨v2, hh3, hf⟩ := bd1 hf
      refine j_cV1i hX lk_X12_379 kX12 dX12_which_43 (sh_50 hG) (okX12_isChild hG hh3) rfl rfl (rmm (by omega) hRf hRl (by decide)) (Nat.le_of_ble_eq_true rfl) (Nat.le_add_right _ _) (Nat.le_add_right _ _) ?_
      refine j_if_ne (tgt := 70) hX dX12_which_46 (by decide) (fun hc => ?_) (fun hc => ?_)
      · have hf := ifn hc hf
        exact aJx (kX12_which_70 hX hr hlk hRf hRl ih hG  hf) (And.intro rfl (And.intro rfl (And.intro rfl (rfl))))
      · have hf := ifp hc hf
        refine j_aload_n hX dX12_which_49 rfl ?_
        refine j_getR (k := 33) hX kX12 (by decide) fk_X12_61 (rf_50_33 hG) dX12_which_50 (sh_50 hG) rfl ?_
        refine j_bipush hX dX12_which_53 bp_6 ?_
        refine j_iload_n hX dX12_which_55 rfl ?_
        refine j_imul hX dX12_which_56 ?_
        refine jpc (b := 57) rfl ?_
        refine j_iconst hX dX12_which_57 ic_3 ?_
        refine j_iadd hX dX12_which_58 ?_
        obtain ⟨hg, hf⟩ := gd hf
        refine j_iald hX (sh_63 hG) hg dX12_which_59 ?_
        refine j_iconst hX dX12_which_60 ic_1 ?_
        refine j_icmp_ne (tgt := 70) hX dX12_which_61 (by decide) (fun hc => ?_) (fun hc => ?_)
        · have hf := ifn hc hf
          exact aJx (kX12_which_70 hX hr hlk hRf hRl ih hG  hf) (And.intro rfl (And.intro rfl (And.intro rfl (rfl))))
        · have hf := ifp hc hf
          refine j_iconst hX dX12_which_64 ic_1 ?_
          refine j_iload_n hX dX12_which_65 rfl ?_
          refine j_ishl hX dX12_which_66 ?_
          refine j_goto (tgt := 71) hX dX12_which_67 (by decide) ?_
          exact aJx (kX12_which_71 hX hr hlk hRf hRl ih hG  hf) (And.intro rfl (And.intro rfl (And.intro rfl (rfl))))
def fX12_which (a1 : Int32) (i : Nat → Nat → Int32) : Option ((Int32) × (Nat → Nat → Int32)) := lt (u2 i 50 0 0) fun i1 =>
    if (i1 50 26) = 0 then (some ((-1), i1)) else (if a1 < 0 then (some ((-1), i1)) else (if a1 < ((1 : Int32) <<< ((i1 50 26) &&& 31)) then (fX12_which_32 fuel a1 0 0 i1) else (some ((-1), i1))))
theorem kX12_which  {vR : Int32} {iR : Nat → Nat → Int32} (hX : aX p s m args c RX12 cX12_which 5 D cA A ad0) (hr : meth.sig.returnType = (some .int)) (hlk : meth.locks = false) (hRf : 1 ≤ R.frames) (hRl : 64 * 1 ≤ R.locals) {a1 : Int32} (hG : aGood sh rv) (hf : fX12_which a1 i = some (vR, iR)) : aJ p l e R s m args below meth c (MQ below (aPost D cA ad0 A (sh, i0, lo0, rv0) (some (.int vR)) (sh, iR, lo, rv)) args s (sh.length - sh.length) (aSn sh - aSn sh) A) D cA A ad0 5 sh.length (aSn sh) 0 [some (.ref (100 + 50)), some (.int a1), none, none, none] [] (sh, i, lo, rv) := by
  unfold fX12_which at hf
  refine j_aload_n hX dX12_which_0 rfl ?_
  refine j_iconst hX dX12_which_1 ic_0 ?_
  have hf := ltd hf
  refine j_putI (k := 0) hX kX12 (by decide) fk_X12_99 dX12_which_2 (sh_50 hG) rfl rfl rfl rfl ?_
  refine j_aload_n hX dX12_which_5 rfl ?_
  refine j_getI (k := 26) hX kX12 (by decide) fk_X12_297 dX12_which_6 (sh_50 hG) rfl ?_
  refine jpc (b := 9) rfl ?_
  refine j_if_eq (tgt := 26) hX dX12_which_9 (by decide) (fun hc => ?_) (fun hc => ?_)
  · have hf := ifp hc hf
    refine j_iconst hX dX12_which_26 ic_m1 ?_
    cases hf
    exact j_ret hX hr hlk rfl dX12_which_27
  · have hf := ifn hc hf
    refine j_iload_n hX dX12_which_12 rfl ?_
    refine j_if_lt (tgt := 26) hX dX12_which_13 (by decide) (fun hc => ?_) (fun hc => ?_)
    · have hf := ifp hc hf
      refine j_iconst hX dX12_which_26 ic_m1 ?_
      cases hf
      exact j_ret hX hr hlk rfl dX12_which_27
    · have hf := ifn hc hf
      refine j_iload_n hX dX12_which_16 rfl ?_
      refine j_iconst hX dX12_which_17 ic_1 ?_
      refine j_aload_n hX dX12_which_18 rfl ?_
      refine j_getI (k := 26) hX kX12 (by decide) fk_X12_297 dX12_which_19 (sh_50 hG) rfl ?_
      refine j_ishl hX dX12_which_22 ?_
      refine jpc (b := 23) rfl ?_
      refine j_icmp_lt (tgt := 28) hX dX12_which_23 (by decide) (fun hc => ?_) (fun hc => ?_)
      · have hf := ifp hc hf
        refine j_iconst hX dX12_which_28 ic_0 ?_
        refine j_istore_n hX dX12_which_29 (by decide) rfl ?_
        refine j_iconst hX dX12_which_30 ic_0 ?_
        refine j_istore_n hX dX12_which_31 (by decide) rfl ?_
        exact aJx (kX12_which_32 hX hr hlk hRf hRl fuel _ _ _ _ hG  hf) (And.intro rfl (And.intro rfl (And.intro rfl (And.intro rfl (rfl)))))
      · have hf := ifn hc hf
        refine j_iconst hX dX12_which_26 ic_m1 ?_
        cases hf
        exact j_ret hX hr hlk rfl dX12_which_27
theorem okX12_which {l : Launch} {sh : List aSh} {i : Nat → Nat → Int32} {lo : Nat → Nat → Int64} {rv : Nat → Nat → Option Nat}  {a1 : Int32} {vR : Int32} {iR : Nat → Nat → Int32} (hG : aGood sh rv) (hf : fX12_which a1 i = some (vR, iR)) : aM l yX12_which cX12_which 5 (some .int) 1 [.ref (100 + 50), .int a1] (sh, i, lo, rv) (some (.int vR)) (sh, iR, lo, rv) :=
  aM_of (by decide) (Nat.le_of_ble_eq_true rfl) (Nat.le_refl _) (Nat.le_refl _) (fun p e s m args below meth c D cA A ad0 hX hr hlk hnm => kX12_which hX hr hlk (Nat.le_refl _) (Nat.le_refl _) hG hf)
def fX12_woken (a1 : Int32) (i : Nat → Nat → Int32) : Option ((Int32) × (Nat → Nat → Int32)) := lt (u2 i 50 0 0) fun i1 =>
    bn1 (fX12_isSleeper a1 i1) fun v2 =>
    if v2 = 0 then (some ((-1), i1)) else (if aIn (((6 : Int32) * a1) + (4 : Int32)) 296 = true then
    (some ((i1 63 ((((6 : Int32) * a1) + (4 : Int32)) : Int32).toNatClampNeg), i1)) else none)
theorem kX12_woken  {vR : Int32} {iR : Nat → Nat → Int32} (hX : aX p s m args c RX12 cX12_woken 2 D cA A ad0) (hr : meth.sig.returnType = (some .int)) (hlk : meth.locks = false) (hRf : 1 ≤ R.frames) (hRl : 64 * 1 ≤ R.locals) {a1 : Int32} (hG : aGood sh rv) (hf : fX12_woken a1 i = some (vR, iR)) : aJ p l e R s m args below meth c (MQ below (aPost D cA ad0 A (sh, i0, lo0, rv0) (some (.int vR)) (sh, iR, lo, rv)) args s (sh.length - sh.length) (aSn sh - aSn sh) A) D cA A ad0 2 sh.length (aSn sh) 0 [some (.ref (100 + 50)), some (.int a1)] [] (sh, i, lo, rv) := by
  unfold fX12_woken at hf
  refine j_aload_n hX dX12_woken_0 rfl ?_
  refine j_iconst hX dX12_woken_1 ic_0 ?_
  have hf := ltd hf
  refine j_putI (k := 0) hX kX12 (by decide) fk_X12_99 dX12_woken_2 (sh_50 hG) rfl rfl rfl rfl ?_
  refine j_aload_n hX dX12_woken_5 rfl ?_
  refine j_iload_n hX dX12_woken_6 rfl ?_
  refine jpc (b := 7) rfl ?_
  obtain ⟨v2, hh3, hf⟩ := bd1 hf
  refine j_cV1i hX lk_X12_369 kX12 dX12_woken_7 (sh_50 hG) (okX12_isSleeper hG hh3) rfl rfl (rmm (by omega) hRf hRl (by decide)) (Nat.le_of_ble_eq_true rfl) (Nat.le_add_right _ _) (Nat.le_add_right _ _) ?_
  refine j_if_eq (tgt := 27) hX dX12_woken_10 (by decide) (fun hc => ?_) (fun hc => ?_)
  · have hf := ifp hc hf
    refine j_iconst hX dX12_woken_27 ic_m1 ?_
    cases hf
    exact j_ret hX hr hlk rfl dX12_woken_28
  · have hf := ifn hc hf
    refine j_aload_n hX dX12_woken_13 rfl ?_
    refine j_getR (k := 33) hX kX12 (by decide) fk_X12_61 (rf_50_33 hG) dX12_woken_14 (sh_50 hG) rfl ?_
    refine j_bipush hX dX12_woken_17 bp_6 ?_
    refine j_iload_n hX dX12_woken_19 rfl ?_
    refine j_imul hX dX12_woken_20 ?_
    refine jpc (b := 21) rfl ?_
    refine j_iconst hX dX12_woken_21 ic_4 ?_
    refine j_iadd hX dX12_woken_22 ?_
    obtain ⟨hg, hf⟩ := gd hf
    refine j_iald hX (sh_63 hG) hg dX12_woken_23 ?_
    refine j_goto (tgt := 28) hX dX12_woken_24 (by decide) ?_
    cases hf
    exact j_ret hX hr hlk rfl dX12_woken_28
theorem okX12_woken {l : Launch} {sh : List aSh} {i : Nat → Nat → Int32} {lo : Nat → Nat → Int64} {rv : Nat → Nat → Option Nat}  {a1 : Int32} {vR : Int32} {iR : Nat → Nat → Int32} (hG : aGood sh rv) (hf : fX12_woken a1 i = some (vR, iR)) : aM l yX12_woken cX12_woken 2 (some .int) 1 [.ref (100 + 50), .int a1] (sh, i, lo, rv) (some (.int vR)) (sh, iR, lo, rv) :=
  aM_of (by decide) (Nat.le_of_ble_eq_true rfl) (Nat.le_refl _) (Nat.le_refl _) (fun p e s m args below meth c D cA A ad0 hX hr hlk hnm => kX12_woken hX hr hlk (Nat.le_refl _) (Nat.le_refl _) hG hf)
def fX12_tired_53 (kh9 : Int32 → Int32 → (Nat → Nat → Int32) → Option ((Int32) × (Nat → Nat → Int32))) (x1 : Int32) (x2 : Int32) (i : Nat → Nat → Int32) : Option ((Int32) × (Nat → Nat → Int32)) := kh9 x1 (x2 + 1) i
theorem kX12_tired_53  {vR : Int32} {iR : Nat → Nat → Int32} (hX : aX p s m args c RX12 cX12_tired 3 D cA A ad0) (hr : meth.sig.returnType = (some .int)) (hlk : meth.locks = false) (hRf : 0 ≤ R.frames) (hRl : 64 * 0 ≤ R.locals) {kh9 : Int32 → Int32 → (Nat → Nat → Int32) → Option ((Int32) × (Nat → Nat → Int32))} (Hkh9 : ∀ (x1 : Int32) (x2 : Int32) (i : Nat → Nat → Int32), aGood sh rv → kh9 x1 x2 i = some (vR, iR) → aJ p l e R s m args below meth c (MQ below (aPost D cA ad0 A (sh, i0, lo0, rv0) (some (.int vR)) (sh, iR, lo, rv)) args s (sh.length - sh.length) (aSn sh - aSn sh) A) D cA A ad0 3 sh.length (aSn sh) 9 [some (.ref (100 + 50)), some (.int x1), some (.int x2)] [] (sh, i, lo, rv)) {x1 : Int32} {x2 : Int32} (hG : aGood sh rv) (hf : fX12_tired_53 kh9 x1 x2 i = some (vR, iR)) : aJ p l e R s m args below meth c (MQ below (aPost D cA ad0 A (sh, i0, lo0, rv0) (some (.int vR)) (sh, iR, lo, rv)) args s (sh.length - sh.length) (aSn sh - aSn sh) A) D cA A ad0 3 sh.length (aSn sh) 53 [some (.ref (100 + 50)), some (.int x1), some (.int x2)] [] (sh, i, lo, rv) := by
  unfold fX12_tired_53 at hf
  refine j_iinc hX dX12_tired_53 rfl (congrArg (_ + ·) ic_1) (by decide) rfl ?_
  refine j_goto (tgt := 9) hX dX12_tired_56 (by decide) ?_
  exact aJx (Hkh9 _ _ _ hG  hf) (And.intro rfl (And.intro rfl (And.intro rfl (rfl))))
def fX12_tired_48 (kh9 : Int32 → Int32 → (Nat → Nat → Int32) → Option ((Int32) × (Nat → Nat → Int32))) (x1 : Int32) (x2 : Int32) (s0 : Int32) (s1 : Int32) (i : Nat → Nat → Int32) : Option ((Int32) × (Nat → Nat → Int32)) := if s0 ≤ s1 then (fX12_tired_53 kh9 x1 x2 i) else (fX12_tired_53 kh9 x2 x2 i)
theorem kX12_tired_48  {vR : Int32} {iR : Nat → Nat → Int32} (hX : aX p s m args c RX12 cX12_tired 3 D cA A ad0) (hr : meth.sig.returnType = (some .int)) (hlk : meth.locks = false) (hRf : 0 ≤ R.frames) (hRl : 64 * 0 ≤ R.locals) {kh9 : Int32 → Int32 → (Nat → Nat → Int32) → Option ((Int32) × (Nat → Nat → Int32))} (Hkh9 : ∀ (x1 : Int32) (x2 : Int32) (i : Nat → Nat → Int32), aGood sh rv → kh9 x1 x2 i = some (vR, iR) → aJ p l e R s m args below meth c (MQ below (aPost D cA ad0 A (sh, i0, lo0, rv0) (some (.int vR)) (sh, iR, lo, rv)) args s (sh.length - sh.length) (aSn sh - aSn sh) A) D cA A ad0 3 sh.length (aSn sh) 9 [some (.ref (100 + 50)), some (.int x1), some (.int x2)] [] (sh, i, lo, rv)) {x1 : Int32} {x2 : Int32} {s0 : Int32} {s1 : Int32} (hG : aGood sh rv) (hf : fX12_tired_48 kh9 x1 x2 s0 s1 i = some (vR, iR)) : aJ p l e R s m args below meth c (MQ below (aPost D cA ad0 A (sh, i0, lo0, rv0) (some (.int vR)) (sh, iR, lo, rv)) args s (sh.length - sh.length) (aSn sh - aSn sh) A) D cA A ad0 3 sh.length (aSn sh) 48 [some (.ref (100 + 50)), some (.int x1), some (.int x2)] [.int s1, .int s0] (sh, i, lo, rv) := by
  unfold fX12_tired_48 at hf
  refine j_icmp_le (tgt := 53) hX dX12_tired_48 (by decide) (fun hc => ?_) (fun hc => ?_)
  · have hf := ifp hc hf
    exact aJx (kX12_tired_53 hX hr hlk hRf hRl Hkh9 hG  hf) (And.intro rfl (And.intro rfl (And.intro rfl (rfl))))
  · have hf := ifn hc hf
    refine j_iload_n hX dX12_tired_51 rfl ?_
    refine j_istore_n hX dX12_tired_52 (by decide) rfl ?_
    exact aJx (kX12_tired_53 hX hr hlk hRf hRl Hkh9 hG  hf) (And.intro rfl (And.intro rfl (And.intro rfl (rfl))))
def fX12_tired_9 : Nat → Int32 → Int32 → (Nat → Nat → Int32) → Option ((Int32) × (Nat → Nat → Int32))
  | 0, _, _, _ => none
  | n + 1, x1, x2, i => if (i 50 26) ≤ x2 then (some (x1, i)) else (if aIn (((6 : Int32) * x2) + (5 : Int32)) 296 = true then
    (if x1 = (-1) then (fX12_tired_48 (fX12_tired_9 n) x1 x2 (i 63 ((((6 : Int32) * x2) + (5 : Int32)) : Int32).toNatClampNeg) 0 i) else (if aIn (((6 : Int32) * x1) + (5 : Int32)) 296 = true then
    (fX12_tired_48 (fX12_tired_9 n) x1 x2 (i 63 ((((6 : Int32) * x2) + (5 : Int32)) : Int32).toNatClampNeg) (i 63 ((((6 : Int32) * x1) + (5 : Int32)) : Int32).toNatClampNeg) i) else none)) else none)
theorem kX12_tired_9  {vR : Int32} {iR : Nat → Nat → Int32} (hX : aX p s m args c RX12 cX12_tired 3 D cA A ad0) (hr : meth.sig.returnType = (some .int)) (hlk : meth.locks = false) (hRf : 0 ≤ R.frames) (hRl : 64 * 0 ≤ R.locals) : ∀ (n : Nat) (x1 : Int32) (x2 : Int32) (i : Nat → Nat → Int32), aGood sh rv → fX12_tired_9 n x1 x2 i = some (vR, iR) → aJ p l e R s m args below meth c (MQ below (aPost D cA ad0 A (sh, i0, lo0, rv0) (some (.int vR)) (sh, iR, lo, rv)) args s (sh.length - sh.length) (aSn sh - aSn sh) A) D cA A ad0 3 sh.length (aSn sh) 9 [some (.ref (100 + 50)), some (.int x1), some (.int x2)] [] (sh, i, lo, rv) := by
  intro n
  induction n with
  | zero => intros; rename_i hf; cases hf
  | succ n ih =>
    intro x1 x2 i hG hf
    rw [fX12_tired_9] at hf
    refine j_iload_n hX dX12_tired_9 rfl ?_
    refine j_aload_n hX dX12_tired_10 rfl ?_
    refine j_getI (k := 26) hX kX12 (by decide) fk_X12_297 dX12_tired_11 (sh_50 hG) rfl ?_
    refine j_icmp_ge (tgt := 59) hX dX12_tired_14 (by decide) (fun hc => ?_) (fun hc => ?_)
    · have hf := ifp hc hf
      refine j_iload_n hX dX12_tired_59 rfl ?_
      cases hf
      exact j_ret hX hr hlk rfl dX12_tired_60
    · have hf := ifn hc hf
      refine j_aload_n hX dX12_tired_17 rfl ?_
      refine j_getR (k := 33) hX kX12 (by decide) fk_X12_61 (rf_50_33 hG) dX12_tired_18 (sh_50 hG) rfl ?_
      refine j_bipush hX dX12_tired_21 bp_6 ?_
      refine j_iload_n hX dX12_tired_23 rfl ?_
      refine j_imul hX dX12_tired_24 ?_
      refine jpc (b := 25) rfl ?_
      refine j_iconst hX dX12_tired_25 ic_5 ?_
      refine j_iadd hX dX12_tired_26 ?_
      obtain ⟨hg, hf⟩ := gd hf
      refine j_iald hX (sh_63 hG) hg dX12_tired_27 ?_
      refine j_iload_n hX dX12_tired_28 rfl ?_
      refine j_iconst hX dX12_tired_29 ic_m1 ?_
      refine j_icmp_ne (tgt := 37) hX dX12_tired_30 (by decide) (fun hc => ?_) (fun hc => ?_)
      · have hf := ifn hc hf
        refine j_aload_n hX dX12_tired_37 rfl ?_
        refine j_getR (k := 33) hX kX12 (by decide) fk_X12_61 (rf_50_33 hG) dX12_tired_38 (sh_50 hG) rfl ?_
        refine j_bipush hX dX12_tired_41 bp_6 ?_
        refine j_iload_n hX dX12_tired_43 rfl ?_
        refine j_imul hX dX12_tired_44 ?_
        refine jpc (b := 45) rfl ?_
        refine j_iconst hX dX12_tired_45 ic_5 ?_
        refine j_iadd hX dX12_tired_46 ?_
        obtain ⟨hg, hf⟩ := gd hf
        refine j_iald hX (sh_63 hG) hg dX12_tired_47 ?_
        exact aJx (kX12_tired_48 hX hr hlk hRf hRl ih hG  hf) (And.intro rfl (And.intro rfl (And.intro rfl (rfl))))
      · have hf := ifp hc hf
        refine j_iconst hX dX12_tired_33 ic_0 ?_
        refine j_goto (tgt := 48) hX dX12_tired_34 (by decide) ?_
        exact aJx (kX12_tired_48 hX hr hlk hRf hRl ih hG  hf) (And.intro rfl (And.intro rfl (And.intro rfl (rfl))))
def fX12_tired (i : Nat → Nat → Int32) : Option ((Int32) × (Nat → Nat → Int32)) := lt (u2 i 50 0 0) fun i1 =>
    fX12_tired_9 fuel (-1) 0 i1
theorem kX12_tired  {vR : Int32} {iR : Nat → Nat → Int32} (hX : aX p s m args c RX12 cX12_tired 3 D cA A ad0) (hr : meth.sig.returnType = (some .int)) (hlk : meth.locks = false) (hRf : 0 ≤ R.frames) (hRl : 64 * 0 ≤ R.locals) (hG : aGood sh rv) (hf : fX12_tired i = some (vR, iR)) : aJ p l e R s m args below meth c (MQ below (aPost D cA ad0 A (sh, i0, lo0, rv0) (some (.int vR)) (sh, iR, lo, rv)) args s (sh.length - sh.length) (aSn sh - aSn sh) A) D cA A ad0 3 sh.length (aSn sh) 0 [some (.ref (100 + 50)), none, none] [] (sh, i, lo, rv) := by
  unfold fX12_tired at hf
  refine j_aload_n hX dX12_tired_0 rfl ?_
  refine j_iconst hX dX12_tired_1 ic_0 ?_
  have hf := ltd hf
  refine j_putI (k := 0) hX kX12 (by decide) fk_X12_99 dX12_tired_2 (sh_50 hG) rfl rfl rfl rfl ?_
  refine j_iconst hX dX12_tired_5 ic_m1 ?_
  refine j_istore_n hX dX12_tired_6 (by decide) rfl ?_
  refine jpc (b := 7) rfl ?_
  refine j_iconst hX dX12_tired_7 ic_0 ?_
  refine j_istore_n hX dX12_tired_8 (by decide) rfl ?_
  exact aJx (kX12_tired_9 hX hr hlk hRf hRl fuel _ _ _ hG  hf) (And.intro rfl (And.intro rfl (And.intro rfl (rfl))))
theorem okX12_tired {l : Launch} {sh : List aSh} {i : Nat → Nat → Int32} {lo : Nat → Nat → Int64} {rv : Nat → Nat → Option Nat}  {vR : Int32} {iR : Nat → Nat → Int32} (hG : aGood sh rv) (hf : fX12_tired i = some (vR, iR)) : aM l yX12_tired cX12_tired 3 (some .int) 0 [.ref (100 + 50)] (sh, i, lo, rv) (some (.int vR)) (sh, iR, lo, rv) :=
  aM_of (by decide) (Nat.le_of_ble_eq_true rfl) (Nat.le_refl _) (Nat.le_refl _) (fun p e s m args below meth c D cA A ad0 hX hr hlk hnm => kX12_tired hX hr hlk (Nat.le_refl _) (Nat.le_refl _) hG hf)
def fX12_beside_65 (kh19 : Int32 → Int32 → Int32 → (Nat → Nat → Int32) → Option ((Int32) × (Nat → Nat → Int32))) (x1 : Int32) (x3 : Int32) (s0 : Int32) (s1 : Int32) (i : Nat → Nat → Int32) : Option ((Int32) × (Nat → Nat → Int32)) := kh19 x1 (s0 ||| s1) (x3 + 1) i
theorem kX12_beside_65  {vR : Int32} {iR : Nat → Nat → Int32} (hX : aX p s m args c RX12 cX12_beside 4 D cA A ad0) (hr : meth.sig.returnType = (some .int)) (hlk : meth.locks = false) (hRf : 1 ≤ R.frames) (hRl : 64 * 1 ≤ R.locals) {kh19 : Int32 → Int32 → Int32 → (Nat → Nat → Int32) → Option ((Int32) × (Nat → Nat → Int32))} (Hkh19 : ∀ (x1 : Int32) (x2 : Int32) (x3 : Int32) (i : Nat → Nat → Int32), aGood sh rv → kh19 x1 x2 x3 i = some (vR, iR) → aJ p l e R s m args below meth c (MQ below (aPost D cA ad0 A (sh, i0, lo0, rv0) (some (.int vR)) (sh, iR, lo, rv)) args s (sh.length - sh.length) (aSn sh - aSn sh) A) D cA A ad0 4 sh.length (aSn sh) 19 [some (.ref (100 + 50)), some (.int x1), some (.int x2), some (.int x3)] [] (sh, i, lo, rv)) {x1 : Int32} {x3 : Int32} {s0 : Int32} {s1 : Int32} (hG : aGood sh rv) (hf : fX12_beside_65 kh19 x1 x3 s0 s1 i = some (vR, iR)) : aJ p l e R s m args below meth c (MQ below (aPost D cA ad0 A (sh, i0, lo0, rv0) (some (.int vR)) (sh, iR, lo, rv)) args s (sh.length - sh.length) (aSn sh - aSn sh) A) D cA A ad0 4 sh.length (aSn sh) 65 [some (.ref (100 + 50)), some (.int x1), none, some (.int x3)] [.int s1, .int s0] (sh, i, lo, rv) := by
  unfold fX12_beside_65 at hf
  refine j_ior hX dX12_beside_65 ?_
  refine j_istore_n hX dX12_beside_66 (by decide) rfl ?_
  refine j_iinc hX dX12_beside_67 rfl (congrArg (_ + ·) ic_1) (by decide) rfl ?_
  refine j_goto (tgt := 19) hX dX12_beside_70 (by decide) ?_
  exact aJx (Hkh19 _ _ _ _ hG  hf) (And.intro rfl (And.intro rfl (And.intro rfl (And.intro rfl (rfl)))))
def fX12_beside_19 : Nat → Int32 → Int32 → Int32 → (Nat → Nat → Int32) → Option ((Int32) × (Nat → Nat → Int32))
  | 0, _, _, _, _ => none
  | n + 1, x1, x2, x3, i => if (i 50 26) ≤ x3 then (some (x2, i)) else (if aIn (((6 : Int32) * x1) + (0 : Int32)) 296 = true then
    (if aIn (((6 : Int32) * x3) + (0 : Int32)) 296 = true then
    (if (if 0 ≤ ((i 63 ((((6 : Int32) * x1) + (0 : Int32)) : Int32).toNatClampNeg) - (i 63 ((((6 : Int32) * x3) + (0 : Int32)) : Int32).toNatClampNeg)) then ((i 63 ((((6 : Int32) * x1) + (0 : Int32)) : Int32).toNatClampNeg) - (i 63 ((((6 : Int32) * x3) + (0 : Int32)) : Int32).toNatClampNeg)) else 0 - ((i 63 ((((6 : Int32) * x1) + (0 : Int32)) : Int32).toNatClampNeg) - (i 63 ((((6 : Int32) * x3) + (0 : Int32)) : Int32).toNatClampNeg))) = 1 then (fX12_beside_65 (fX12_beside_19 n) x1 x3 x2 ((1 : Int32) <<< (x3 &&& 31)) i) else (fX12_beside_65 (fX12_beside_19 n) x1 x3 x2 0 i)) else none) else none)
theorem kX12_beside_19  {vR : Int32} {iR : Nat → Nat → Int32} (hX : aX p s m args c RX12 cX12_beside 4 D cA A ad0) (hr : meth.sig.returnType = (some .int)) (hlk : meth.locks = false) (hRf : 1 ≤ R.frames) (hRl : 64 * 1 ≤ R.locals) : ∀ (n : Nat) (x1 : Int32) (x2 : Int32) (x3 : Int32) (i : Nat → Nat → Int32), aGood sh rv → fX12_beside_19 n x1 x2 x3 i = some (vR, iR) → aJ p l e R s m args below meth c (MQ below (aPost D cA ad0 A (sh, i0, lo0, rv0) (some (.int vR)) (sh, iR, lo, rv)) args s (sh.length - sh.length) (aSn sh - aSn sh) A) D cA A ad0 4 sh.length (aSn sh) 19 [some (.ref (100 + 50)), some (.int x1), some (.int x2), some (.int x3)] [] (sh, i, lo, rv) := by
  intro n
  induction n with
  | zero => intros; rename_i hf; cases hf
  | succ n ih =>
    intro x1 x2 x3 i hG hf
    rw [fX12_beside_19] at hf
    refine j_iload_n hX dX12_beside_19 rfl ?_
    refine j_aload_n hX dX12_beside_20 rfl ?_
    refine j_getI (k := 26) hX kX12 (by decide) fk_X12_297 dX12_beside_21 (sh_50 hG) rfl ?_
    refine j_icmp_ge (tgt := 73) hX dX12_beside_24 (by decide) (fun hc => ?_) (fun hc => ?_)
    · have hf := ifp hc hf
      refine j_iload_n hX dX12_beside_73 rfl ?_
      cases hf
      exact j_ret hX hr hlk rfl dX12_beside_74
    · have hf := ifn hc hf
      refine j_iload_n hX dX12_beside_27 rfl ?_
      refine j_aload_n hX dX12_beside_28 rfl ?_
      refine j_getR (k := 33) hX kX12 (by decide) fk_X12_61 (rf_50_33 hG) dX12_beside_29 (sh_50 hG) rfl ?_
      refine j_bipush hX dX12_beside_32 bp_6 ?_
      refine j_iload_n hX dX12_beside_34 rfl ?_
      refine jpc (b := 35) rfl ?_
      refine j_imul hX dX12_beside_35 ?_
      refine j_iconst hX dX12_beside_36 ic_0 ?_
      refine j_iadd hX dX12_beside_37 ?_
      obtain ⟨hg, hf⟩ := gd hf
      refine j_iald hX (sh_63 hG) hg dX12_beside_38 ?_
      refine j_aload_n hX dX12_beside_39 rfl ?_
      refine j_getR (k := 33) hX kX12 (by decide) fk_X12_61 (rf_50_33 hG) dX12_beside_40 (sh_50 hG) rfl ?_
      refine j_bipush hX dX12_beside_43 bp_6 ?_
      refine j_iload_n hX dX12_beside_45 rfl ?_
      refine j_imul hX dX12_beside_46 ?_
      refine jpc (b := 47) rfl ?_
      refine j_iconst hX dX12_beside_47 ic_0 ?_
      refine j_iadd hX dX12_beside_48 ?_
      obtain ⟨hg, hf⟩ := gd hf
      refine j_iald hX (sh_63 hG) hg dX12_beside_49 ?_
      refine j_isub hX dX12_beside_50 ?_
      refine j_abs hX lk_X12_485 dX12_beside_51 ⟨by omega, Nat.le_trans (Nat.le_of_ble_eq_true rfl) hRl⟩ (Nat.le_add_right _ _) (Nat.le_add_right _ _) ?_
      refine j_iconst hX dX12_beside_54 ic_1 ?_
      refine j_icmp_ne (tgt := 64) hX dX12_beside_55 (by decide) (fun hc => ?_) (fun hc => ?_)
      · have hf := ifn hc hf
        refine j_iconst hX dX12_beside_64 ic_0 ?_
        exact aJx (kX12_beside_65 hX hr hlk hRf hRl ih hG  hf) (And.intro rfl (And.intro rfl (And.intro rfl (rfl))))
      · have hf := ifp hc hf
        refine j_iconst hX dX12_beside_58 ic_1 ?_
        refine j_iload_n hX dX12_beside_59 rfl ?_
        refine j_ishl hX dX12_beside_60 ?_
        refine j_goto (tgt := 65) hX dX12_beside_61 (by decide) ?_
        exact aJx (kX12_beside_65 hX hr hlk hRf hRl ih hG  hf) (And.intro rfl (And.intro rfl (And.intro rfl (rfl))))
def fX12_beside (a1 : Int32) (i : Nat → Nat → Int32) : Option ((Int32) × (Nat → Nat → Int32)) := lt (u2 i 50 0 0) fun i1 =>
    bn1 (fX12_isSleeper a1 i1) fun v2 =>
    if v2 = 0 then (some ((-1), i1)) else (fX12_beside_19 fuel a1 0 0 i1)
theorem kX12_beside  {vR : Int32} {iR : Nat → Nat → Int32} (hX : aX p s m args c RX12 cX12_beside 4 D cA A ad0) (hr : meth.sig.returnType = (some .int)) (hlk : meth.locks = false) (hRf : 1 ≤ R.frames) (hRl : 64 * 1 ≤ R.locals) {a1 : Int32} (hG : aGood sh rv) (hf : fX12_beside a1 i = some (vR, iR)) : aJ p l e R s m args below meth c (MQ below (aPost D cA ad0 A (sh, i0, lo0, rv0) (some (.int vR)) (sh, iR, lo, rv)) args s (sh.length - sh.length) (aSn sh - aSn sh) A) D cA A ad0 4 sh.length (aSn sh) 0 [some (.ref (100 + 50)), some (.int a1), none, none] [] (sh, i, lo, rv) := by
  unfold fX12_beside at hf
  refine j_aload_n hX dX12_beside_0 rfl ?_
  refine j_iconst hX dX12_beside_1 ic_0 ?_
  have hf := ltd hf
  refine j_putI (k := 0) hX kX12 (by decide) fk_X12_99 dX12_beside_2 (sh_50 hG) rfl rfl rfl rfl ?_
  refine j_aload_n hX dX12_beside_5 rfl ?_
  refine j_iload_n hX dX12_beside_6 rfl ?_
  refine jpc (b := 7) rfl ?_
  obtain ⟨v2, hh3, hf⟩ := bd1 hf
  refine j_cV1i hX lk_X12_369 kX12 dX12_beside_7 (sh_50 hG) (okX12_isSleeper hG hh3) rfl rfl (rmm (by omega) hRf hRl (by decide)) (Nat.le_of_ble_eq_true rfl) (Nat.le_add_right _ _) (Nat.le_add_right _ _) ?_
  refine j_if_ne (tgt := 15) hX dX12_beside_10 (by decide) (fun hc => ?_) (fun hc => ?_)
  · have hf := ifn hc hf
    refine j_iconst hX dX12_beside_15 ic_0 ?_
    refine j_istore_n hX dX12_beside_16 (by decide) rfl ?_
    refine j_iconst hX dX12_beside_17 ic_0 ?_
    refine j_istore_n hX dX12_beside_18 (by decide) rfl ?_
    exact aJx (kX12_beside_19 hX hr hlk hRf hRl fuel _ _ _ _ hG  hf) (And.intro rfl (And.intro rfl (And.intro rfl (And.intro rfl (rfl)))))
  · have hf := ifp hc hf
    refine j_iconst hX dX12_beside_13 ic_m1 ?_
    cases hf
    exact j_ret hX hr hlk rfl dX12_beside_14
theorem okX12_beside {l : Launch} {sh : List aSh} {i : Nat → Nat → Int32} {lo : Nat → Nat → Int64} {rv : Nat → Nat → Option Nat}  {a1 : Int32} {vR : Int32} {iR : Nat → Nat → Int32} (hG : aGood sh rv) (hf : fX12_beside a1 i = some (vR, iR)) : aM l yX12_beside cX12_beside 4 (some .int) 1 [.ref (100 + 50), .int a1] (sh, i, lo, rv) (some (.int vR)) (sh, iR, lo, rv) :=
  aM_of (by decide) (Nat.le_of_ble_eq_true rfl) (Nat.le_refl _) (Nat.le_refl _) (fun p e s m args below meth c D cA A ad0 hX hr hlk hnm => kX12_beside hX hr hlk (Nat.le_refl _) (Nat.le_refl _) hG hf)
def fX12_slack (a1 : Int32) (i : Nat → Nat → Int32) (rv : Nat → Nat → Option Nat) : Option ((Int32) × (Nat → Nat → Int32) × (Nat → Nat → Option Nat)) := lt (u2 i 50 0 0) fun i1 =>
    bn1 (fX12_isOfficer a1 i1) fun v2 =>
    if v2 = 0 then (some ((-1000000), i1, rv)) else (bn2 (fX12_tryBorder a1 i1 rv) fun i4 rv5 =>
    if aIn 0 4 = true then
    (some ((((6 : Int32) * (i4 55 (0 : Int32).toNatClampNeg)) - (i4 50 37)), i4, rv5)) else none)
theorem kX12_slack  {vR : Int32} {iR : Nat → Nat → Int32} {rvR : Nat → Nat → Option Nat} (hX : aX p s m args c RX12 cX12_slack 2 D cA A ad0) (hr : meth.sig.returnType = (some .int)) (hlk : meth.locks = false) (hRf : 1150 ≤ R.frames) (hRl : 64 * 1150 ≤ R.locals) {a1 : Int32} (hG : aGood sh rv) (hf : fX12_slack a1 i rv = some (vR, iR, rvR)) : aJ p l e R s m args below meth c (MQ below (aPost D cA ad0 A (sh, i0, lo0, rv0) (some (.int vR)) (sh, iR, lo, rvR)) args s (sh.length - sh.length) (aSn sh - aSn sh) A) D cA A ad0 2 sh.length (aSn sh) 0 [some (.ref (100 + 50)), some (.int a1)] [] (sh, i, lo, rv) := by
  unfold fX12_slack at hf
  refine j_aload_n hX dX12_slack_0 rfl ?_
  refine j_iconst hX dX12_slack_1 ic_0 ?_
  have hf := ltd hf
  refine j_putI (k := 0) hX kX12 (by decide) fk_X12_99 dX12_slack_2 (sh_50 hG) rfl rfl rfl rfl ?_
  refine j_aload_n hX dX12_slack_5 rfl ?_
  refine j_iload_n hX dX12_slack_6 rfl ?_
  refine jpc (b := 7) rfl ?_
  obtain ⟨v2, hh3, hf⟩ := bd1 hf
  refine j_cV1i hX lk_X12_374 kX12 dX12_slack_7 (sh_50 hG) (okX12_isOfficer hG hh3) rfl rfl (rmm (by omega) hRf hRl (by decide)) (Nat.le_of_ble_eq_true rfl) (Nat.le_add_right _ _) (Nat.le_add_right _ _) ?_
  refine j_if_ne (tgt := 17) hX dX12_slack_10 (by decide) (fun hc => ?_) (fun hc => ?_)
  · have hf := ifn hc hf
    refine j_aload_n hX dX12_slack_17 rfl ?_
    refine j_iload_n hX dX12_slack_18 rfl ?_
    obtain ⟨i4, rv5, hh6, hf⟩ := bd2 hf
    refine j_cV1v hX lk_X12_451 kX12 dX12_slack_19 (sh_50 hG) (okX12_tryBorder hG hh6) rfl rfl (rmm (by omega) hRf hRl (by decide)) (Nat.le_of_ble_eq_true rfl) (Nat.le_add_right _ _) (Nat.le_add_right _ _) ?_
    have hG := gdX12_tryBorder hG hh6
    refine j_bipush hX dX12_slack_22 bp_6 ?_
    refine j_aload_n hX dX12_slack_24 rfl ?_
    refine jpc (b := 25) rfl ?_
    refine j_getR (k := 18) hX kX12 (by decide) fk_X12_37 (rf_50_18 hG) dX12_slack_25 (sh_50 hG) rfl ?_
    refine j_iconst hX dX12_slack_28 ic_0 ?_
    obtain ⟨hg, hf⟩ := gd hf
    refine j_iald hX (sh_55 hG) hg dX12_slack_29 ?_
    refine j_imul hX dX12_slack_30 ?_
    refine j_aload_n hX dX12_slack_31 rfl ?_
    refine j_getI (k := 37) hX kX12 (by decide) fk_X12_333 dX12_slack_32 (sh_50 hG) rfl ?_
    refine j_isub hX dX12_slack_35 ?_
    cases hf
    exact j_ret hX hr hlk rfl dX12_slack_36
  · have hf := ifp hc hf
    refine j_ldc_w hX kc_X12_441 dX12_slack_13 ?_
    cases hf
    exact j_ret hX hr hlk rfl dX12_slack_16
theorem gdX12_slack {vR : Int32} {iR : Nat → Nat → Int32} {rvR : Nat → Nat → Option Nat} {a1 : Int32} (hG : aGood sh rv) (hf : fX12_slack a1 i rv = some (vR, iR, rvR)) : aGood sh rvR := by
  unfold fX12_slack at hf
  have hf := ltd hf
  obtain ⟨v2, hh3, hf⟩ := bd1 hf
  refine ifs2 hf (fun hc hf => ?_) (fun hc hf => ?_)
  · have hf := hf
    obtain ⟨i4, rv5, hh6, hf⟩ := bd2 hf
    have hG := gdX12_tryBorder hG hh6
    obtain ⟨hg, hf⟩ := gd hf
    cases hf
    exact hG
  · have hf := hf
    cases hf
    exact hG
theorem okX12_slack {l : Launch} {sh : List aSh} {i : Nat → Nat → Int32} {lo : Nat → Nat → Int64} {rv : Nat → Nat → Option Nat}  {a1 : Int32} {vR : Int32} {iR : Nat → Nat → Int32} {rvR : Nat → Nat → Option Nat} (hG : aGood sh rv) (hf : fX12_slack a1 i rv = some (vR, iR, rvR)) : aM l yX12_slack cX12_slack 2 (some .int) 1150 [.ref (100 + 50), .int a1] (sh, i, lo, rv) (some (.int vR)) (sh, iR, lo, rvR) :=
  aM_of (by decide) (Nat.le_of_ble_eq_true rfl) (Nat.le_refl _) (Nat.le_refl _) (fun p e s m args below meth c D cA A ad0 hX hr hlk hnm => kX12_slack hX hr hlk (Nat.le_refl _) (Nat.le_refl _) hG hf)
def fX12_longest (a1 : Int32) (i : Nat → Nat → Int32) (rv : Nat → Nat → Option Nat) : Option ((Int32) × (Nat → Nat → Int32) × (Nat → Nat → Option Nat)) := lt (u2 i 50 0 0) fun i1 =>
    bn1 (fX12_isOfficer a1 i1) fun v2 =>
    if v2 = 0 then (some ((-1), i1, rv)) else (bn2 (fX12_tryBorder a1 i1 rv) fun i4 rv5 =>
    some ((i4 50 39), i4, rv5))
theorem kX12_longest  {vR : Int32} {iR : Nat → Nat → Int32} {rvR : Nat → Nat → Option Nat} (hX : aX p s m args c RX12 cX12_longest 2 D cA A ad0) (hr : meth.sig.returnType = (some .int)) (hlk : meth.locks = false) (hRf : 1150 ≤ R.frames) (hRl : 64 * 1150 ≤ R.locals) {a1 : Int32} (hG : aGood sh rv) (hf : fX12_longest a1 i rv = some (vR, iR, rvR)) : aJ p l e R s m args below meth c (MQ below (aPost D cA ad0 A (sh, i0, lo0, rv0) (some (.int vR)) (sh, iR, lo, rvR)) args s (sh.length - sh.length) (aSn sh - aSn sh) A) D cA A ad0 2 sh.length (aSn sh) 0 [some (.ref (100 + 50)), some (.int a1)] [] (sh, i, lo, rv) := by
  unfold fX12_longest at hf
  refine j_aload_n hX dX12_longest_0 rfl ?_
  refine j_iconst hX dX12_longest_1 ic_0 ?_
  have hf := ltd hf
  refine j_putI (k := 0) hX kX12 (by decide) fk_X12_99 dX12_longest_2 (sh_50 hG) rfl rfl rfl rfl ?_
  refine j_aload_n hX dX12_longest_5 rfl ?_
  refine j_iload_n hX dX12_longest_6 rfl ?_
  refine jpc (b := 7) rfl ?_
  obtain ⟨v2, hh3, hf⟩ := bd1 hf
  refine j_cV1i hX lk_X12_374 kX12 dX12_longest_7 (sh_50 hG) (okX12_isOfficer hG hh3) rfl rfl (rmm (by omega) hRf hRl (by decide)) (Nat.le_of_ble_eq_true rfl) (Nat.le_add_right _ _) (Nat.le_add_right _ _) ?_
  refine j_if_ne (tgt := 15) hX dX12_longest_10 (by decide) (fun hc => ?_) (fun hc => ?_)
  · have hf := ifn hc hf
    refine j_aload_n hX dX12_longest_15 rfl ?_
    refine j_iload_n hX dX12_longest_16 rfl ?_
    obtain ⟨i4, rv5, hh6, hf⟩ := bd2 hf
    refine j_cV1v hX lk_X12_451 kX12 dX12_longest_17 (sh_50 hG) (okX12_tryBorder hG hh6) rfl rfl (rmm (by omega) hRf hRl (by decide)) (Nat.le_of_ble_eq_true rfl) (Nat.le_add_right _ _) (Nat.le_add_right _ _) ?_
    have hG := gdX12_tryBorder hG hh6
    refine j_aload_n hX dX12_longest_20 rfl ?_
    refine j_getI (k := 39) hX kX12 (by decide) fk_X12_339 dX12_longest_21 (sh_50 hG) rfl ?_
    refine jpc (b := 24) rfl ?_
    cases hf
    exact j_ret hX hr hlk rfl dX12_longest_24
  · have hf := ifp hc hf
    refine j_iconst hX dX12_longest_13 ic_m1 ?_
    cases hf
    exact j_ret hX hr hlk rfl dX12_longest_14
theorem gdX12_longest {vR : Int32} {iR : Nat → Nat → Int32} {rvR : Nat → Nat → Option Nat} {a1 : Int32} (hG : aGood sh rv) (hf : fX12_longest a1 i rv = some (vR, iR, rvR)) : aGood sh rvR := by
  unfold fX12_longest at hf
  have hf := ltd hf
  obtain ⟨v2, hh3, hf⟩ := bd1 hf
  refine ifs2 hf (fun hc hf => ?_) (fun hc hf => ?_)
  · have hf := hf
    obtain ⟨i4, rv5, hh6, hf⟩ := bd2 hf
    have hG := gdX12_tryBorder hG hh6
    cases hf
    exact hG
  · have hf := hf
    cases hf
    exact hG
theorem okX12_longest {l : Launch} {sh : List aSh} {i : Nat → Nat → Int32} {lo : Nat → Nat → Int64} {rv : Nat → Nat → Option Nat}  {a1 : Int32} {vR : Int32} {iR : Nat → Nat → Int32} {rvR : Nat → Nat → Option Nat} (hG : aGood sh rv) (hf : fX12_longest a1 i rv = some (vR, iR, rvR)) : aM l yX12_longest cX12_longest 2 (some .int) 1150 [.ref (100 + 50), .int a1] (sh, i, lo, rv) (some (.int vR)) (sh, iR, lo, rvR) :=
  aM_of (by decide) (Nat.le_of_ble_eq_true rfl) (Nat.le_refl _) (Nat.le_refl _) (fun p e s m args below meth c D cA A ad0 hX hr hlk hnm => kX12_longest hX hr hlk (Nat.le_refl _) (Nat.le_refl _) hG hf)
def fX12_image (i : Nat → Nat → Int32) : Option ((Int32) × (Nat → Nat → Int32)) := lt (u2 i 50 0 0) fun i1 =>
    if (i1 50 26) = 0 then (some ((-1), i1)) else (bn1 (fX12_copy 63 296 72 296 i1) fun i2 =>
    lt (u2 i2 50 57 1) fun i4 =>
    bn1 (fX12_asleepIn 63 296 i4) fun v5 =>
    some (v5, i4))
theorem kX12_image  {vR : Int32} {iR : Nat → Nat → Int32} (hX : aX p s m args c RX12 cX12_image 1 D cA A ad0) (hr : meth.sig.returnType = (some .int)) (hlk : meth.locks = false) (hRf : 1 ≤ R.frames) (hRl : 64 * 1 ≤ R.locals) (hG : aGood sh rv) (hf : fX12_image i = some (vR, iR)) : aJ p l e R s m args below meth c (MQ below (aPost D cA ad0 A (sh, i0, lo0, rv0) (some (.int vR)) (sh, iR, lo, rv)) args s (sh.length - sh.length) (aSn sh - aSn sh) A) D cA A ad0 1 sh.length (aSn sh) 0 [some (.ref (100 + 50))] [] (sh, i, lo, rv) := by
  unfold fX12_image at hf
  refine j_aload_n hX dX12_image_0 rfl ?_
  refine j_iconst hX dX12_image_1 ic_0 ?_
  have hf := ltd hf
  refine j_putI (k := 0) hX kX12 (by decide) fk_X12_99 dX12_image_2 (sh_50 hG) rfl rfl rfl rfl ?_
  refine j_aload_n hX dX12_image_5 rfl ?_
  refine j_getI (k := 26) hX kX12 (by decide) fk_X12_297 dX12_image_6 (sh_50 hG) rfl ?_
  refine jpc (b := 9) rfl ?_
  refine j_if_ne (tgt := 14) hX dX12_image_9 (by decide) (fun hc => ?_) (fun hc => ?_)
  · have hf := ifn hc hf
    refine j_aload_n hX dX12_image_14 rfl ?_
    refine j_getR (k := 33) hX kX12 (by decide) fk_X12_61 (rf_50_33 hG) dX12_image_15 (sh_50 hG) rfl ?_
    refine j_aload_n hX dX12_image_18 rfl ?_
    refine j_getR (k := 56) hX kX12 (by decide) fk_X12_96 (rf_50_56 hG) dX12_image_19 (sh_50 hG) rfl ?_
    obtain ⟨i2, hh3, hf⟩ := bd1 hf
    refine j_cS2v hX lk_X12_359 dX12_image_22 (okX12_copy hG (sh_63 hG) (sh_72 hG) hh3) rfl rfl (rmm (by omega) hRf hRl (by decide)) (Nat.le_of_ble_eq_true rfl) (Nat.le_add_right _ _) (Nat.le_add_right _ _) ?_
    refine jpc (b := 25) rfl ?_
    refine j_aload_n hX dX12_image_25 rfl ?_
    refine j_iconst hX dX12_image_26 ic_1 ?_
    have hf := ltd hf
    refine j_putI (k := 57) hX kX12 (by decide) fk_X12_315 dX12_image_27 (sh_50 hG) rfl rfl rfl rfl ?_
    refine j_aload_n hX dX12_image_30 rfl ?_
    refine j_aload_n hX dX12_image_31 rfl ?_
    refine j_getR (k := 33) hX kX12 (by decide) fk_X12_61 (rf_50_33 hG) dX12_image_32 (sh_50 hG) rfl ?_
    refine jpc (b := 35) rfl ?_
    obtain ⟨v5, hh6, hf⟩ := bd1 hf
    refine j_cV1i hX lk_X12_403 kX12 dX12_image_35 (sh_50 hG) (okX12_asleepIn hG (sh_63 hG) hh6) rfl rfl (rmm (by omega) hRf hRl (by decide)) (Nat.le_of_ble_eq_true rfl) (Nat.le_add_right _ _) (Nat.le_add_right _ _) ?_
    cases hf
    exact j_ret hX hr hlk rfl dX12_image_38
  · have hf := ifp hc hf
    refine j_iconst hX dX12_image_12 ic_m1 ?_
    cases hf
    exact j_ret hX hr hlk rfl dX12_image_13
theorem okX12_image {l : Launch} {sh : List aSh} {i : Nat → Nat → Int32} {lo : Nat → Nat → Int64} {rv : Nat → Nat → Option Nat}  {vR : Int32} {iR : Nat → Nat → Int32} (hG : aGood sh rv) (hf : fX12_image i = some (vR, iR)) : aM l yX12_image cX12_image 1 (some .int) 1 [.ref (100 + 50)] (sh, i, lo, rv) (some (.int vR)) (sh, iR, lo, rv) :=
  aM_of (by decide) (Nat.le_of_ble_eq_true rfl) (Nat.le_refl _) (Nat.le_refl _) (fun p e s m args below meth c D cA A ad0 hX hr hlk hnm => kX12_image hX hr hlk (Nat.le_refl _) (Nat.le_refl _) hG hf)
def fX12_back (i : Nat → Nat → Int32) : Option ((Int32) × (Nat → Nat → Int32)) := lt (u2 i 50 0 0) fun i1 =>
    if (i1 50 57) = 0 then (some ((-1), i1)) else (bn1 (fX12_copy 72 296 63 296 i1) fun i2 =>
    lt (u2 i2 50 42 0) fun i4 =>
    bn1 (fX12_asleepIn 63 296 i4) fun v5 =>
    some (v5, i4))
theorem kX12_back  {vR : Int32} {iR : Nat → Nat → Int32} (hX : aX p s m args c RX12 cX12_back 1 D cA A ad0) (hr : meth.sig.returnType = (some .int)) (hlk : meth.locks = false) (hRf : 1 ≤ R.frames) (hRl : 64 * 1 ≤ R.locals) (hG : aGood sh rv) (hf : fX12_back i = some (vR, iR)) : aJ p l e R s m args below meth c (MQ below (aPost D cA ad0 A (sh, i0, lo0, rv0) (some (.int vR)) (sh, iR, lo, rv)) args s (sh.length - sh.length) (aSn sh - aSn sh) A) D cA A ad0 1 sh.length (aSn sh) 0 [some (.ref (100 + 50))] [] (sh, i, lo, rv) := by
  unfold fX12_back at hf
  refine j_aload_n hX dX12_back_0 rfl ?_
  refine j_iconst hX dX12_back_1 ic_0 ?_
  have hf := ltd hf
  refine j_putI (k := 0) hX kX12 (by decide) fk_X12_99 dX12_back_2 (sh_50 hG) rfl rfl rfl rfl ?_
  refine j_aload_n hX dX12_back_5 rfl ?_
  refine j_getI (k := 57) hX kX12 (by decide) fk_X12_315 dX12_back_6 (sh_50 hG) rfl ?_
  refine jpc (b := 9) rfl ?_
  refine j_if_ne (tgt := 14) hX dX12_back_9 (by decide) (fun hc => ?_) (fun hc => ?_)
  · have hf := ifn hc hf
    refine j_aload_n hX dX12_back_14 rfl ?_
    refine j_getR (k := 56) hX kX12 (by decide) fk_X12_96 (rf_50_56 hG) dX12_back_15 (sh_50 hG) rfl ?_
    refine j_aload_n hX dX12_back_18 rfl ?_
    refine j_getR (k := 33) hX kX12 (by decide) fk_X12_61 (rf_50_33 hG) dX12_back_19 (sh_50 hG) rfl ?_
    obtain ⟨i2, hh3, hf⟩ := bd1 hf
    refine j_cS2v hX lk_X12_359 dX12_back_22 (okX12_copy hG (sh_72 hG) (sh_63 hG) hh3) rfl rfl (rmm (by omega) hRf hRl (by decide)) (Nat.le_of_ble_eq_true rfl) (Nat.le_add_right _ _) (Nat.le_add_right _ _) ?_
    refine jpc (b := 25) rfl ?_
    refine j_aload_n hX dX12_back_25 rfl ?_
    refine j_iconst hX dX12_back_26 ic_0 ?_
    have hf := ltd hf
    refine j_putI (k := 42) hX kX12 (by decide) fk_X12_312 dX12_back_27 (sh_50 hG) rfl rfl rfl rfl ?_
    refine j_aload_n hX dX12_back_30 rfl ?_
    refine j_aload_n hX dX12_back_31 rfl ?_
    refine j_getR (k := 33) hX kX12 (by decide) fk_X12_61 (rf_50_33 hG) dX12_back_32 (sh_50 hG) rfl ?_
    refine jpc (b := 35) rfl ?_
    obtain ⟨v5, hh6, hf⟩ := bd1 hf
    refine j_cV1i hX lk_X12_403 kX12 dX12_back_35 (sh_50 hG) (okX12_asleepIn hG (sh_63 hG) hh6) rfl rfl (rmm (by omega) hRf hRl (by decide)) (Nat.le_of_ble_eq_true rfl) (Nat.le_add_right _ _) (Nat.le_add_right _ _) ?_
    cases hf
    exact j_ret hX hr hlk rfl dX12_back_38
  · have hf := ifp hc hf
    refine j_iconst hX dX12_back_12 ic_m1 ?_
    cases hf
    exact j_ret hX hr hlk rfl dX12_back_13
theorem okX12_back {l : Launch} {sh : List aSh} {i : Nat → Nat → Int32} {lo : Nat → Nat → Int64} {rv : Nat → Nat → Option Nat}  {vR : Int32} {iR : Nat → Nat → Int32} (hG : aGood sh rv) (hf : fX12_back i = some (vR, iR)) : aM l yX12_back cX12_back 1 (some .int) 1 [.ref (100 + 50)] (sh, i, lo, rv) (some (.int vR)) (sh, iR, lo, rv) :=
  aM_of (by decide) (Nat.le_of_ble_eq_true rfl) (Nat.le_refl _) (Nat.le_refl _) (fun p e s m args below meth c D cA A ad0 hX hr hlk hnm => kX12_back hX hr hlk (Nat.le_refl _) (Nat.le_refl _) hG hf)
def fX12_count (a1 : Int32) (i : Nat → Nat → Int32) : Option ((Int32) × (Nat → Nat → Int32)) := lt (u2 i 50 0 0) fun i1 =>
    if a1 = 0 then (some ((i1 50 26), i1)) else
    if a1 = 1 then (some ((i1 50 27), i1)) else
    if a1 = 2 then (some ((i1 50 7), i1)) else
    if a1 = 3 then (some ((i1 50 31), i1)) else
    if a1 = 4 then (some ((i1 50 6), i1)) else
    if a1 = 5 then (some ((i1 50 35), i1)) else
    if a1 = 6 then (some ((i1 50 28), i1)) else
    if a1 = 7 then (bn1 (fX12_asleepIn 63 296 i1) fun v2 =>
    some (v2, i1)) else
    if a1 = 8 then (some ((i1 50 36), i1)) else
    if a1 = 9 then (some ((i1 50 49), i1)) else
    if a1 = 10 then (some ((i1 50 52), i1)) else
    if a1 = 11 then (if aIn 55 296 = true then
    (some ((i1 63 (55 : Int32).toNatClampNeg), i1)) else none) else
    if a1 = 12 then (some ((i1 50 42), i1)) else
    if a1 = 13 then (bn1 (fX12_lostIn 63 296 i1) fun v4 =>
    some (v4, i1)) else
    (some ((-1000000), i1))
theorem kX12_count  {vR : Int32} {iR : Nat → Nat → Int32} (hX : aX p s m args c RX12 cX12_count 2 D cA A ad0) (hr : meth.sig.returnType = (some .int)) (hlk : meth.locks = false) (hRf : 1 ≤ R.frames) (hRl : 64 * 1 ≤ R.locals) {a1 : Int32} (hG : aGood sh rv) (hf : fX12_count a1 i = some (vR, iR)) : aJ p l e R s m args below meth c (MQ below (aPost D cA ad0 A (sh, i0, lo0, rv0) (some (.int vR)) (sh, iR, lo, rv)) args s (sh.length - sh.length) (aSn sh - aSn sh) A) D cA A ad0 2 sh.length (aSn sh) 0 [some (.ref (100 + 50)), some (.int a1)] [] (sh, i, lo, rv) := by
  unfold fX12_count at hf
  refine j_aload_n hX dX12_count_0 rfl ?_
  refine j_iconst hX dX12_count_1 ic_0 ?_
  have hf := ltd hf
  refine j_putI (k := 0) hX kX12 (by decide) fk_X12_99 dX12_count_2 (sh_50 hG) rfl rfl rfl rfl ?_
  refine j_iload_n hX dX12_count_5 rfl ?_
  refine sw2 (k := 0) hf (fun hc0 hf => ?_) (fun hc0 hf => ?_)
  · refine j_tabIn (off := 70) (tgt := 76) hX dX12_count_6 (by rw [hc0]; decide) (by rw [hc0]; decide) (by rw [hc0]; rfl) (by decide) ?_
    refine j_aload_n hX dX12_count_76 rfl ?_
    refine j_getI (k := 26) hX kX12 (by decide) fk_X12_297 dX12_count_77 (sh_50 hG) rfl ?_
    cases hf
    exact j_ret hX hr hlk rfl dX12_count_80
  refine sw2 (k := 1) hf (fun hc1 hf => ?_) (fun hc1 hf => ?_)
  · refine j_tabIn (off := 75) (tgt := 81) hX dX12_count_6 (by rw [hc1]; decide) (by rw [hc1]; decide) (by rw [hc1]; rfl) (by decide) ?_
    refine j_aload_n hX dX12_count_81 rfl ?_
    refine j_getI (k := 27) hX kX12 (by decide) fk_X12_300 dX12_count_82 (sh_50 hG) rfl ?_
    cases hf
    exact j_ret hX hr hlk rfl dX12_count_85
  refine sw2 (k := 2) hf (fun hc2 hf => ?_) (fun hc2 hf => ?_)
  · refine j_tabIn (off := 80) (tgt := 86) hX dX12_count_6 (by rw [hc2]; decide) (by rw [hc2]; decide) (by rw [hc2]; rfl) (by decide) ?_
    refine j_aload_n hX dX12_count_86 rfl ?_
    refine j_getI (k := 7) hX kX12 (by decide) fk_X12_289 dX12_count_87 (sh_50 hG) rfl ?_
    cases hf
    exact j_ret hX hr hlk rfl dX12_count_90
  refine sw2 (k := 3) hf (fun hc3 hf => ?_) (fun hc3 hf => ?_)
  · refine j_tabIn (off := 85) (tgt := 91) hX dX12_count_6 (by rw [hc3]; decide) (by rw [hc3]; decide) (by rw [hc3]; rfl) (by decide) ?_
    refine j_aload_n hX dX12_count_91 rfl ?_
    refine j_getI (k := 31) hX kX12 (by decide) fk_X12_292 dX12_count_92 (sh_50 hG) rfl ?_
    cases hf
    exact j_ret hX hr hlk rfl dX12_count_95
  refine sw2 (k := 4) hf (fun hc4 hf => ?_) (fun hc4 hf => ?_)
  · refine j_tabIn (off := 90) (tgt := 96) hX dX12_count_6 (by rw [hc4]; decide) (by rw [hc4]; decide) (by rw [hc4]; rfl) (by decide) ?_
    refine j_aload_n hX dX12_count_96 rfl ?_
    refine j_getI (k := 6) hX kX12 (by decide) fk_X12_112 dX12_count_97 (sh_50 hG) rfl ?_
    cases hf
    exact j_ret hX hr hlk rfl dX12_count_100
  refine sw2 (k := 5) hf (fun hc5 hf => ?_) (fun hc5 hf => ?_)
  · refine j_tabIn (off := 95) (tgt := 101) hX dX12_count_6 (by rw [hc5]; decide) (by rw [hc5]; decide) (by rw [hc5]; rfl) (by decide) ?_
    refine j_aload_n hX dX12_count_101 rfl ?_
    refine j_getI (k := 35) hX kX12 (by decide) fk_X12_67 dX12_count_102 (sh_50 hG) rfl ?_
    cases hf
    exact j_ret hX hr hlk rfl dX12_count_105
  refine sw2 (k := 6) hf (fun hc6 hf => ?_) (fun hc6 hf => ?_)
  · refine j_tabIn (off := 100) (tgt := 106) hX dX12_count_6 (by rw [hc6]; decide) (by rw [hc6]; decide) (by rw [hc6]; rfl) (by decide) ?_
    refine j_aload_n hX dX12_count_106 rfl ?_
    refine j_getI (k := 28) hX kX12 (by decide) fk_X12_303 dX12_count_107 (sh_50 hG) rfl ?_
    cases hf
    exact j_ret hX hr hlk rfl dX12_count_110
  refine sw2 (k := 7) hf (fun hc7 hf => ?_) (fun hc7 hf => ?_)
  · refine j_tabIn (off := 105) (tgt := 111) hX dX12_count_6 (by rw [hc7]; decide) (by rw [hc7]; decide) (by rw [hc7]; rfl) (by decide) ?_
    refine j_aload_n hX dX12_count_111 rfl ?_
    refine j_aload_n hX dX12_count_112 rfl ?_
    refine j_getR (k := 33) hX kX12 (by decide) fk_X12_61 (rf_50_33 hG) dX12_count_113 (sh_50 hG) rfl ?_
    obtain ⟨v2, hh3, hf⟩ := bd1 hf
    refine j_cV1i hX lk_X12_403 kX12 dX12_count_116 (sh_50 hG) (okX12_asleepIn hG (sh_63 hG) hh3) rfl rfl (rmm (by omega) hRf hRl (by decide)) (Nat.le_of_ble_eq_true rfl) (Nat.le_add_right _ _) (Nat.le_add_right _ _) ?_
    cases hf
    exact j_ret hX hr hlk rfl dX12_count_119
  refine sw2 (k := 8) hf (fun hc8 hf => ?_) (fun hc8 hf => ?_)
  · refine j_tabIn (off := 114) (tgt := 120) hX dX12_count_6 (by rw [hc8]; decide) (by rw [hc8]; decide) (by rw [hc8]; rfl) (by decide) ?_
    refine j_aload_n hX dX12_count_120 rfl ?_
    refine j_getI (k := 36) hX kX12 (by decide) fk_X12_71 dX12_count_121 (sh_50 hG) rfl ?_
    cases hf
    exact j_ret hX hr hlk rfl dX12_count_124
  refine sw2 (k := 9) hf (fun hc9 hf => ?_) (fun hc9 hf => ?_)
  · refine j_tabIn (off := 119) (tgt := 125) hX dX12_count_6 (by rw [hc9]; decide) (by rw [hc9]; decide) (by rw [hc9]; rfl) (by decide) ?_
    refine j_aload_n hX dX12_count_125 rfl ?_
    refine j_getI (k := 49) hX kX12 (by decide) fk_X12_306 dX12_count_126 (sh_50 hG) rfl ?_
    cases hf
    exact j_ret hX hr hlk rfl dX12_count_129
  refine sw2 (k := 10) hf (fun hc10 hf => ?_) (fun hc10 hf => ?_)
  · refine j_tabIn (off := 124) (tgt := 130) hX dX12_count_6 (by rw [hc10]; decide) (by rw [hc10]; decide) (by rw [hc10]; rfl) (by decide) ?_
    refine j_aload_n hX dX12_count_130 rfl ?_
    refine j_getI (k := 52) hX kX12 (by decide) fk_X12_309 dX12_count_131 (sh_50 hG) rfl ?_
    cases hf
    exact j_ret hX hr hlk rfl dX12_count_134
  refine sw2 (k := 11) hf (fun hc11 hf => ?_) (fun hc11 hf => ?_)
  · refine j_tabIn (off := 129) (tgt := 135) hX dX12_count_6 (by rw [hc11]; decide) (by rw [hc11]; decide) (by rw [hc11]; rfl) (by decide) ?_
    refine j_aload_n hX dX12_count_135 rfl ?_
    refine j_getR (k := 33) hX kX12 (by decide) fk_X12_61 (rf_50_33 hG) dX12_count_136 (sh_50 hG) rfl ?_
    refine j_bipush hX dX12_count_139 bp_55 ?_
    obtain ⟨hg, hf⟩ := gd hf
    refine j_iald hX (sh_63 hG) hg dX12_count_141 ?_
    cases hf
    exact j_ret hX hr hlk rfl dX12_count_142
  refine sw2 (k := 12) hf (fun hc12 hf => ?_) (fun hc12 hf => ?_)
  · refine j_tabIn (off := 137) (tgt := 143) hX dX12_count_6 (by rw [hc12]; decide) (by rw [hc12]; decide) (by rw [hc12]; rfl) (by decide) ?_
    refine j_aload_n hX dX12_count_143 rfl ?_
    refine j_getI (k := 42) hX kX12 (by decide) fk_X12_312 dX12_count_144 (sh_50 hG) rfl ?_
    cases hf
    exact j_ret hX hr hlk rfl dX12_count_147
  refine sw2 (k := 13) hf (fun hc13 hf => ?_) (fun hc13 hf => ?_)
  · refine j_tabIn (off := 142) (tgt := 148) hX dX12_count_6 (by rw [hc13]; decide) (by rw [hc13]; decide) (by rw [hc13]; rfl) (by decide) ?_
    refine j_aload_n hX dX12_count_148 rfl ?_
    refine j_aload_n hX dX12_count_149 rfl ?_
    refine j_getR (k := 33) hX kX12 (by decide) fk_X12_61 (rf_50_33 hG) dX12_count_150 (sh_50 hG) rfl ?_
    obtain ⟨v4, hh5, hf⟩ := bd1 hf
    refine j_cV1i hX lk_X12_448 kX12 dX12_count_153 (sh_50 hG) (okX12_lostIn hG (sh_63 hG) hh5) rfl rfl (rmm (by omega) hRf hRl (by decide)) (Nat.le_of_ble_eq_true rfl) (Nat.le_add_right _ _) (Nat.le_add_right _ _) ?_
    cases hf
    exact j_ret hX hr hlk rfl dX12_count_156
  refine j_tabOut (tgt := 157) hX dX12_count_6 (by have g0 := i32ne (z := 0) hc0 (by decide); have g1 := i32ne (z := 1) hc1 (by decide); have g2 := i32ne (z := 2) hc2 (by decide); have g3 := i32ne (z := 3) hc3 (by decide); have g4 := i32ne (z := 4) hc4 (by decide); have g5 := i32ne (z := 5) hc5 (by decide); have g6 := i32ne (z := 6) hc6 (by decide); have g7 := i32ne (z := 7) hc7 (by decide); have g8 := i32ne (z := 8) hc8 (by decide); have g9 := i32ne (z := 9) hc9 (by decide); have g10 := i32ne (z := 10) hc10 (by decide); have g11 := i32ne (z := 11) hc11 (by decide); have g12 := i32ne (z := 12) hc12 (by decide); have g13 := i32ne (z := 13) hc13 (by decide); omega) (by decide) ?_
  refine j_ldc_w hX kc_X12_441 dX12_count_157 ?_
  cases hf
  exact j_ret hX hr hlk rfl dX12_count_160
theorem okX12_count {l : Launch} {sh : List aSh} {i : Nat → Nat → Int32} {lo : Nat → Nat → Int64} {rv : Nat → Nat → Option Nat}  {a1 : Int32} {vR : Int32} {iR : Nat → Nat → Int32} (hG : aGood sh rv) (hf : fX12_count a1 i = some (vR, iR)) : aM l yX12_count cX12_count 2 (some .int) 1 [.ref (100 + 50), .int a1] (sh, i, lo, rv) (some (.int vR)) (sh, iR, lo, rv) :=
  aM_of (by decide) (Nat.le_of_ble_eq_true rfl) (Nat.le_refl _) (Nat.le_refl _) (fun p e s m args below meth c D cA A ad0 hX hr hlk hnm => kX12_count hX hr hlk (Nat.le_refl _) (Nat.le_refl _) hG hf)
end DC
