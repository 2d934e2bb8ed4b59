/-! decompiled: X12_tensOf X12_goOrder X12_order X12_bound X12_costOf X12_before X12_words X12_hear X12_couldBe -/
section DC
variable {p : Program} {l : Launch} {e : Env} {R : Room} {s : State} {m : MethodId} {args : Array Value} {below : List Frame} {meth : Method} {c : Code} {D : va_G} {cA : FieldType → ClassId} {A : Nat → Prop} {ad0 : Nat → Nat} {sh : List aSh} {i i0 : Nat → Nat → Int32} {lo lo0 : Nat → Nat → Int64} {rv rv0 : Nat → Nat → Option Nat}
def fX12_tensOf_125 (kh17 : Int32 → Int32 → Int32 → Int32 → Int32 → Int32 → (Nat → Nat → Int32) → Option ((Int32))) (x1 : Int32) (x2 : Int32) (x3 : Int32) (x4 : Int32) (x5 : Int32) (x6 : Int32) (i : Nat → Nat → Int32) : Option ((Int32)) := kh17 x1 x2 x3 x4 x5 (x6 + 1) i
theorem kX12_tensOf_125  {vR : Int32} (hX : aX p s m args c RX12 cX12_tensOf 8 D cA A ad0) (hr : meth.sig.returnType = (some .int)) (hlk : meth.locks = false) (hRf : 2 ≤ R.frames) (hRl : 64 * 2 ≤ R.locals) {kh17 : Int32 → Int32 → Int32 → Int32 → Int32 → Int32 → (Nat → Nat → Int32) → Option ((Int32))} (Hkh17 : ∀ (x1 : Int32) (x2 : Int32) (x3 : Int32) (x4 : Int32) (x5 : Int32) (x6 : Int32), aGood sh rv → kh17 x1 x2 x3 x4 x5 x6 i = some (vR) → aJ p l e R s m args below meth c (MQ below (aPost D cA ad0 A (sh, i0, lo0, rv0) (some (.int vR)) (sh, i, lo, rv)) args s (sh.length - sh.length) (aSn sh - aSn sh) A) D cA A ad0 8 sh.length (aSn sh) 17 [some (.ref (100 + 50)), some (.int x1), some (.int x2), some (.int x3), some (.int x4), some (.int x5), some (.int x6), none] [] (sh, i, lo, rv)) {x1 : Int32} {x2 : Int32} {x3 : Int32} {x4 : Int32} {x5 : Int32} {x6 : Int32} (hG : aGood sh rv) (hf : fX12_tensOf_125 kh17 x1 x2 x3 x4 x5 x6 i = some (vR)) : aJ p l e R s m args below meth c (MQ below (aPost D cA ad0 A (sh, i0, lo0, rv0) (some (.int vR)) (sh, i, lo, rv)) args s (sh.length - sh.length) (aSn sh - aSn sh) A) D cA A ad0 8 sh.length (aSn sh) 125 [some (.ref (100 + 50)), some (.int x1), some (.int x2), some (.int x3), some (.int x4), some (.int x5), some (.int x6), none] [] (sh, i, lo, rv) := by
  unfold fX12_tensOf_125 at hf
  refine j_iinc hX dX12_tensOf_125 rfl (congrArg (_ + ·) ic_1) (by decide) rfl ?_
  refine j_goto (tgt := 17) hX dX12_tensOf_128 (by decide) ?_
  exact aJx (Hkh17 _ _ _ _ _ _ hG  hf) (And.intro rfl (And.intro rfl (And.intro rfl (And.intro rfl (And.intro rfl (And.intro rfl (And.intro rfl (rfl))))))))
def fX12_tensOf_122 (kh17 : Int32 → Int32 → Int32 → Int32 → Int32 → Int32 → (Nat → Nat → Int32) → Option ((Int32))) (x1 : Int32) (x2 : Int32) (x3 : Int32) (x4 : Int32) (x6 : Int32) (s0 : Int32) (s1 : Int32) (i : Nat → Nat → Int32) : Option ((Int32)) := fX12_tensOf_125 kh17 x1 x2 x3 x4 (s0 - s1) x6 i
theorem kX12_tensOf_122  {vR : Int32} (hX : aX p s m args c RX12 cX12_tensOf 8 D cA A ad0) (hr : meth.sig.returnType = (some .int)) (hlk : meth.locks = false) (hRf : 2 ≤ R.frames) (hRl : 64 * 2 ≤ R.locals) {kh17 : Int32 → Int32 → Int32 → Int32 → Int32 → Int32 → (Nat → Nat → Int32) → Option ((Int32))} (Hkh17 : ∀ (x1 : Int32) (x2 : Int32) (x3 : Int32) (x4 : Int32) (x5 : Int32) (x6 : Int32), aGood sh rv → kh17 x1 x2 x3 x4 x5 x6 i = some (vR) → aJ p l e R s m args below meth c (MQ below (aPost D cA ad0 A (sh, i0, lo0, rv0) (some (.int vR)) (sh, i, lo, rv)) args s (sh.length - sh.length) (aSn sh - aSn sh) A) D cA A ad0 8 sh.length (aSn sh) 17 [some (.ref (100 + 50)), some (.int x1), some (.int x2), some (.int x3), some (.int x4), some (.int x5), some (.int x6), none] [] (sh, i, lo, rv)) {x1 : Int32} {x2 : Int32} {x3 : Int32} {x4 : Int32} {x6 : Int32} {s0 : Int32} {s1 : Int32} (hG : aGood sh rv) (hf : fX12_tensOf_122 kh17 x1 x2 x3 x4 x6 s0 s1 i = some (vR)) : aJ p l e R s m args below meth c (MQ below (aPost D cA ad0 A (sh, i0, lo0, rv0) (some (.int vR)) (sh, i, lo, rv)) args s (sh.length - sh.length) (aSn sh - aSn sh) A) D cA A ad0 8 sh.length (aSn sh) 122 [some (.ref (100 + 50)), some (.int x1), some (.int x2), some (.int x3), some (.int x4), none, some (.int x6), none] [.int s1, .int s0] (sh, i, lo, rv) := by
  unfold fX12_tensOf_122 at hf
  refine j_isub hX dX12_tensOf_122 ?_
  refine j_istore hX dX12_tensOf_123 (by decide) rfl ?_
  exact aJx (kX12_tensOf_125 hX hr hlk hRf hRl Hkh17 hG  hf) (And.intro rfl (And.intro rfl (And.intro rfl (And.intro rfl (And.intro rfl (And.intro rfl (And.intro rfl (rfl))))))))
def fX12_tensOf_121 (kh17 : Int32 → Int32 → Int32 → Int32 → Int32 → Int32 → (Nat → Nat → Int32) → Option ((Int32))) (x1 : Int32) (x2 : Int32) (x3 : Int32) (x4 : Int32) (x6 : Int32) (s0 : Int32) (i : Nat → Nat → Int32) : Option ((Int32)) := fX12_tensOf_122 kh17 x1 x2 x3 x4 x6 s0 0 i
theorem kX12_tensOf_121  {vR : Int32} (hX : aX p s m args c RX12 cX12_tensOf 8 D cA A ad0) (hr : meth.sig.returnType = (some .int)) (hlk : meth.locks = false) (hRf : 2 ≤ R.frames) (hRl : 64 * 2 ≤ R.locals) {kh17 : Int32 → Int32 → Int32 → Int32 → Int32 → Int32 → (Nat → Nat → Int32) → Option ((Int32))} (Hkh17 : ∀ (x1 : Int32) (x2 : Int32) (x3 : Int32) (x4 : Int32) (x5 : Int32) (x6 : Int32), aGood sh rv → kh17 x1 x2 x3 x4 x5 x6 i = some (vR) → aJ p l e R s m args below meth c (MQ below (aPost D cA ad0 A (sh, i0, lo0, rv0) (some (.int vR)) (sh, i, lo, rv)) args s (sh.length - sh.length) (aSn sh - aSn sh) A) D cA A ad0 8 sh.length (aSn sh) 17 [some (.ref (100 + 50)), some (.int x1), some (.int x2), some (.int x3), some (.int x4), some (.int x5), some (.int x6), none] [] (sh, i, lo, rv)) {x1 : Int32} {x2 : Int32} {x3 : Int32} {x4 : Int32} {x6 : Int32} {s0 : Int32} (hG : aGood sh rv) (hf : fX12_tensOf_121 kh17 x1 x2 x3 x4 x6 s0 i = some (vR)) : aJ p l e R s m args below meth c (MQ below (aPost D cA ad0 A (sh, i0, lo0, rv0) (some (.int vR)) (sh, i, lo, rv)) args s (sh.length - sh.length) (aSn sh - aSn sh) A) D cA A ad0 8 sh.length (aSn sh) 121 [some (.ref (100 + 50)), some (.int x1), some (.int x2), some (.int x3), some (.int x4), none, some (.int x6), none] [.int s0] (sh, i, lo, rv) := by
  unfold fX12_tensOf_121 at hf
  refine j_iconst hX dX12_tensOf_121 ic_0 ?_
  exact aJx (kX12_tensOf_122 hX hr hlk hRf hRl Hkh17 hG  hf) (And.intro rfl (And.intro rfl (And.intro rfl (And.intro rfl (And.intro rfl (And.intro rfl (rfl)))))))
def fX12_tensOf_85 (kh17 : Int32 → Int32 → Int32 → Int32 → Int32 → Int32 → (Nat → Nat → Int32) → Option ((Int32))) (x1 : Int32) (x2 : Int32) (x3 : Int32) (x5 : Int32) (x6 : Int32) (x7 : Int32) (s0 : Int32) (s1 : Int32) (s4 : Int32) (s5 : Int32) (s6 : Int32) (i : Nat → Nat → Int32) : Option ((Int32)) := bn1 (fX12_waitOf 63 296 s4 s5 s6 i) fun v5 =>
    lt (if s0 < (s1 + v5) then (s1 + v5) else s0) fun t7 =>
    if aIn (((6 : Int32) * x7) + (2 : Int32)) 296 = true then
    (if (i 63 ((((6 : Int32) * x7) + (2 : Int32)) : Int32).toNatClampNeg) = 2 then (if x5 ≤ 0 then (fX12_tensOf_121 kh17 x1 x2 x3 t7 x6 x5 i) else (fX12_tensOf_122 kh17 x1 x2 x3 t7 x6 x5 1 i)) else (fX12_tensOf_121 kh17 x1 x2 x3 t7 x6 x5 i)) else none
theorem kX12_tensOf_85  {vR : Int32} (hX : aX p s m args c RX12 cX12_tensOf 8 D cA A ad0) (hr : meth.sig.returnType = (some .int)) (hlk : meth.locks = false) (hRf : 2 ≤ R.frames) (hRl : 64 * 2 ≤ R.locals) {kh17 : Int32 → Int32 → Int32 → Int32 → Int32 → Int32 → (Nat → Nat → Int32) → Option ((Int32))} (Hkh17 : ∀ (x1 : Int32) (x2 : Int32) (x3 : Int32) (x4 : Int32) (x5 : Int32) (x6 : Int32), aGood sh rv → kh17 x1 x2 x3 x4 x5 x6 i = some (vR) → aJ p l e R s m args below meth c (MQ below (aPost D cA ad0 A (sh, i0, lo0, rv0) (some (.int vR)) (sh, i, lo, rv)) args s (sh.length - sh.length) (aSn sh - aSn sh) A) D cA A ad0 8 sh.length (aSn sh) 17 [some (.ref (100 + 50)), some (.int x1), some (.int x2), some (.int x3), some (.int x4), some (.int x5), some (.int x6), none] [] (sh, i, lo, rv)) {x1 : Int32} {x2 : Int32} {x3 : Int32} {x5 : Int32} {x6 : Int32} {x7 : Int32} {s0 : Int32} {s1 : Int32} {s4 : Int32} {s5 : Int32} {s6 : Int32} (hG : aGood sh rv) (hf : fX12_tensOf_85 kh17 x1 x2 x3 x5 x6 x7 s0 s1 s4 s5 s6 i = some (vR)) : aJ p l e R s m args below meth c (MQ below (aPost D cA ad0 A (sh, i0, lo0, rv0) (some (.int vR)) (sh, i, lo, rv)) args s (sh.length - sh.length) (aSn sh - aSn sh) A) D cA A ad0 8 sh.length (aSn sh) 85 [some (.ref (100 + 50)), some (.int x1), some (.int x2), some (.int x3), none, some (.int x5), some (.int x6), some (.int x7)] [.int s6, .int s5, .int s4, .ref (100 + 63), .ref (100 + 50), .int s1, .int s0] (sh, i, lo, rv) := by
  unfold fX12_tensOf_85 at hf
  obtain ⟨v5, hh6, hf⟩ := bd1 hf
  refine j_cV4i hX lk_X12_355 kX12 dX12_tensOf_85 (sh_50 hG) (okX12_waitOf hG (sh_63 hG) hh6) rfl rfl (rmm (by omega) hRf hRl (by decide)) (Nat.le_of_ble_eq_true rfl) (Nat.le_add_right _ _) (Nat.le_add_right _ _) ?_
  refine j_iadd hX dX12_tensOf_88 ?_
  refine j_max hX lk_X12_327 dX12_tensOf_89 ⟨by omega, Nat.le_trans (Nat.le_of_ble_eq_true rfl) hRl⟩ (Nat.le_add_right _ _) (Nat.le_add_right _ _) ?_
  have hf := ltd hf
  refine j_istore hX dX12_tensOf_92 (by decide) rfl ?_
  refine j_iload hX dX12_tensOf_94 rfl ?_
  refine jpc (b := 96) rfl ?_
  refine j_aload_n hX dX12_tensOf_96 rfl ?_
  refine j_getR (k := 33) hX kX12 (by decide) fk_X12_61 (rf_50_33 hG) dX12_tensOf_97 (sh_50 hG) rfl ?_
  refine j_bipush hX dX12_tensOf_100 bp_6 ?_
  refine j_iload hX dX12_tensOf_102 rfl ?_
  refine j_imul hX dX12_tensOf_104 ?_
  refine j_iconst hX dX12_tensOf_105 ic_2 ?_
  refine jpc (b := 106) rfl ?_
  refine j_iadd hX dX12_tensOf_106 ?_
  obtain ⟨hg, hf⟩ := gd hf
  refine j_iald hX (sh_63 hG) hg dX12_tensOf_107 ?_
  refine j_iconst hX dX12_tensOf_108 ic_2 ?_
  refine j_icmp_ne (tgt := 121) hX dX12_tensOf_109 (by decide) (fun hc => ?_) (fun hc => ?_)
  · have hf := ifn hc hf
    exact aJx (kX12_tensOf_121 hX hr hlk hRf hRl Hkh17 hG  hf) (And.intro rfl (And.intro rfl (And.intro rfl (And.intro rfl (And.intro rfl (And.intro rfl (rfl)))))))
  · have hf := ifp hc hf
    refine j_iload hX dX12_tensOf_112 rfl ?_
    refine j_if_le (tgt := 121) hX dX12_tensOf_114 (by decide) (fun hc => ?_) (fun hc => ?_)
    · have hf := ifp hc hf
      exact aJx (kX12_tensOf_121 hX hr hlk hRf hRl Hkh17 hG  hf) (And.intro rfl (And.intro rfl (And.intro rfl (And.intro rfl (And.intro rfl (And.intro rfl (rfl)))))))
    · have hf := ifn hc hf
      refine j_iconst hX dX12_tensOf_117 ic_1 ?_
      refine j_goto (tgt := 122) hX dX12_tensOf_118 (by decide) ?_
      exact aJx (kX12_tensOf_122 hX hr hlk hRf hRl Hkh17 hG  hf) (And.intro rfl (And.intro rfl (And.intro rfl (And.intro rfl (And.intro rfl (And.intro rfl (rfl)))))))
def fX12_tensOf_17 : Nat → Int32 → Int32 → Int32 → Int32 → Int32 → Int32 → (Nat → Nat → Int32) → Option ((Int32))
  | 0, _, _, _, _, _, _, _ => none
  | n + 1, x1, x2, x3, x4, x5, x6, i => if x2 ≤ x6 then (some ((if x4 < x3 then x3 else x4))) else (if aIn x6 9 = true then
    (lt (i 66 (x6 : Int32).toNatClampNeg) fun t2 =>
    bn1 (fX12_turnOf 63 296 t2 x1 i) fun v3 =>
    if aIn (((6 : Int32) * t2) + (1 : Int32)) 54 = true then
    (if (i 57 ((((6 : Int32) * t2) + (1 : Int32)) : Int32).toNatClampNeg) = 0 then (fX12_tensOf_125 (fX12_tensOf_17 n) x1 x2 (x3 + v3) x4 x5 x6 i) else (if x5 ≤ 0 then (fX12_tensOf_85 (fX12_tensOf_17 n) x1 x2 (x3 + v3) x5 x6 t2 x4 (x3 + v3) t2 x1 0 i) else (fX12_tensOf_85 (fX12_tensOf_17 n) x1 x2 (x3 + v3) x5 x6 t2 x4 (x3 + v3) t2 x1 1 i))) else none) else none)
theorem kX12_tensOf_17  {vR : Int32} (hX : aX p s m args c RX12 cX12_tensOf 8 D cA A ad0) (hr : meth.sig.returnType = (some .int)) (hlk : meth.locks = false) (hRf : 2 ≤ R.frames) (hRl : 64 * 2 ≤ R.locals) : ∀ (n : Nat) (x1 : Int32) (x2 : Int32) (x3 : Int32) (x4 : Int32) (x5 : Int32) (x6 : Int32), aGood sh rv → fX12_tensOf_17 n x1 x2 x3 x4 x5 x6 i = some (vR) → aJ p l e R s m args below meth c (MQ below (aPost D cA ad0 A (sh, i0, lo0, rv0) (some (.int vR)) (sh, i, lo, rv)) args s (sh.length - sh.length) (aSn sh - aSn sh) A) D cA A ad0 8 sh.length (aSn sh) 17 [some (.ref (100 + 50)), some (.int x1), some (.int x2), some (.int x3), some (.int x4), some (.int x5), some (.int x6), none] [] (sh, i, lo, rv) := by
  intro n
  induction n with
  | zero => intros; rename_i hf; cases hf
  | succ n ih =>
    intro x1 x2 x3 x4 x5 x6 hG hf
    rw [fX12_tensOf_17] at hf
    refine j_iload hX dX12_tensOf_17 rfl ?_
    refine j_iload_n hX dX12_tensOf_19 rfl ?_
    refine j_icmp_ge (tgt := 131) hX dX12_tensOf_20 (by decide) (fun hc => ?_) (fun hc => ?_)
    · have hf := ifp hc hf
      refine j_iload hX dX12_tensOf_131 rfl ?_
      refine j_iload_n hX dX12_tensOf_133 rfl ?_
      refine j_max hX lk_X12_327 dX12_tensOf_134 ⟨by omega, Nat.le_trans (Nat.le_of_ble_eq_true rfl) hRl⟩ (Nat.le_add_right _ _) (Nat.le_add_right _ _) ?_
      cases hf
      exact j_ret hX hr hlk rfl dX12_tensOf_137
    · have hf := ifn hc hf
      refine j_aload_n hX dX12_tensOf_23 rfl ?_
      refine j_getR (k := 46) hX kX12 (by decide) fk_X12_77 (rf_50_46 hG) dX12_tensOf_24 (sh_50 hG) rfl ?_
      refine j_iload hX dX12_tensOf_27 rfl ?_
      obtain ⟨hg, hf⟩ := gd hf
      refine j_iald hX (sh_66 hG) hg dX12_tensOf_29 ?_
      have hf := ltd hf
      refine j_istore hX dX12_tensOf_30 (by decide) rfl ?_
      refine j_iload_n hX dX12_tensOf_32 rfl ?_
      refine j_aload_n hX dX12_tensOf_33 rfl ?_
      refine j_aload_n hX dX12_tensOf_34 rfl ?_
      refine j_getR (k := 33) hX kX12 (by decide) fk_X12_61 (rf_50_33 hG) dX12_tensOf_35 (sh_50 hG) rfl ?_
      refine jpc (b := 38) rfl ?_
      refine j_iload hX dX12_tensOf_38 rfl ?_
      refine j_iload_n hX dX12_tensOf_40 rfl ?_
      obtain ⟨v3, hh4, hf⟩ := bd1 hf
      refine j_cV3i hX lk_X12_348 kX12 dX12_tensOf_41 (sh_50 hG) (okX12_turnOf hG (sh_63 hG) hh4) rfl rfl (rmm (by omega) hRf hRl (by decide)) (Nat.le_of_ble_eq_true rfl) (Nat.le_add_right _ _) (Nat.le_add_right _ _) ?_
      refine j_iadd hX dX12_tensOf_44 ?_
      refine j_istore_n hX dX12_tensOf_45 (by decide) rfl ?_
      refine j_aload_n hX dX12_tensOf_46 rfl ?_
      refine jpc (b := 47) rfl ?_
      refine j_getR (k := 20) hX kX12 (by decide) fk_X12_43 (rf_50_20 hG) dX12_tensOf_47 (sh_50 hG) rfl ?_
      refine j_bipush hX dX12_tensOf_50 bp_6 ?_
      refine j_iload hX dX12_tensOf_52 rfl ?_
      refine j_imul hX dX12_tensOf_54 ?_
      refine j_iconst hX dX12_tensOf_55 ic_1 ?_
      refine j_iadd hX dX12_tensOf_56 ?_
      refine jpc (b := 57) rfl ?_
      obtain ⟨hg, hf⟩ := gd hf
      refine j_iald hX (sh_57 hG) hg dX12_tensOf_57 ?_
      refine j_if_ne (tgt := 64) hX dX12_tensOf_58 (by decide) (fun hc => ?_) (fun hc => ?_)
      · have hf := ifn hc hf
        refine j_iload hX dX12_tensOf_64 rfl ?_
        refine j_iload_n hX dX12_tensOf_66 rfl ?_
        refine j_aload_n hX dX12_tensOf_67 rfl ?_
        refine j_aload_n hX dX12_tensOf_68 rfl ?_
        refine j_getR (k := 33) hX kX12 (by decide) fk_X12_61 (rf_50_33 hG) dX12_tensOf_69 (sh_50 hG) rfl ?_
        refine jpc (b := 72) rfl ?_
        refine j_iload hX dX12_tensOf_72 rfl ?_
        refine j_iload_n hX dX12_tensOf_74 rfl ?_
        refine j_iload hX dX12_tensOf_75 rfl ?_
        refine j_if_le (tgt := 84) hX dX12_tensOf_77 (by decide) (fun hc => ?_) (fun hc => ?_)
        · have hf := ifp hc hf
          refine j_iconst hX dX12_tensOf_84 ic_0 ?_
          exact aJx (kX12_tensOf_85 hX hr hlk hRf hRl ih hG  hf) (And.intro rfl (And.intro rfl (And.intro rfl (And.intro rfl (And.intro rfl (And.intro rfl (And.intro rfl (rfl))))))))
        · have hf := ifn hc hf
          refine j_iconst hX dX12_tensOf_80 ic_1 ?_
          refine j_goto (tgt := 85) hX dX12_tensOf_81 (by decide) ?_
          exact aJx (kX12_tensOf_85 hX hr hlk hRf hRl ih hG  hf) (And.intro rfl (And.intro rfl (And.intro rfl (And.intro rfl (And.intro rfl (And.intro rfl (And.intro rfl (rfl))))))))
      · have hf := ifp hc hf
        refine j_goto (tgt := 125) hX dX12_tensOf_61 (by decide) ?_
        exact aJx (kX12_tensOf_125 hX hr hlk hRf hRl ih hG  hf) (And.intro rfl (And.intro rfl (And.intro rfl (And.intro rfl (And.intro rfl (And.intro rfl (And.intro rfl (rfl))))))))
def fX12_tensOf (a1 : Int32) (a2 : Int32) (i : Nat → Nat → Int32) : Option ((Int32)) := if aIn 54 296 = true then
    (lt (i 63 (54 : Int32).toNatClampNeg) fun t1 =>
    fX12_tensOf_17 fuel a1 a2 0 0 t1 0 i) else none
theorem kX12_tensOf  {vR : Int32} (hX : aX p s m args c RX12 cX12_tensOf 8 D cA A ad0) (hr : meth.sig.returnType = (some .int)) (hlk : meth.locks = false) (hRf : 2 ≤ R.frames) (hRl : 64 * 2 ≤ R.locals) {a1 : Int32} {a2 : Int32} (hG : aGood sh rv) (hf : fX12_tensOf a1 a2 i = some (vR)) : aJ p l e R s m args below meth c (MQ below (aPost D cA ad0 A (sh, i0, lo0, rv0) (some (.int vR)) (sh, i, lo, rv)) args s (sh.length - sh.length) (aSn sh - aSn sh) A) D cA A ad0 8 sh.length (aSn sh) 0 [some (.ref (100 + 50)), some (.int a1), some (.int a2), none, none, none, none, none] [] (sh, i, lo, rv) := by
  unfold fX12_tensOf at hf
  refine j_iconst hX dX12_tensOf_0 ic_0 ?_
  refine j_istore_n hX dX12_tensOf_1 (by decide) rfl ?_
  refine j_iconst hX dX12_tensOf_2 ic_0 ?_
  refine j_istore hX dX12_tensOf_3 (by decide) rfl ?_
  refine j_aload_n hX dX12_tensOf_5 rfl ?_
  refine jpc (b := 6) rfl ?_
  refine j_getR (k := 33) hX kX12 (by decide) fk_X12_61 (rf_50_33 hG) dX12_tensOf_6 (sh_50 hG) rfl ?_
  refine j_bipush hX dX12_tensOf_9 bp_54 ?_
  obtain ⟨hg, hf⟩ := gd hf
  refine j_iald hX (sh_63 hG) hg dX12_tensOf_11 ?_
  have hf := ltd hf
  refine j_istore hX dX12_tensOf_12 (by decide) rfl ?_
  refine j_iconst hX dX12_tensOf_14 ic_0 ?_
  refine j_istore hX dX12_tensOf_15 (by decide) rfl ?_
  exact aJx (kX12_tensOf_17 hX hr hlk hRf hRl fuel _ _ _ _ _ _ hG  hf) (And.intro rfl (And.intro rfl (And.intro rfl (And.intro rfl (And.intro rfl (And.intro rfl (And.intro rfl (rfl))))))))
theorem okX12_tensOf {l : Launch} {sh : List aSh} {i : Nat → Nat → Int32} {lo : Nat → Nat → Int64} {rv : Nat → Nat → Option Nat}  {a1 : Int32} {a2 : Int32} {vR : Int32} (hG : aGood sh rv) (hf : fX12_tensOf a1 a2 i = some (vR)) : aM l yX12_tensOf cX12_tensOf 8 (some .int) 2 [.ref (100 + 50), .int a1, .int a2] (sh, i, lo, rv) (some (.int vR)) (sh, i, lo, rv) :=
  aM_of (by decide) (Nat.le_of_ble_eq_true rfl) (Nat.le_refl _) (Nat.le_refl _) (fun p e s m args below meth c D cA A ad0 hX hr hlk hnm => kX12_tensOf hX hr hlk (Nat.le_refl _) (Nat.le_refl _) hG hf)
def fX12_goOrder_34 (gs : Int32 → Int32 → Int32 → Int32 → (Nat → Nat → Int32) → Option ((Nat → Nat → Int32))) (x4 : Int32) (x5 : Int32) (i : Nat → Nat → Int32) : Option ((Nat → Nat → Int32)) := lt (u2 i 50 44 x5) fun i10 =>
    lt (u2 i10 50 45 x4) fun i11 =>
    some (i11)
theorem kX12_goOrder_34  {gs : Int32 → Int32 → Int32 → Int32 → (Nat → Nat → Int32) → Option ((Nat → Nat → Int32))} {D0 : Nat} {iR : Nat → Nat → Int32} (hX : aX p s m args c RX12 cX12_goOrder 6 D cA A ad0) (hr : meth.sig.returnType = none) (hlk : meth.locks = false) (hRf : (D0 + 3) ≤ R.frames) (hRl : 64 * (D0 + 3) ≤ R.locals) (Hgs : ∀ {a1 : Int32} {a2 : Int32} {a3 : Int32} {a4 : Int32} {i : Nat → Nat → Int32} {lo : Nat → Nat → Int64} {rv : Nat → Nat → Option Nat} {iR : Nat → Nat → Int32}, aGood sh rv → gs a1 a2 a3 a4 i = some (iR) → aM l yX12_goOrder cX12_goOrder 6 none D0 [.ref (100 + 50), .int a1, .int a2, .int a3, .int a4] (sh, i, lo, rv) none (sh, iR, lo, rv)) {x4 : Int32} {x5 : Int32} (hG : aGood sh rv) (hf : fX12_goOrder_34 gs x4 x5 i = some (iR)) : aJ p l e R s m args below meth c (MQ below (aPost D cA ad0 A (sh, i0, lo0, rv0) none (sh, iR, lo, rv)) args s (sh.length - sh.length) (aSn sh - aSn sh) A) D cA A ad0 6 sh.length (aSn sh) 34 [some (.ref (100 + 50)), none, none, none, some (.int x4), some (.int x5)] [] (sh, i, lo, rv) := by
  unfold fX12_goOrder_34 at hf
  refine j_aload_n hX dX12_goOrder_34 rfl ?_
  refine j_iload hX dX12_goOrder_35 rfl ?_
  have hf := ltd hf
  refine j_putI (k := 44) hX kX12 (by decide) fk_X12_457 dX12_goOrder_37 (sh_50 hG) rfl rfl rfl rfl ?_
  refine j_aload_n hX dX12_goOrder_40 rfl ?_
  refine j_iload hX dX12_goOrder_41 rfl ?_
  refine jpc (b := 43) rfl ?_
  have hf := ltd hf
  refine j_putI (k := 45) hX kX12 (by decide) fk_X12_460 dX12_goOrder_43 (sh_50 hG) rfl rfl rfl rfl ?_
  cases hf
  exact j_vret hX hr hlk dX12_goOrder_46
def fX12_goOrder_110 (gs : Int32 → Int32 → Int32 → Int32 → (Nat → Nat → Int32) → Option ((Nat → Nat → Int32))) (kh50 : Int32 → Int32 → Int32 → Int32 → Int32 → (Nat → Nat → Int32) → Option ((Nat → Nat → Int32))) (x1 : Int32) (x2 : Int32) (x3 : Int32) (x4 : Int32) (x5 : Int32) (i : Nat → Nat → Int32) : Option ((Nat → Nat → Int32)) := kh50 x1 x2 x3 x4 (x5 + 1) i
theorem kX12_goOrder_110  {gs : Int32 → Int32 → Int32 → Int32 → (Nat → Nat → Int32) → Option ((Nat → Nat → Int32))} {D0 : Nat} {iR : Nat → Nat → Int32} (hX : aX p s m args c RX12 cX12_goOrder 6 D cA A ad0) (hr : meth.sig.returnType = none) (hlk : meth.locks = false) (hRf : (D0 + 3) ≤ R.frames) (hRl : 64 * (D0 + 3) ≤ R.locals) (Hgs : ∀ {a1 : Int32} {a2 : Int32} {a3 : Int32} {a4 : Int32} {i : Nat → Nat → Int32} {lo : Nat → Nat → Int64} {rv : Nat → Nat → Option Nat} {iR : Nat → Nat → Int32}, aGood sh rv → gs a1 a2 a3 a4 i = some (iR) → aM l yX12_goOrder cX12_goOrder 6 none D0 [.ref (100 + 50), .int a1, .int a2, .int a3, .int a4] (sh, i, lo, rv) none (sh, iR, lo, rv)) {kh50 : Int32 → Int32 → Int32 → Int32 → Int32 → (Nat → Nat → Int32) → Option ((Nat → Nat → Int32))} (Hkh50 : ∀ (x1 : Int32) (x2 : Int32) (x3 : Int32) (x4 : Int32) (x5 : Int32) (i : Nat → Nat → Int32), aGood sh rv → kh50 x1 x2 x3 x4 x5 i = some (iR) → aJ p l e R s m args below meth c (MQ below (aPost D cA ad0 A (sh, i0, lo0, rv0) none (sh, iR, lo, rv)) args s (sh.length - sh.length) (aSn sh - aSn sh) A) D cA A ad0 6 sh.length (aSn sh) 50 [some (.ref (100 + 50)), some (.int x1), some (.int x2), some (.int x3), some (.int x4), some (.int x5)] [] (sh, i, lo, rv)) {x1 : Int32} {x2 : Int32} {x3 : Int32} {x4 : Int32} {x5 : Int32} (hG : aGood sh rv) (hf : fX12_goOrder_110 gs kh50 x1 x2 x3 x4 x5 i = some (iR)) : aJ p l e R s m args below meth c (MQ below (aPost D cA ad0 A (sh, i0, lo0, rv0) none (sh, iR, lo, rv)) args s (sh.length - sh.length) (aSn sh - aSn sh) A) D cA A ad0 6 sh.length (aSn sh) 110 [some (.ref (100 + 50)), some (.int x1), some (.int x2), some (.int x3), some (.int x4), some (.int x5)] [] (sh, i, lo, rv) := by
  unfold fX12_goOrder_110 at hf
  refine j_iinc hX dX12_goOrder_110 rfl (congrArg (_ + ·) ic_1) (by decide) rfl ?_
  refine j_goto (tgt := 50) hX dX12_goOrder_113 (by decide) ?_
  exact aJx (Hkh50 _ _ _ _ _ _ hG  hf) (And.intro rfl (And.intro rfl (And.intro rfl (And.intro rfl (And.intro rfl (And.intro rfl (rfl)))))))
def fX12_goOrder_50 (gs : Int32 → Int32 → Int32 → Int32 → (Nat → Nat → Int32) → Option ((Nat → Nat → Int32))) : Nat → Int32 → Int32 → Int32 → Int32 → Int32 → (Nat → Nat → Int32) → Option ((Nat → Nat → Int32))
  | 0, _, _, _, _, _, _ => none
  | n + 1, x1, x2, x3, x4, x5, i => if (i 50 26) ≤ x5 then (some (i)) else (bn1 (fX12_isChild x5 i) fun v3 =>
    if v3 = 0 then (bn1 (fX12_has x2 x5) fun v5 =>
    if v5 = 0 then (if aIn x3 9 = true then
    (lt (u2 i 66 (x3 : Int32).toNatClampNeg x5) fun i7 => bn1 (gs x1 (x2 ||| ((1 : Int32) <<< (x5 &&& 31))) (x3 + (1 : Int32)) (((10 : Int32) * x4) + x5) i7) fun i8 =>
    fX12_goOrder_110 gs (fX12_goOrder_50 gs n) x1 x2 x3 x4 x5 i8) else none) else (fX12_goOrder_110 gs (fX12_goOrder_50 gs n) x1 x2 x3 x4 x5 i)) else (fX12_goOrder_110 gs (fX12_goOrder_50 gs n) x1 x2 x3 x4 x5 i))
theorem kX12_goOrder_50  {gs : Int32 → Int32 → Int32 → Int32 → (Nat → Nat → Int32) → Option ((Nat → Nat → Int32))} {D0 : Nat} {iR : Nat → Nat → Int32} (hX : aX p s m args c RX12 cX12_goOrder 6 D cA A ad0) (hr : meth.sig.returnType = none) (hlk : meth.locks = false) (hRf : (D0 + 3) ≤ R.frames) (hRl : 64 * (D0 + 3) ≤ R.locals) (Hgs : ∀ {a1 : Int32} {a2 : Int32} {a3 : Int32} {a4 : Int32} {i : Nat → Nat → Int32} {lo : Nat → Nat → Int64} {rv : Nat → Nat → Option Nat} {iR : Nat → Nat → Int32}, aGood sh rv → gs a1 a2 a3 a4 i = some (iR) → aM l yX12_goOrder cX12_goOrder 6 none D0 [.ref (100 + 50), .int a1, .int a2, .int a3, .int a4] (sh, i, lo, rv) none (sh, iR, lo, rv)) : ∀ (n : Nat) (x1 : Int32) (x2 : Int32) (x3 : Int32) (x4 : Int32) (x5 : Int32) (i : Nat → Nat → Int32), aGood sh rv → fX12_goOrder_50 gs n x1 x2 x3 x4 x5 i = some (iR) → aJ p l e R s m args below meth c (MQ below (aPost D cA ad0 A (sh, i0, lo0, rv0) none (sh, iR, lo, rv)) args s (sh.length - sh.length) (aSn sh - aSn sh) A) D cA A ad0 6 sh.length (aSn sh) 50 [some (.ref (100 + 50)), some (.int x1), some (.int x2), some (.int x3), some (.int x4), some (.int x5)] [] (sh, i, lo, rv) := by
  intro n
  induction n with
  | zero => intros; rename_i hf; cases hf
  | succ n ih =>
    intro x1 x2 x3 x4 x5 i hG hf
    rw [fX12_goOrder_50] at hf
    refine j_iload hX dX12_goOrder_50 rfl ?_
    refine j_aload_n hX dX12_goOrder_52 rfl ?_
    refine j_getI (k := 26) hX kX12 (by decide) fk_X12_297 dX12_goOrder_53 (sh_50 hG) rfl ?_
    refine j_icmp_ge (tgt := 116) hX dX12_goOrder_56 (by decide) (fun hc => ?_) (fun hc => ?_)
    · have hf := ifp hc hf
      cases hf
      exact j_vret hX hr hlk dX12_goOrder_116
    · have hf := ifn hc hf
      refine j_aload_n hX dX12_goOrder_59 rfl ?_
      refine j_iload hX dX12_goOrder_60 rfl ?_
      obtain ⟨v3, hh4, hf⟩ := bd1 hf
      refine j_cV1i hX lk_X12_379 kX12 dX12_goOrder_62 (sh_50 hG) (okX12_isChild hG hh4) rfl rfl (rmm (by omega) hRf hRl (by decide)) (Nat.le_of_ble_eq_true rfl) (Nat.le_add_right _ _) (Nat.le_add_right _ _) ?_
      refine j_if_ne (tgt := 110) hX dX12_goOrder_65 (by decide) (fun hc => ?_) (fun hc => ?_)
      · have hf := ifn hc hf
        exact aJx (kX12_goOrder_110 hX hr hlk hRf hRl Hgs ih hG  hf) (And.intro rfl (And.intro rfl (And.intro rfl (And.intro rfl (And.intro rfl (And.intro rfl (rfl)))))))
      · have hf := ifp hc hf
        refine j_iload_n hX dX12_goOrder_68 rfl ?_
        refine j_iload hX dX12_goOrder_69 rfl ?_
        obtain ⟨v5, hh6, hf⟩ := bd1 hf
        refine j_cS2i hX lk_X12_232 dX12_goOrder_71 (okX12_has hG hh6) rfl rfl (rmm (by omega) hRf hRl (by decide)) (Nat.le_of_ble_eq_true rfl) (Nat.le_add_right _ _) (Nat.le_add_right _ _) ?_
        refine j_if_eq (tgt := 80) hX dX12_goOrder_74 (by decide) (fun hc => ?_) (fun hc => ?_)
        · have hf := ifp hc hf
          refine j_aload_n hX dX12_goOrder_80 rfl ?_
          refine j_getR (k := 46) hX kX12 (by decide) fk_X12_77 (rf_50_46 hG) dX12_goOrder_81 (sh_50 hG) rfl ?_
          refine j_iload_n hX dX12_goOrder_84 rfl ?_
          refine j_iload hX dX12_goOrder_85 rfl ?_
          obtain ⟨hg, hf⟩ := gd hf
          have hf := ltd hf
          refine j_iast hX (sh_66 hG) hg dX12_goOrder_87 ?_
          refine j_aload_n hX dX12_goOrder_88 rfl ?_
          refine j_iload_n hX dX12_goOrder_89 rfl ?_
          refine j_iload_n hX dX12_goOrder_90 rfl ?_
          refine j_iconst hX dX12_goOrder_91 ic_1 ?_
          refine j_iload hX dX12_goOrder_92 rfl ?_
          refine jpc (b := 94) rfl ?_
          refine j_ishl hX dX12_goOrder_94 ?_
          refine j_ior hX dX12_goOrder_95 ?_
          refine j_iload_n hX dX12_goOrder_96 rfl ?_
          refine j_iconst hX dX12_goOrder_97 ic_1 ?_
          refine j_iadd hX dX12_goOrder_98 ?_
          refine j_bipush hX dX12_goOrder_99 bp_10 ?_
          refine jpc (b := 101) rfl ?_
          refine j_iload hX dX12_goOrder_101 rfl ?_
          refine j_imul hX dX12_goOrder_103 ?_
          refine j_iload hX dX12_goOrder_104 rfl ?_
          refine j_iadd hX dX12_goOrder_106 ?_
          obtain ⟨i8, hh9, hf⟩ := bd1 hf
          refine j_cV4v hX lk_X12_463 kX12 dX12_goOrder_107 (sh_50 hG) (Hgs hG hh9) rfl rfl (rmm (by omega) hRf hRl (by decide)) (Nat.le_of_ble_eq_true rfl) (Nat.le_add_right _ _) (Nat.le_add_right _ _) ?_
          exact aJx (kX12_goOrder_110 hX hr hlk hRf hRl Hgs ih hG  hf) (And.intro rfl (And.intro rfl (And.intro rfl (And.intro rfl (And.intro rfl (And.intro rfl (rfl)))))))
        · have hf := ifn hc hf
          refine j_goto (tgt := 110) hX dX12_goOrder_77 (by decide) ?_
          exact aJx (kX12_goOrder_110 hX hr hlk hRf hRl Hgs ih hG  hf) (And.intro rfl (And.intro rfl (And.intro rfl (And.intro rfl (And.intro rfl (And.intro rfl (rfl)))))))
def fX12_goOrderb (gs : Int32 → Int32 → Int32 → Int32 → (Nat → Nat → Int32) → Option ((Nat → Nat → Int32))) (a1 : Int32) (a2 : Int32) (a3 : Int32) (a4 : Int32) (i : Nat → Nat → Int32) : Option ((Nat → Nat → Int32)) := if a3 = (i 50 28) then (bn1 (fX12_tensOf a1 a3 i) fun v1 =>
    if (i 50 44) = (-1) then (fX12_goOrder_34 gs a4 v1 i) else (if v1 < (i 50 44) then (fX12_goOrder_34 gs a4 v1 i) else (some (i)))) else (fX12_goOrder_50 gs fuel a1 a2 a3 a4 0 i)
theorem kX12_goOrder  {gs : Int32 → Int32 → Int32 → Int32 → (Nat → Nat → Int32) → Option ((Nat → Nat → Int32))} {D0 : Nat} {iR : Nat → Nat → Int32} (hX : aX p s m args c RX12 cX12_goOrder 6 D cA A ad0) (hr : meth.sig.returnType = none) (hlk : meth.locks = false) (hRf : (D0 + 3) ≤ R.frames) (hRl : 64 * (D0 + 3) ≤ R.locals) (Hgs : ∀ {a1 : Int32} {a2 : Int32} {a3 : Int32} {a4 : Int32} {i : Nat → Nat → Int32} {lo : Nat → Nat → Int64} {rv : Nat → Nat → Option Nat} {iR : Nat → Nat → Int32}, aGood sh rv → gs a1 a2 a3 a4 i = some (iR) → aM l yX12_goOrder cX12_goOrder 6 none D0 [.ref (100 + 50), .int a1, .int a2, .int a3, .int a4] (sh, i, lo, rv) none (sh, iR, lo, rv)) {a1 : Int32} {a2 : Int32} {a3 : Int32} {a4 : Int32} (hG : aGood sh rv) (hf : fX12_goOrderb gs a1 a2 a3 a4 i = some (iR)) : aJ p l e R s m args below meth c (MQ below (aPost D cA ad0 A (sh, i0, lo0, rv0) none (sh, iR, lo, rv)) args s (sh.length - sh.length) (aSn sh - aSn sh) A) D cA A ad0 6 sh.length (aSn sh) 0 [some (.ref (100 + 50)), some (.int a1), some (.int a2), some (.int a3), some (.int a4), none] [] (sh, i, lo, rv) := by
  unfold fX12_goOrderb at hf
  refine j_iload_n hX dX12_goOrder_0 rfl ?_
  refine j_aload_n hX dX12_goOrder_1 rfl ?_
  refine j_getI (k := 28) hX kX12 (by decide) fk_X12_303 dX12_goOrder_2 (sh_50 hG) rfl ?_
  refine j_icmp_ne (tgt := 47) hX dX12_goOrder_5 (by decide) (fun hc => ?_) (fun hc => ?_)
  · have hf := ifn hc hf
    refine j_iconst hX dX12_goOrder_47 ic_0 ?_
    refine j_istore hX dX12_goOrder_48 (by decide) rfl ?_
    exact aJx (kX12_goOrder_50 hX hr hlk hRf hRl Hgs fuel _ _ _ _ _ _ hG  hf) (And.intro rfl (And.intro rfl (And.intro rfl (And.intro rfl (And.intro rfl (And.intro rfl (rfl)))))))
  · have hf := ifp hc hf
    refine j_aload_n hX dX12_goOrder_8 rfl ?_
    refine j_iload_n hX dX12_goOrder_9 rfl ?_
    refine j_iload_n hX dX12_goOrder_10 rfl ?_
    obtain ⟨v1, hh2, hf⟩ := bd1 hf
    refine j_cV2i hX lk_X12_454 kX12 dX12_goOrder_11 (sh_50 hG) (okX12_tensOf hG hh2) rfl rfl (rmm (by omega) hRf hRl (by decide)) (Nat.le_of_ble_eq_true rfl) (Nat.le_add_right _ _) (Nat.le_add_right _ _) ?_
    refine j_istore hX dX12_goOrder_14 (by decide) rfl ?_
    refine jpc (b := 16) rfl ?_
    refine j_aload_n hX dX12_goOrder_16 rfl ?_
    refine j_getI (k := 44) hX kX12 (by decide) fk_X12_457 dX12_goOrder_17 (sh_50 hG) rfl ?_
    refine j_iconst hX dX12_goOrder_20 ic_m1 ?_
    refine j_icmp_eq (tgt := 34) hX dX12_goOrder_21 (by decide) (fun hc => ?_) (fun hc => ?_)
    · have hf := ifp hc hf
      exact aJx (kX12_goOrder_34 hX hr hlk hRf hRl Hgs hG  hf) (And.intro rfl (And.intro rfl (And.intro rfl (rfl))))
    · have hf := ifn hc hf
      refine j_iload hX dX12_goOrder_24 rfl ?_
      refine j_aload_n hX dX12_goOrder_26 rfl ?_
      refine j_getI (k := 44) hX kX12 (by decide) fk_X12_457 dX12_goOrder_27 (sh_50 hG) rfl ?_
      refine j_icmp_lt (tgt := 34) hX dX12_goOrder_30 (by decide) (fun hc => ?_) (fun hc => ?_)
      · have hf := ifp hc hf
        exact aJx (kX12_goOrder_34 hX hr hlk hRf hRl Hgs hG  hf) (And.intro rfl (And.intro rfl (And.intro rfl (rfl))))
      · have hf := ifn hc hf
        cases hf
        exact j_vret hX hr hlk dX12_goOrder_33
theorem okX12_goOrderb {l : Launch} {sh : List aSh} {i : Nat → Nat → Int32} {lo : Nat → Nat → Int64} {rv : Nat → Nat → Option Nat} {gs : Int32 → Int32 → Int32 → Int32 → (Nat → Nat → Int32) → Option ((Nat → Nat → Int32))} {D0 : Nat} (Hgs : ∀ {a1 : Int32} {a2 : Int32} {a3 : Int32} {a4 : Int32} {i : Nat → Nat → Int32} {lo : Nat → Nat → Int64} {rv : Nat → Nat → Option Nat} {iR : Nat → Nat → Int32}, aGood sh rv → gs a1 a2 a3 a4 i = some (iR) → aM l yX12_goOrder cX12_goOrder 6 none D0 [.ref (100 + 50), .int a1, .int a2, .int a3, .int a4] (sh, i, lo, rv) none (sh, iR, lo, rv)) {a1 : Int32} {a2 : Int32} {a3 : Int32} {a4 : Int32} {iR : Nat → Nat → Int32} (hG : aGood sh rv) (hf : fX12_goOrderb gs a1 a2 a3 a4 i = some (iR)) : aM l yX12_goOrder cX12_goOrder 6 none (D0 + 3) [.ref (100 + 50), .int a1, .int a2, .int a3, .int a4] (sh, i, lo, rv) none (sh, iR, lo, rv) :=
  aM_of (by decide) (Nat.le_of_ble_eq_true rfl) (Nat.le_refl _) (Nat.le_refl _) (fun p e s m args below meth c D cA A ad0 hX hr hlk hnm => kX12_goOrder hX hr hlk (Nat.le_refl _) (Nat.le_refl _) Hgs hG hf)
def fX12_goOrder : Nat → Int32 → Int32 → Int32 → Int32 → (Nat → Nat → Int32) → Option ((Nat → Nat → Int32))
  | 0, _, _, _, _, _ => none
  | n + 1, a1, a2, a3, a4, i => fX12_goOrderb (fX12_goOrder n) a1 a2 a3 a4 i
theorem okX12_goOrder {l : Launch} {sh : List aSh} : ∀ (n : Nat) {a1 : Int32} {a2 : Int32} {a3 : Int32} {a4 : Int32} {i : Nat → Nat → Int32} {lo : Nat → Nat → Int64} {rv : Nat → Nat → Option Nat} {iR : Nat → Nat → Int32}, aGood sh rv → fX12_goOrder n a1 a2 a3 a4 i = some (iR) → aM l yX12_goOrder cX12_goOrder 6 none (3 * n) [.ref (100 + 50), .int a1, .int a2, .int a3, .int a4] (sh, i, lo, rv) none (sh, iR, lo, rv) := by
  intro n
  induction n with
  | zero => intros; rename_i hf; cases hf
  | succ n ih =>
    intro _ _ _ _ _ _ _ _ hG hf
    exact okX12_goOrderb (fun hG hf => ih hG hf) hG hf
def fX12_order (a1 : Int32) (a2 : Int32) (i : Nat → Nat → Int32) : Option ((Int32) × (Nat → Nat → Int32)) := lt (u2 i 50 0 0) fun i1 =>
    bn1 (fX12_isOfficer a1 i1) fun v2 =>
    if v2 = 0 then (some ((-1), i1)) else (bn1 (fX12_isIn (a2 : Int32).toInt64 0 1) fun v4 =>
    if v4 = 0 then (some ((-1), i1)) else (if (i1 50 28) ≤ 7 then (lt (u2 i1 50 44 (-1)) fun i6 =>
    bn1 (fX12_goOrder 12 a1 0 0 0 i6) fun i7 =>
    if a2 = 0 then (some ((i7 50 45), i7)) else (some ((i7 50 44), i7))) else (some ((-1000000), i1))))
theorem kX12_order  {vR : Int32} {iR : Nat → Nat → Int32} (hX : aX p s m args c RX12 cX12_order 3 D cA A ad0) (hr : meth.sig.returnType = (some .int)) (hlk : meth.locks = false) (hRf : 37 ≤ R.frames) (hRl : 64 * 37 ≤ R.locals) {a1 : Int32} {a2 : Int32} (hG : aGood sh rv) (hf : fX12_order a1 a2 i = some (vR, iR)) : aJ p l e R s m args below meth c (MQ below (aPost D cA ad0 A (sh, i0, lo0, rv0) (some (.int vR)) (sh, iR, lo, rv)) args s (sh.length - sh.length) (aSn sh - aSn sh) A) D cA A ad0 3 sh.length (aSn sh) 0 [some (.ref (100 + 50)), some (.int a1), some (.int a2)] [] (sh, i, lo, rv) := by
  unfold fX12_order at hf
  refine j_aload_n hX dX12_order_0 rfl ?_
  refine j_iconst hX dX12_order_1 ic_0 ?_
  have hf := ltd hf
  refine j_putI (k := 0) hX kX12 (by decide) fk_X12_99 dX12_order_2 (sh_50 hG) rfl rfl rfl rfl ?_
  refine j_aload_n hX dX12_order_5 rfl ?_
  refine j_iload_n hX dX12_order_6 rfl ?_
  refine jpc (b := 7) rfl ?_
  obtain ⟨v2, hh3, hf⟩ := bd1 hf
  refine j_cV1i hX lk_X12_374 kX12 dX12_order_7 (sh_50 hG) (okX12_isOfficer hG hh3) rfl rfl (rmm (by omega) hRf hRl (by decide)) (Nat.le_of_ble_eq_true rfl) (Nat.le_add_right _ _) (Nat.le_add_right _ _) ?_
  refine j_if_eq (tgt := 23) hX dX12_order_10 (by decide) (fun hc => ?_) (fun hc => ?_)
  · have hf := ifp hc hf
    refine j_iconst hX dX12_order_23 ic_m1 ?_
    cases hf
    exact j_ret hX hr hlk rfl dX12_order_24
  · have hf := ifn hc hf
    refine j_iload_n hX dX12_order_13 rfl ?_
    refine j_i2l hX dX12_order_14 ?_
    refine j_lconst (v := 0) hX dX12_order_15 (by decide) ?_
    refine j_lconst (v := 1) hX dX12_order_16 (by decide) ?_
    obtain ⟨v4, hh5, hf⟩ := bd1 hf
    refine j_cS3i hX lk_X12_220 dX12_order_17 (okX12_isIn hG hh5) rfl rfl (rmm (by omega) hRf hRl (by decide)) (Nat.le_of_ble_eq_true rfl) (Nat.le_add_right _ _) (Nat.le_add_right _ _) ?_
    refine jpc (b := 20) rfl ?_
    refine j_if_ne (tgt := 25) hX dX12_order_20 (by decide) (fun hc => ?_) (fun hc => ?_)
    · have hf := ifn hc hf
      refine j_aload_n hX dX12_order_25 rfl ?_
      refine j_getI (k := 28) hX kX12 (by decide) fk_X12_303 dX12_order_26 (sh_50 hG) rfl ?_
      refine j_bipush hX dX12_order_29 bp_7 ?_
      refine j_icmp_le (tgt := 38) hX dX12_order_31 (by decide) (fun hc => ?_) (fun hc => ?_)
      · have hf := ifp hc hf
        refine j_aload_n hX dX12_order_38 rfl ?_
        refine j_iconst hX dX12_order_39 ic_m1 ?_
        have hf := ltd hf
        refine j_putI (k := 44) hX kX12 (by decide) fk_X12_457 dX12_order_40 (sh_50 hG) rfl rfl rfl rfl ?_
        refine j_aload_n hX dX12_order_43 rfl ?_
        refine j_iload_n hX dX12_order_44 rfl ?_
        refine jpc (b := 45) rfl ?_
        refine j_iconst hX dX12_order_45 ic_0 ?_
        refine j_iconst hX dX12_order_46 ic_0 ?_
        refine j_iconst hX dX12_order_47 ic_0 ?_
        obtain ⟨i7, hh8, hf⟩ := bd1 hf
        refine j_cV4v hX lk_X12_463 kX12 dX12_order_48 (sh_50 hG) (okX12_goOrder 12 hG hh8) rfl rfl (rmm (by omega) hRf hRl (by decide)) (Nat.le_of_ble_eq_true rfl) (Nat.le_add_right _ _) (Nat.le_add_right _ _) ?_
        refine j_iload_n hX dX12_order_51 rfl ?_
        refine j_if_ne (tgt := 62) hX dX12_order_52 (by decide) (fun hc => ?_) (fun hc => ?_)
        · have hf := ifn hc hf
          refine j_aload_n hX dX12_order_62 rfl ?_
          refine j_getI (k := 44) hX kX12 (by decide) fk_X12_457 dX12_order_63 (sh_50 hG) rfl ?_
          cases hf
          exact j_ret hX hr hlk rfl dX12_order_66
        · have hf := ifp hc hf
          refine j_aload_n hX dX12_order_55 rfl ?_
          refine j_getI (k := 45) hX kX12 (by decide) fk_X12_460 dX12_order_56 (sh_50 hG) rfl ?_
          refine j_goto (tgt := 66) hX dX12_order_59 (by decide) ?_
          cases hf
          exact j_ret hX hr hlk rfl dX12_order_66
      · have hf := ifn hc hf
        refine j_ldc_w hX kc_X12_441 dX12_order_34 ?_
        cases hf
        exact j_ret hX hr hlk rfl dX12_order_37
    · have hf := ifp hc hf
      refine j_iconst hX dX12_order_23 ic_m1 ?_
      cases hf
      exact j_ret hX hr hlk rfl dX12_order_24
theorem okX12_order {l : Launch} {sh : List aSh} {i : Nat → Nat → Int32} {lo : Nat → Nat → Int64} {rv : Nat → Nat → Option Nat}  {a1 : Int32} {a2 : Int32} {vR : Int32} {iR : Nat → Nat → Int32} (hG : aGood sh rv) (hf : fX12_order a1 a2 i = some (vR, iR)) : aM l yX12_order cX12_order 3 (some .int) 37 [.ref (100 + 50), .int a1, .int a2] (sh, i, lo, rv) (some (.int vR)) (sh, iR, lo, rv) :=
  aM_of (by decide) (Nat.le_of_ble_eq_true rfl) (Nat.le_refl _) (Nat.le_refl _) (fun p e s m args below meth c D cA A ad0 hX hr hlk hnm => kX12_order hX hr hlk (Nat.le_refl _) (Nat.le_refl _) hG hf)
def fX12_bound_105 (kh22 : Int32 → Int32 → Int32 → Int32 → (Nat → Nat → Int32) → Option ((Int32) × (Nat → Nat → Int32))) (x1 : Int32) (x2 : Int32) (x3 : Int32) (x4 : Int32) (i : Nat → Nat → Int32) : Option ((Int32) × (Nat → Nat → Int32)) := kh22 x1 x2 x3 (x4 + 1) i
theorem kX12_bound_105  {vR : Int32} {iR : Nat → Nat → Int32} (hX : aX p s m args c RX12 cX12_bound 5 D cA A ad0) (hr : meth.sig.returnType = (some .int)) (hlk : meth.locks = false) (hRf : 2 ≤ R.frames) (hRl : 64 * 2 ≤ R.locals) {kh22 : Int32 → Int32 → Int32 → Int32 → (Nat → Nat → Int32) → Option ((Int32) × (Nat → Nat → Int32))} (Hkh22 : ∀ (x1 : Int32) (x2 : Int32) (x3 : Int32) (x4 : Int32) (i : Nat → Nat → Int32), aGood sh rv → kh22 x1 x2 x3 x4 i = some (vR, iR) → aJ p l e R s m args below meth c (MQ below (aPost D cA ad0 A (sh, i0, lo0, rv0) (some (.int vR)) (sh, iR, lo, rv)) args s (sh.length - sh.length) (aSn sh - aSn sh) A) D cA A ad0 5 sh.length (aSn sh) 22 [some (.ref (100 + 50)), some (.int x1), some (.int x2), some (.int x3), some (.int x4)] [] (sh, i, lo, rv)) {x1 : Int32} {x2 : Int32} {x3 : Int32} {x4 : Int32} (hG : aGood sh rv) (hf : fX12_bound_105 kh22 x1 x2 x3 x4 i = some (vR, iR)) : aJ p l e R s m args below meth c (MQ below (aPost D cA ad0 A (sh, i0, lo0, rv0) (some (.int vR)) (sh, iR, lo, rv)) args s (sh.length - sh.length) (aSn sh - aSn sh) A) D cA A ad0 5 sh.length (aSn sh) 105 [some (.ref (100 + 50)), some (.int x1), some (.int x2), some (.int x3), some (.int x4)] [] (sh, i, lo, rv) := by
  unfold fX12_bound_105 at hf
  refine j_iinc hX dX12_bound_105 rfl (congrArg (_ + ·) ic_1) (by decide) rfl ?_
  refine j_goto (tgt := 22) hX dX12_bound_108 (by decide) ?_
  exact aJx (Hkh22 _ _ _ _ _ hG  hf) (And.intro rfl (And.intro rfl (And.intro rfl (And.intro rfl (And.intro rfl (rfl))))))
def fX12_bound_100 (kh22 : Int32 → Int32 → Int32 → Int32 → (Nat → Nat → Int32) → Option ((Int32) × (Nat → Nat → Int32))) (x1 : Int32) (x2 : Int32) (x4 : Int32) (s0 : Int32) (s1 : Int32) (s2 : Int32) (i : Nat → Nat → Int32) : Option ((Int32) × (Nat → Nat → Int32)) := lt (if s0 < (s1 + s2) then (s1 + s2) else s0) fun t12 =>
    fX12_bound_105 kh22 x1 x2 t12 x4 i
theorem kX12_bound_100  {vR : Int32} {iR : Nat → Nat → Int32} (hX : aX p s m args c RX12 cX12_bound 5 D cA A ad0) (hr : meth.sig.returnType = (some .int)) (hlk : meth.locks = false) (hRf : 2 ≤ R.frames) (hRl : 64 * 2 ≤ R.locals) {kh22 : Int32 → Int32 → Int32 → Int32 → (Nat → Nat → Int32) → Option ((Int32) × (Nat → Nat → Int32))} (Hkh22 : ∀ (x1 : Int32) (x2 : Int32) (x3 : Int32) (x4 : Int32) (i : Nat → Nat → Int32), aGood sh rv → kh22 x1 x2 x3 x4 i = some (vR, iR) → aJ p l e R s m args below meth c (MQ below (aPost D cA ad0 A (sh, i0, lo0, rv0) (some (.int vR)) (sh, iR, lo, rv)) args s (sh.length - sh.length) (aSn sh - aSn sh) A) D cA A ad0 5 sh.length (aSn sh) 22 [some (.ref (100 + 50)), some (.int x1), some (.int x2), some (.int x3), some (.int x4)] [] (sh, i, lo, rv)) {x1 : Int32} {x2 : Int32} {x4 : Int32} {s0 : Int32} {s1 : Int32} {s2 : Int32} (hG : aGood sh rv) (hf : fX12_bound_100 kh22 x1 x2 x4 s0 s1 s2 i = some (vR, iR)) : aJ p l e R s m args below meth c (MQ below (aPost D cA ad0 A (sh, i0, lo0, rv0) (some (.int vR)) (sh, iR, lo, rv)) args s (sh.length - sh.length) (aSn sh - aSn sh) A) D cA A ad0 5 sh.length (aSn sh) 100 [some (.ref (100 + 50)), some (.int x1), some (.int x2), none, some (.int x4)] [.int s2, .int s1, .int s0] (sh, i, lo, rv) := by
  unfold fX12_bound_100 at hf
  refine j_iadd hX dX12_bound_100 ?_
  refine j_max hX lk_X12_327 dX12_bound_101 ⟨by omega, Nat.le_trans (Nat.le_of_ble_eq_true rfl) hRl⟩ (Nat.le_add_right _ _) (Nat.le_add_right _ _) ?_
  have hf := ltd hf
  refine j_istore_n hX dX12_bound_104 (by decide) rfl ?_
  exact aJx (kX12_bound_105 hX hr hlk hRf hRl Hkh22 hG  hf) (And.intro rfl (And.intro rfl (And.intro rfl (And.intro rfl (And.intro rfl (rfl))))))
def fX12_bound_22 : Nat → Int32 → Int32 → Int32 → Int32 → (Nat → Nat → Int32) → Option ((Int32) × (Nat → Nat → Int32))
  | 0, _, _, _, _, _ => none
  | n + 1, x1, x2, x3, x4, i => if (i 50 26) ≤ x4 then (some ((if x2 < x3 then x3 else x2), i)) else (bn1 (fX12_isChild x4 i) fun v4 =>
    if v4 = 0 then (bn1 (fX12_turnOf 63 296 x4 x1 i) fun v6 =>
    bn1 (fX12_turnOf 63 296 x4 x1 i) fun v8 =>
    if aIn (((6 : Int32) * x4) + (1 : Int32)) 54 = true then
    (if (i 57 ((((6 : Int32) * x4) + (1 : Int32)) : Int32).toNatClampNeg) = 0 then (fX12_bound_100 (fX12_bound_22 n) x1 (x2 + v6) x4 x3 v8 0 i) else (bn1 (fX12_waitOf 63 296 x4 x1 1 i) fun v10 =>
    fX12_bound_100 (fX12_bound_22 n) x1 (x2 + v6) x4 x3 v8 v10 i)) else none) else (fX12_bound_105 (fX12_bound_22 n) x1 x2 x3 x4 i))
theorem kX12_bound_22  {vR : Int32} {iR : Nat → Nat → Int32} (hX : aX p s m args c RX12 cX12_bound 5 D cA A ad0) (hr : meth.sig.returnType = (some .int)) (hlk : meth.locks = false) (hRf : 2 ≤ R.frames) (hRl : 64 * 2 ≤ R.locals) : ∀ (n : Nat) (x1 : Int32) (x2 : Int32) (x3 : Int32) (x4 : Int32) (i : Nat → Nat → Int32), aGood sh rv → fX12_bound_22 n x1 x2 x3 x4 i = some (vR, iR) → aJ p l e R s m args below meth c (MQ below (aPost D cA ad0 A (sh, i0, lo0, rv0) (some (.int vR)) (sh, iR, lo, rv)) args s (sh.length - sh.length) (aSn sh - aSn sh) A) D cA A ad0 5 sh.length (aSn sh) 22 [some (.ref (100 + 50)), some (.int x1), some (.int x2), some (.int x3), some (.int x4)] [] (sh, i, lo, rv) := by
  intro n
  induction n with
  | zero => intros; rename_i hf; cases hf
  | succ n ih =>
    intro x1 x2 x3 x4 i hG hf
    rw [fX12_bound_22] at hf
    refine j_iload hX dX12_bound_22 rfl ?_
    refine j_aload_n hX dX12_bound_24 rfl ?_
    refine j_getI (k := 26) hX kX12 (by decide) fk_X12_297 dX12_bound_25 (sh_50 hG) rfl ?_
    refine j_icmp_ge (tgt := 111) hX dX12_bound_28 (by decide) (fun hc => ?_) (fun hc => ?_)
    · have hf := ifp hc hf
      refine j_iload_n hX dX12_bound_111 rfl ?_
      refine j_iload_n hX dX12_bound_112 rfl ?_
      refine j_max hX lk_X12_327 dX12_bound_113 ⟨by omega, Nat.le_trans (Nat.le_of_ble_eq_true rfl) hRl⟩ (Nat.le_add_right _ _) (Nat.le_add_right _ _) ?_
      cases hf
      exact j_ret hX hr hlk rfl dX12_bound_116
    · have hf := ifn hc hf
      refine j_aload_n hX dX12_bound_31 rfl ?_
      refine j_iload hX dX12_bound_32 rfl ?_
      obtain ⟨v4, hh5, hf⟩ := bd1 hf
      refine j_cV1i hX lk_X12_379 kX12 dX12_bound_34 (sh_50 hG) (okX12_isChild hG hh5) rfl rfl (rmm (by omega) hRf hRl (by decide)) (Nat.le_of_ble_eq_true rfl) (Nat.le_add_right _ _) (Nat.le_add_right _ _) ?_
      refine j_if_eq (tgt := 43) hX dX12_bound_37 (by decide) (fun hc => ?_) (fun hc => ?_)
      · have hf := ifp hc hf
        refine j_iload_n hX dX12_bound_43 rfl ?_
        refine j_aload_n hX dX12_bound_44 rfl ?_
        refine j_aload_n hX dX12_bound_45 rfl ?_
        refine j_getR (k := 33) hX kX12 (by decide) fk_X12_61 (rf_50_33 hG) dX12_bound_46 (sh_50 hG) rfl ?_
        refine j_iload hX dX12_bound_49 rfl ?_
        refine jpc (b := 51) rfl ?_
        refine j_iload_n hX dX12_bound_51 rfl ?_
        obtain ⟨v6, hh7, hf⟩ := bd1 hf
        refine j_cV3i hX lk_X12_348 kX12 dX12_bound_52 (sh_50 hG) (okX12_turnOf hG (sh_63 hG) hh7) rfl rfl (rmm (by omega) hRf hRl (by decide)) (Nat.le_of_ble_eq_true rfl) (Nat.le_add_right _ _) (Nat.le_add_right _ _) ?_
        refine j_iadd hX dX12_bound_55 ?_
        refine j_istore_n hX dX12_bound_56 (by decide) rfl ?_
        refine j_iload_n hX dX12_bound_57 rfl ?_
        refine j_aload_n hX dX12_bound_58 rfl ?_
        refine jpc (b := 59) rfl ?_
        refine j_aload_n hX dX12_bound_59 rfl ?_
        refine j_getR (k := 33) hX kX12 (by decide) fk_X12_61 (rf_50_33 hG) dX12_bound_60 (sh_50 hG) rfl ?_
        refine j_iload hX dX12_bound_63 rfl ?_
        refine j_iload_n hX dX12_bound_65 rfl ?_
        obtain ⟨v8, hh9, hf⟩ := bd1 hf
        refine j_cV3i hX lk_X12_348 kX12 dX12_bound_66 (sh_50 hG) (okX12_turnOf hG (sh_63 hG) hh9) rfl rfl (rmm (by omega) hRf hRl (by decide)) (Nat.le_of_ble_eq_true rfl) (Nat.le_add_right _ _) (Nat.le_add_right _ _) ?_
        refine j_aload_n hX dX12_bound_69 rfl ?_
        refine jpc (b := 70) rfl ?_
        refine j_getR (k := 20) hX kX12 (by decide) fk_X12_43 (rf_50_20 hG) dX12_bound_70 (sh_50 hG) rfl ?_
        refine j_bipush hX dX12_bound_73 bp_6 ?_
        refine j_iload hX dX12_bound_75 rfl ?_
        refine j_imul hX dX12_bound_77 ?_
        refine j_iconst hX dX12_bound_78 ic_1 ?_
        refine j_iadd hX dX12_bound_79 ?_
        refine jpc (b := 80) rfl ?_
        obtain ⟨hg, hf⟩ := gd hf
        refine j_iald hX (sh_57 hG) hg dX12_bound_80 ?_
        refine j_if_ne (tgt := 88) hX dX12_bound_81 (by decide) (fun hc => ?_) (fun hc => ?_)
        · have hf := ifn hc hf
          refine j_aload_n hX dX12_bound_88 rfl ?_
          refine j_aload_n hX dX12_bound_89 rfl ?_
          refine j_getR (k := 33) hX kX12 (by decide) fk_X12_61 (rf_50_33 hG) dX12_bound_90 (sh_50 hG) rfl ?_
          refine j_iload hX dX12_bound_93 rfl ?_
          refine j_iload_n hX dX12_bound_95 rfl ?_
          refine jpc (b := 96) rfl ?_
          refine j_iconst hX dX12_bound_96 ic_1 ?_
          obtain ⟨v10, hh11, hf⟩ := bd1 hf
          refine j_cV4i hX lk_X12_355 kX12 dX12_bound_97 (sh_50 hG) (okX12_waitOf hG (sh_63 hG) hh11) rfl rfl (rmm (by omega) hRf hRl (by decide)) (Nat.le_of_ble_eq_true rfl) (Nat.le_add_right _ _) (Nat.le_add_right _ _) ?_
          exact aJx (kX12_bound_100 hX hr hlk hRf hRl ih hG  hf) (And.intro rfl (And.intro rfl (And.intro rfl (And.intro rfl (rfl)))))
        · have hf := ifp hc hf
          refine j_iconst hX dX12_bound_84 ic_0 ?_
          refine j_goto (tgt := 100) hX dX12_bound_85 (by decide) ?_
          exact aJx (kX12_bound_100 hX hr hlk hRf hRl ih hG  hf) (And.intro rfl (And.intro rfl (And.intro rfl (And.intro rfl (rfl)))))
      · have hf := ifn hc hf
        refine j_goto (tgt := 105) hX dX12_bound_40 (by decide) ?_
        exact aJx (kX12_bound_105 hX hr hlk hRf hRl ih hG  hf) (And.intro rfl (And.intro rfl (And.intro rfl (And.intro rfl (And.intro rfl (rfl))))))
def fX12_bound (a1 : Int32) (i : Nat → Nat → Int32) : Option ((Int32) × (Nat → Nat → Int32)) := lt (u2 i 50 0 0) fun i1 =>
    bn1 (fX12_isOfficer a1 i1) fun v2 =>
    if v2 = 0 then (some ((-1), i1)) else (fX12_bound_22 fuel a1 0 0 0 i1)
theorem kX12_bound  {vR : Int32} {iR : Nat → Nat → Int32} (hX : aX p s m args c RX12 cX12_bound 5 D cA A ad0) (hr : meth.sig.returnType = (some .int)) (hlk : meth.locks = false) (hRf : 2 ≤ R.frames) (hRl : 64 * 2 ≤ R.locals) {a1 : Int32} (hG : aGood sh rv) (hf : fX12_bound a1 i = some (vR, iR)) : aJ p l e R s m args below meth c (MQ below (aPost D cA ad0 A (sh, i0, lo0, rv0) (some (.int vR)) (sh, iR, lo, rv)) args s (sh.length - sh.length) (aSn sh - aSn sh) A) D cA A ad0 5 sh.length (aSn sh) 0 [some (.ref (100 + 50)), some (.int a1), none, none, none] [] (sh, i, lo, rv) := by
  unfold fX12_bound at hf
  refine j_aload_n hX dX12_bound_0 rfl ?_
  refine j_iconst hX dX12_bound_1 ic_0 ?_
  have hf := ltd hf
  refine j_putI (k := 0) hX kX12 (by decide) fk_X12_99 dX12_bound_2 (sh_50 hG) rfl rfl rfl rfl ?_
  refine j_aload_n hX dX12_bound_5 rfl ?_
  refine j_iload_n hX dX12_bound_6 rfl ?_
  refine jpc (b := 7) rfl ?_
  obtain ⟨v2, hh3, hf⟩ := bd1 hf
  refine j_cV1i hX lk_X12_374 kX12 dX12_bound_7 (sh_50 hG) (okX12_isOfficer hG hh3) rfl rfl (rmm (by omega) hRf hRl (by decide)) (Nat.le_of_ble_eq_true rfl) (Nat.le_add_right _ _) (Nat.le_add_right _ _) ?_
  refine j_if_ne (tgt := 15) hX dX12_bound_10 (by decide) (fun hc => ?_) (fun hc => ?_)
  · have hf := ifn hc hf
    refine j_iconst hX dX12_bound_15 ic_0 ?_
    refine j_istore_n hX dX12_bound_16 (by decide) rfl ?_
    refine j_iconst hX dX12_bound_17 ic_0 ?_
    refine j_istore_n hX dX12_bound_18 (by decide) rfl ?_
    refine j_iconst hX dX12_bound_19 ic_0 ?_
    refine jpc (b := 20) rfl ?_
    refine j_istore hX dX12_bound_20 (by decide) rfl ?_
    exact aJx (kX12_bound_22 hX hr hlk hRf hRl fuel _ _ _ _ _ hG  hf) (And.intro rfl (And.intro rfl (And.intro rfl (And.intro rfl (And.intro rfl (rfl))))))
  · have hf := ifp hc hf
    refine j_iconst hX dX12_bound_13 ic_m1 ?_
    cases hf
    exact j_ret hX hr hlk rfl dX12_bound_14
theorem okX12_bound {l : Launch} {sh : List aSh} {i : Nat → Nat → Int32} {lo : Nat → Nat → Int64} {rv : Nat → Nat → Option Nat}  {a1 : Int32} {vR : Int32} {iR : Nat → Nat → Int32} (hG : aGood sh rv) (hf : fX12_bound a1 i = some (vR, iR)) : aM l yX12_bound cX12_bound 5 (some .int) 2 [.ref (100 + 50), .int a1] (sh, i, lo, rv) (some (.int vR)) (sh, iR, lo, rv) :=
  aM_of (by decide) (Nat.le_of_ble_eq_true rfl) (Nat.le_refl _) (Nat.le_refl _) (fun p e s m args below meth c D cA A ad0 hX hr hlk hnm => kX12_bound hX hr hlk (Nat.le_refl _) (Nat.le_refl _) hG hf)
def fX12_costOf_42 (kh4 : Int32 → Int32 → Int32 → (Nat → Nat → Int32) → (Nat → Nat → Option Nat) → Option ((Int32) × (Nat → Nat → Int32) × (Nat → Nat → Option Nat))) (x1 : Int32) (x3 : Int32) (s0 : Int32) (s1 : Int32) (i : Nat → Nat → Int32) (rv : Nat → Nat → Option Nat) : Option ((Int32) × (Nat → Nat → Int32) × (Nat → Nat → Option Nat)) := kh4 x1 (s0 + s1) (x3 + 1) i rv
theorem kX12_costOf_42  {vR : Int32} {iR : Nat → Nat → Int32} {rvR : Nat → Nat → Option Nat} (hX : aX p s m args c RX12 cX12_costOf 5 D cA A ad0) (hr : meth.sig.returnType = (some .int)) (hlk : meth.locks = false) (hRf : 1149 ≤ R.frames) (hRl : 64 * 1149 ≤ R.locals) {kh4 : Int32 → Int32 → Int32 → (Nat → Nat → Int32) → (Nat → Nat → Option Nat) → Option ((Int32) × (Nat → Nat → Int32) × (Nat → Nat → Option Nat))} (Hkh4 : ∀ (x1 : Int32) (x2 : Int32) (x3 : Int32) (i : Nat → Nat → Int32) (rv : Nat → Nat → Option Nat), aGood sh rv → kh4 x1 x2 x3 i rv = some (vR, iR, rvR) → aJ p l e R s m args below meth c (MQ below (aPost D cA ad0 A (sh, i0, lo0, rv0) (some (.int vR)) (sh, iR, lo, rvR)) args s (sh.length - sh.length) (aSn sh - aSn sh) A) D cA A ad0 5 sh.length (aSn sh) 4 [some (.ref (100 + 50)), some (.int x1), some (.int x2), some (.int x3), none] [] (sh, i, lo, rv)) {x1 : Int32} {x3 : Int32} {s0 : Int32} {s1 : Int32} (hG : aGood sh rv) (hf : fX12_costOf_42 kh4 x1 x3 s0 s1 i rv = some (vR, iR, rvR)) : aJ p l e R s m args below meth c (MQ below (aPost D cA ad0 A (sh, i0, lo0, rv0) (some (.int vR)) (sh, iR, lo, rvR)) args s (sh.length - sh.length) (aSn sh - aSn sh) A) D cA A ad0 5 sh.length (aSn sh) 42 [some (.ref (100 + 50)), some (.int x1), none, some (.int x3), none] [.int s1, .int s0] (sh, i, lo, rv) := by
  unfold fX12_costOf_42 at hf
  refine j_iadd hX dX12_costOf_42 ?_
  refine j_istore_n hX dX12_costOf_43 (by decide) rfl ?_
  refine j_iinc hX dX12_costOf_44 rfl (congrArg (_ + ·) ic_1) (by decide) rfl ?_
  refine j_goto (tgt := 4) hX dX12_costOf_47 (by decide) ?_
  exact aJx (Hkh4 _ _ _ _ _ hG  hf) (And.intro rfl (And.intro rfl (And.intro rfl (And.intro rfl (rfl)))))
theorem gX12_costOf_42 {vR : Int32} {iR : Nat → Nat → Int32} {rvR : Nat → Nat → Option Nat} {kh4 : Int32 → Int32 → Int32 → (Nat → Nat → Int32) → (Nat → Nat → Option Nat) → Option ((Int32) × (Nat → Nat → Int32) × (Nat → Nat → Option Nat))} (Hkh4 : ∀ (x1 : Int32) (x2 : Int32) (x3 : Int32) (i : Nat → Nat → Int32) (rv : Nat → Nat → Option Nat), aGood sh rv → kh4 x1 x2 x3 i rv = some (vR, iR, rvR) → aGood sh rvR) {x1 : Int32} {x3 : Int32} {s0 : Int32} {s1 : Int32} (hG : aGood sh rv) (hf : fX12_costOf_42 kh4 x1 x3 s0 s1 i rv = some (vR, iR, rvR)) : aGood sh rvR := by
  unfold fX12_costOf_42 at hf
  exact Hkh4 _ _ _ _ _ hG  hf
def fX12_costOf_119 (kh52 : Int32 → Int32 → Int32 → (Nat → Nat → Int32) → (Nat → Nat → Option Nat) → Option ((Int32) × (Nat → Nat → Int32) × (Nat → Nat → Option Nat))) (kh88 : Int32 → Int32 → Int32 → Int32 → (Nat → Nat → Int32) → (Nat → Nat → Option Nat) → Option ((Int32) × (Nat → Nat → Int32) × (Nat → Nat → Option Nat))) (x1 : Int32) (x2 : Int32) (x3 : Int32) (x4 : Int32) (i : Nat → Nat → Int32) (rv : Nat → Nat → Option Nat) : Option ((Int32) × (Nat → Nat → Int32) × (Nat → Nat → Option Nat)) := kh88 x1 x2 x3 (x4 + 1) i rv
theorem kX12_costOf_119  {vR : Int32} {iR : Nat → Nat → Int32} {rvR : Nat → Nat → Option Nat} (hX : aX p s m args c RX12 cX12_costOf 5 D cA A ad0) (hr : meth.sig.returnType = (some .int)) (hlk : meth.locks = false) (hRf : 1149 ≤ R.frames) (hRl : 64 * 1149 ≤ R.locals) {kh52 : Int32 → Int32 → Int32 → (Nat → Nat → Int32) → (Nat → Nat → Option Nat) → Option ((Int32) × (Nat → Nat → Int32) × (Nat → Nat → Option Nat))} {kh88 : Int32 → Int32 → Int32 → Int32 → (Nat → Nat → Int32) → (Nat → Nat → Option Nat) → Option ((Int32) × (Nat → Nat → Int32) × (Nat → Nat → Option Nat))} (Hkh52 : ∀ (x1 : Int32) (x2 : Int32) (x3 : Int32) (i : Nat → Nat → Int32) (rv : Nat → Nat → Option Nat), aGood sh rv → kh52 x1 x2 x3 i rv = some (vR, iR, rvR) → aJ p l e R s m args below meth c (MQ below (aPost D cA ad0 A (sh, i0, lo0, rv0) (some (.int vR)) (sh, iR, lo, rvR)) args s (sh.length - sh.length) (aSn sh - aSn sh) A) D cA A ad0 5 sh.length (aSn sh) 52 [some (.ref (100 + 50)), some (.int x1), some (.int x2), some (.int x3), none] [] (sh, i, lo, rv)) (Hkh88 : ∀ (x1 : Int32) (x2 : Int32) (x3 : Int32) (x4 : Int32) (i : Nat → Nat → Int32) (rv : Nat → Nat → Option Nat), aGood sh rv → kh88 x1 x2 x3 x4 i rv = some (vR, iR, rvR) → aJ p l e R s m args below meth c (MQ below (aPost D cA ad0 A (sh, i0, lo0, rv0) (some (.int vR)) (sh, iR, lo, rvR)) args s (sh.length - sh.length) (aSn sh - aSn sh) A) D cA A ad0 5 sh.length (aSn sh) 88 [some (.ref (100 + 50)), some (.int x1), some (.int x2), some (.int x3), some (.int x4)] [] (sh, i, lo, rv)) {x1 : Int32} {x2 : Int32} {x3 : Int32} {x4 : Int32} (hG : aGood sh rv) (hf : fX12_costOf_119 kh52 kh88 x1 x2 x3 x4 i rv = some (vR, iR, rvR)) : aJ p l e R s m args below meth c (MQ below (aPost D cA ad0 A (sh, i0, lo0, rv0) (some (.int vR)) (sh, iR, lo, rvR)) args s (sh.length - sh.length) (aSn sh - aSn sh) A) D cA A ad0 5 sh.length (aSn sh) 119 [some (.ref (100 + 50)), some (.int x1), some (.int x2), some (.int x3), some (.int x4)] [] (sh, i, lo, rv) := by
  unfold fX12_costOf_119 at hf
  refine j_iinc hX dX12_costOf_119 rfl (congrArg (_ + ·) ic_1) (by decide) rfl ?_
  refine j_goto (tgt := 88) hX dX12_costOf_122 (by decide) ?_
  exact aJx (Hkh88 _ _ _ _ _ _ hG  hf) (And.intro rfl (And.intro rfl (And.intro rfl (And.intro rfl (And.intro rfl (rfl))))))
theorem gX12_costOf_119 {vR : Int32} {iR : Nat → Nat → Int32} {rvR : Nat → Nat → Option Nat} {kh52 : Int32 → Int32 → Int32 → (Nat → Nat → Int32) → (Nat → Nat → Option Nat) → Option ((Int32) × (Nat → Nat → Int32) × (Nat → Nat → Option Nat))} {kh88 : Int32 → Int32 → Int32 → Int32 → (Nat → Nat → Int32) → (Nat → Nat → Option Nat) → Option ((Int32) × (Nat → Nat → Int32) × (Nat → Nat → Option Nat))} (Hkh52 : ∀ (x1 : Int32) (x2 : Int32) (x3 : Int32) (i : Nat → Nat → Int32) (rv : Nat → Nat → Option Nat), aGood sh rv → kh52 x1 x2 x3 i rv = some (vR, iR, rvR) → aGood sh rvR) (Hkh88 : ∀ (x1 : Int32) (x2 : Int32) (x3 : Int32) (x4 : Int32) (i : Nat → Nat → Int32) (rv : Nat → Nat → Option Nat), aGood sh rv → kh88 x1 x2 x3 x4 i rv = some (vR, iR, rvR) → aGood sh rvR) {x1 : Int32} {x2 : Int32} {x3 : Int32} {x4 : Int32} (hG : aGood sh rv) (hf : fX12_costOf_119 kh52 kh88 x1 x2 x3 x4 i rv = some (vR, iR, rvR)) : aGood sh rvR := by
  unfold fX12_costOf_119 at hf
  exact Hkh88 _ _ _ _ _ _ hG  hf
def fX12_costOf_163 (kh52 : Int32 → Int32 → Int32 → (Nat → Nat → Int32) → (Nat → Nat → Option Nat) → Option ((Int32) × (Nat → Nat → Int32) × (Nat → Nat → Option Nat))) (x1 : Int32) (x2 : Int32) (x3 : Int32) (i : Nat → Nat → Int32) (rv : Nat → Nat → Option Nat) : Option ((Int32) × (Nat → Nat → Int32) × (Nat → Nat → Option Nat)) := kh52 x1 x2 (x3 + 1) i rv
theorem kX12_costOf_163  {vR : Int32} {iR : Nat → Nat → Int32} {rvR : Nat → Nat → Option Nat} (hX : aX p s m args c RX12 cX12_costOf 5 D cA A ad0) (hr : meth.sig.returnType = (some .int)) (hlk : meth.locks = false) (hRf : 1149 ≤ R.frames) (hRl : 64 * 1149 ≤ R.locals) {kh52 : Int32 → Int32 → Int32 → (Nat → Nat → Int32) → (Nat → Nat → Option Nat) → Option ((Int32) × (Nat → Nat → Int32) × (Nat → Nat → Option Nat))} (Hkh52 : ∀ (x1 : Int32) (x2 : Int32) (x3 : Int32) (i : Nat → Nat → Int32) (rv : Nat → Nat → Option Nat), aGood sh rv → kh52 x1 x2 x3 i rv = some (vR, iR, rvR) → aJ p l e R s m args below meth c (MQ below (aPost D cA ad0 A (sh, i0, lo0, rv0) (some (.int vR)) (sh, iR, lo, rvR)) args s (sh.length - sh.length) (aSn sh - aSn sh) A) D cA A ad0 5 sh.length (aSn sh) 52 [some (.ref (100 + 50)), some (.int x1), some (.int x2), some (.int x3), none] [] (sh, i, lo, rv)) {x1 : Int32} {x2 : Int32} {x3 : Int32} (hG : aGood sh rv) (hf : fX12_costOf_163 kh52 x1 x2 x3 i rv = some (vR, iR, rvR)) : aJ p l e R s m args below meth c (MQ below (aPost D cA ad0 A (sh, i0, lo0, rv0) (some (.int vR)) (sh, iR, lo, rvR)) args s (sh.length - sh.length) (aSn sh - aSn sh) A) D cA A ad0 5 sh.length (aSn sh) 163 [some (.ref (100 + 50)), some (.int x1), some (.int x2), some (.int x3), none] [] (sh, i, lo, rv) := by
  unfold fX12_costOf_163 at hf
  refine j_iinc hX dX12_costOf_163 rfl (congrArg (_ + ·) ic_1) (by decide) rfl ?_
  refine j_goto (tgt := 52) hX dX12_costOf_166 (by decide) ?_
  exact aJx (Hkh52 _ _ _ _ _ hG  hf) (And.intro rfl (And.intro rfl (And.intro rfl (And.intro rfl (rfl)))))
theorem gX12_costOf_163 {vR : Int32} {iR : Nat → Nat → Int32} {rvR : Nat → Nat → Option Nat} {kh52 : Int32 → Int32 → Int32 → (Nat → Nat → Int32) → (Nat → Nat → Option Nat) → Option ((Int32) × (Nat → Nat → Int32) × (Nat → Nat → Option Nat))} (Hkh52 : ∀ (x1 : Int32) (x2 : Int32) (x3 : Int32) (i : Nat → Nat → Int32) (rv : Nat → Nat → Option Nat), aGood sh rv → kh52 x1 x2 x3 i rv = some (vR, iR, rvR) → aGood sh rvR) {x1 : Int32} {x2 : Int32} {x3 : Int32} (hG : aGood sh rv) (hf : fX12_costOf_163 kh52 x1 x2 x3 i rv = some (vR, iR, rvR)) : aGood sh rvR := by
  unfold fX12_costOf_163 at hf
  exact Hkh52 _ _ _ _ _ hG  hf
def fX12_costOf_88 (kh52 : Int32 → Int32 → Int32 → (Nat → Nat → Int32) → (Nat → Nat → Option Nat) → Option ((Int32) × (Nat → Nat → Int32) × (Nat → Nat → Option Nat))) : Nat → Int32 → Int32 → Int32 → Int32 → (Nat → Nat → Int32) → (Nat → Nat → Option Nat) → Option ((Int32) × (Nat → Nat → Int32) × (Nat → Nat → Option Nat))
  | 0, _, _, _, _, _, _ => none
  | n + 1, x1, x2, x3, x4, i, rv => if (i 50 26) ≤ x4 then (bn2 (fX12_goBorder 64 296 x3 i rv) fun i11 rv12 =>
    bn1 (fX12_isLate (i11 50 37) i11) fun v14 =>
    if v14 = 0 then (if aIn ((4 : Int32) * x3) 16 = true then
    (lt (x2 + ((i11 59 (((4 : Int32) * x3) : Int32).toNatClampNeg) * (i11 50 38))) fun t16 =>
    fX12_costOf_163 kh52 x1 t16 x3 i11 rv12) else none) else (some ((-1), i11, rv12))) else (bn1 (fX12_has x1 x4) fun v17 =>
    if v17 = 0 then (fX12_costOf_119 kh52 (fX12_costOf_88 kh52 n) x1 x2 x3 x4 i rv) else (if aIn (((6 : Int32) * x4) + (3 : Int32)) 296 = true then
    (lt (u2 i 64 ((((6 : Int32) * x4) + (3 : Int32)) : Int32).toNatClampNeg 0) fun i19 => fX12_costOf_119 kh52 (fX12_costOf_88 kh52 n) x1 x2 x3 x4 i19 rv) else none))
theorem kX12_costOf_88  {vR : Int32} {iR : Nat → Nat → Int32} {rvR : Nat → Nat → Option Nat} (hX : aX p s m args c RX12 cX12_costOf 5 D cA A ad0) (hr : meth.sig.returnType = (some .int)) (hlk : meth.locks = false) (hRf : 1149 ≤ R.frames) (hRl : 64 * 1149 ≤ R.locals) {kh52 : Int32 → Int32 → Int32 → (Nat → Nat → Int32) → (Nat → Nat → Option Nat) → Option ((Int32) × (Nat → Nat → Int32) × (Nat → Nat → Option Nat))} (Hkh52 : ∀ (x1 : Int32) (x2 : Int32) (x3 : Int32) (i : Nat → Nat → Int32) (rv : Nat → Nat → Option Nat), aGood sh rv → kh52 x1 x2 x3 i rv = some (vR, iR, rvR) → aJ p l e R s m args below meth c (MQ below (aPost D cA ad0 A (sh, i0, lo0, rv0) (some (.int vR)) (sh, iR, lo, rvR)) args s (sh.length - sh.length) (aSn sh - aSn sh) A) D cA A ad0 5 sh.length (aSn sh) 52 [some (.ref (100 + 50)), some (.int x1), some (.int x2), some (.int x3), none] [] (sh, i, lo, rv)) : ∀ (n : Nat) (x1 : Int32) (x2 : Int32) (x3 : Int32) (x4 : Int32) (i : Nat → Nat → Int32) (rv : Nat → Nat → Option Nat), aGood sh rv → fX12_costOf_88 kh52 n x1 x2 x3 x4 i rv = some (vR, iR, rvR) → aJ p l e R s m args below meth c (MQ below (aPost D cA ad0 A (sh, i0, lo0, rv0) (some (.int vR)) (sh, iR, lo, rvR)) args s (sh.length - sh.length) (aSn sh - aSn sh) A) D cA A ad0 5 sh.length (aSn sh) 88 [some (.ref (100 + 50)), some (.int x1), some (.int x2), some (.int x3), some (.int x4)] [] (sh, i, lo, rv) := by
  intro n
  induction n with
  | zero => intros; rename_i hf; cases hf
  | succ n ih =>
    intro x1 x2 x3 x4 i rv hG hf
    rw [fX12_costOf_88] at hf
    refine j_iload hX dX12_costOf_88 rfl ?_
    refine j_aload_n hX dX12_costOf_90 rfl ?_
    refine j_getI (k := 26) hX kX12 (by decide) fk_X12_297 dX12_costOf_91 (sh_50 hG) rfl ?_
    refine j_icmp_ge (tgt := 125) hX dX12_costOf_94 (by decide) (fun hc => ?_) (fun hc => ?_)
    · have hf := ifp hc hf
      refine j_aload_n hX dX12_costOf_125 rfl ?_
      refine j_aload_n hX dX12_costOf_126 rfl ?_
      refine j_getR (k := 34) hX kX12 (by decide) fk_X12_64 (rf_50_34 hG) dX12_costOf_127 (sh_50 hG) rfl ?_
      refine j_iload_n hX dX12_costOf_130 rfl ?_
      obtain ⟨i11, rv12, hh13, hf⟩ := bd2 hf
      refine j_cV2v hX lk_X12_363 kX12 dX12_costOf_131 (sh_50 hG) (okX12_goBorder hG (sh_64 hG) hh13) rfl rfl (rmm (by omega) hRf hRl (by decide)) (Nat.le_of_ble_eq_true rfl) (Nat.le_add_right _ _) (Nat.le_add_right _ _) ?_
      have hG := gdX12_goBorder hG (sh_64 hG) hh13
      refine jpc (b := 134) rfl ?_
      refine j_aload_n hX dX12_costOf_134 rfl ?_
      refine j_aload_n hX dX12_costOf_135 rfl ?_
      refine j_getI (k := 37) hX kX12 (by decide) fk_X12_333 dX12_costOf_136 (sh_50 hG) rfl ?_
      obtain ⟨v14, hh15, hf⟩ := bd1 hf
      refine j_cV1i hX lk_X12_413 kX12 dX12_costOf_139 (sh_50 hG) (okX12_isLate hG hh15) rfl rfl (rmm (by omega) hRf hRl (by decide)) (Nat.le_of_ble_eq_true rfl) (Nat.le_add_right _ _) (Nat.le_add_right _ _) ?_
      refine j_if_eq (tgt := 147) hX dX12_costOf_142 (by decide) (fun hc => ?_) (fun hc => ?_)
      · have hf := ifp hc hf
        refine j_iload_n hX dX12_costOf_147 rfl ?_
        refine j_aload_n hX dX12_costOf_148 rfl ?_
        refine j_getR (k := 22) hX kX12 (by decide) fk_X12_49 (rf_50_22 hG) dX12_costOf_149 (sh_50 hG) rfl ?_
        refine j_iconst hX dX12_costOf_152 ic_4 ?_
        refine j_iload_n hX dX12_costOf_153 rfl ?_
        refine jpc (b := 154) rfl ?_
        refine j_imul hX dX12_costOf_154 ?_
        obtain ⟨hg, hf⟩ := gd hf
        refine j_iald hX (sh_59 hG) hg dX12_costOf_155 ?_
        refine j_aload_n hX dX12_costOf_156 rfl ?_
        refine j_getI (k := 38) hX kX12 (by decide) fk_X12_336 dX12_costOf_157 (sh_50 hG) rfl ?_
        refine j_imul hX dX12_costOf_160 ?_
        refine j_iadd hX dX12_costOf_161 ?_
        have hf := ltd hf
        refine j_istore_n hX dX12_costOf_162 (by decide) rfl ?_
        exact aJx (kX12_costOf_163 hX hr hlk hRf hRl Hkh52 hG  hf) (And.intro rfl (And.intro rfl (And.intro rfl (And.intro rfl (rfl)))))
      · have hf := ifn hc hf
        refine j_iconst hX dX12_costOf_145 ic_m1 ?_
        cases hf
        exact j_ret hX hr hlk rfl dX12_costOf_146
    · have hf := ifn hc hf
      refine j_iload_n hX dX12_costOf_97 rfl ?_
      refine j_iload hX dX12_costOf_98 rfl ?_
      obtain ⟨v17, hh18, hf⟩ := bd1 hf
      refine j_cS2i hX lk_X12_232 dX12_costOf_100 (okX12_has hG hh18) rfl rfl (rmm (by omega) hRf hRl (by decide)) (Nat.le_of_ble_eq_true rfl) (Nat.le_add_right _ _) (Nat.le_add_right _ _) ?_
      refine j_if_eq (tgt := 119) hX dX12_costOf_103 (by decide) (fun hc => ?_) (fun hc => ?_)
      · have hf := ifp hc hf
        exact aJx (kX12_costOf_119 hX hr hlk hRf hRl Hkh52 ih hG  hf) (And.intro rfl (And.intro rfl (And.intro rfl (And.intro rfl (And.intro rfl (rfl))))))
      · have hf := ifn hc hf
        refine j_aload_n hX dX12_costOf_106 rfl ?_
        refine j_getR (k := 34) hX kX12 (by decide) fk_X12_64 (rf_50_34 hG) dX12_costOf_107 (sh_50 hG) rfl ?_
        refine j_bipush hX dX12_costOf_110 bp_6 ?_
        refine j_iload hX dX12_costOf_112 rfl ?_
        refine j_imul hX dX12_costOf_114 ?_
        refine jpc (b := 115) rfl ?_
        refine j_iconst hX dX12_costOf_115 ic_3 ?_
        refine j_iadd hX dX12_costOf_116 ?_
        refine j_iconst hX dX12_costOf_117 ic_0 ?_
        obtain ⟨hg, hf⟩ := gd hf
        have hf := ltd hf
        refine j_iast hX (sh_64 hG) hg dX12_costOf_118 ?_
        exact aJx (kX12_costOf_119 hX hr hlk hRf hRl Hkh52 ih hG  hf) (And.intro rfl (And.intro rfl (And.intro rfl (And.intro rfl (And.intro rfl (rfl))))))
theorem gX12_costOf_88 {vR : Int32} {iR : Nat → Nat → Int32} {rvR : Nat → Nat → Option Nat} {kh52 : Int32 → Int32 → Int32 → (Nat → Nat → Int32) → (Nat → Nat → Option Nat) → Option ((Int32) × (Nat → Nat → Int32) × (Nat → Nat → Option Nat))} (Hkh52 : ∀ (x1 : Int32) (x2 : Int32) (x3 : Int32) (i : Nat → Nat → Int32) (rv : Nat → Nat → Option Nat), aGood sh rv → kh52 x1 x2 x3 i rv = some (vR, iR, rvR) → aGood sh rvR) : ∀ (n : Nat) (x1 : Int32) (x2 : Int32) (x3 : Int32) (x4 : Int32) (i : Nat → Nat → Int32) (rv : Nat → Nat → Option Nat), aGood sh rv → fX12_costOf_88 kh52 n x1 x2 x3 x4 i rv = some (vR, iR, rvR) → aGood sh rvR := by
  intro n
  induction n with
  | zero => intros; rename_i hf; cases hf
  | succ n ih =>
    intro x1 x2 x3 x4 i rv hG hf
    rw [fX12_costOf_88] at hf
    refine ifs hf (fun hc hf => ?_) (fun hc hf => ?_)
    · have hf := hf
      obtain ⟨i11, rv12, hh13, hf⟩ := bd2 hf
      have hG := gdX12_goBorder hG (sh_64 hG) hh13
      obtain ⟨v14, hh15, hf⟩ := bd1 hf
      refine ifs hf (fun hc hf => ?_) (fun hc hf => ?_)
      · have hf := hf
        obtain ⟨hg, hf⟩ := gd hf
        have hf := ltd hf
        exact gX12_costOf_163 Hkh52 hG  hf
      · have hf := hf
        cases hf
        exact hG
    · have hf := hf
      obtain ⟨v17, hh18, hf⟩ := bd1 hf
      refine ifs hf (fun hc hf => ?_) (fun hc hf => ?_)
      · have hf := hf
        exact gX12_costOf_119 Hkh52 ih hG  hf
      · have hf := hf
        obtain ⟨hg, hf⟩ := gd hf
        have hf := ltd hf
        exact gX12_costOf_119 Hkh52 ih hG  hf
def fX12_costOf_52 : Nat → Int32 → Int32 → Int32 → (Nat → Nat → Int32) → (Nat → Nat → Option Nat) → Option ((Int32) × (Nat → Nat → Int32) × (Nat → Nat → Option Nat))
  | 0, _, _, _, _, _ => none
  | n + 1, x1, x2, x3, i, rv => if (i 50 27) ≤ x3 then (some (x2, i, rv)) else (if aIn ((4 : Int32) * x3) 16 = true then
    (if (i 59 (((4 : Int32) * x3) : Int32).toNatClampNeg) = 0 then (fX12_costOf_163 (fX12_costOf_52 n) x1 x2 x3 i rv) else (bn1 (fX12_copy 63 296 64 296 i) fun i9 =>
    fX12_costOf_88 (fX12_costOf_52 n) fuel x1 x2 x3 0 i9 rv)) else none)
theorem kX12_costOf_52  {vR : Int32} {iR : Nat → Nat → Int32} {rvR : Nat → Nat → Option Nat} (hX : aX p s m args c RX12 cX12_costOf 5 D cA A ad0) (hr : meth.sig.returnType = (some .int)) (hlk : meth.locks = false) (hRf : 1149 ≤ R.frames) (hRl : 64 * 1149 ≤ R.locals) : ∀ (n : Nat) (x1 : Int32) (x2 : Int32) (x3 : Int32) (i : Nat → Nat → Int32) (rv : Nat → Nat → Option Nat), aGood sh rv → fX12_costOf_52 n x1 x2 x3 i rv = some (vR, iR, rvR) → aJ p l e R s m args below meth c (MQ below (aPost D cA ad0 A (sh, i0, lo0, rv0) (some (.int vR)) (sh, iR, lo, rvR)) args s (sh.length - sh.length) (aSn sh - aSn sh) A) D cA A ad0 5 sh.length (aSn sh) 52 [some (.ref (100 + 50)), some (.int x1), some (.int x2), some (.int x3), none] [] (sh, i, lo, rv) := by
  intro n
  induction n with
  | zero => intros; rename_i hf; cases hf
  | succ n ih =>
    intro x1 x2 x3 i rv hG hf
    rw [fX12_costOf_52] at hf
    refine j_iload_n hX dX12_costOf_52 rfl ?_
    refine j_aload_n hX dX12_costOf_53 rfl ?_
    refine j_getI (k := 27) hX kX12 (by decide) fk_X12_300 dX12_costOf_54 (sh_50 hG) rfl ?_
    refine j_icmp_ge (tgt := 169) hX dX12_costOf_57 (by decide) (fun hc => ?_) (fun hc => ?_)
    · have hf := ifp hc hf
      refine j_iload_n hX dX12_costOf_169 rfl ?_
      cases hf
      exact j_ret hX hr hlk rfl dX12_costOf_170
    · have hf := ifn hc hf
      refine j_aload_n hX dX12_costOf_60 rfl ?_
      refine j_getR (k := 22) hX kX12 (by decide) fk_X12_49 (rf_50_22 hG) dX12_costOf_61 (sh_50 hG) rfl ?_
      refine j_iconst hX dX12_costOf_64 ic_4 ?_
      refine j_iload_n hX dX12_costOf_65 rfl ?_
      refine j_imul hX dX12_costOf_66 ?_
      refine jpc (b := 67) rfl ?_
      obtain ⟨hg, hf⟩ := gd hf
      refine j_iald hX (sh_59 hG) hg dX12_costOf_67 ?_
      refine j_if_ne (tgt := 74) hX dX12_costOf_68 (by decide) (fun hc => ?_) (fun hc => ?_)
      · have hf := ifn hc hf
        refine j_aload_n hX dX12_costOf_74 rfl ?_
        refine j_getR (k := 33) hX kX12 (by decide) fk_X12_61 (rf_50_33 hG) dX12_costOf_75 (sh_50 hG) rfl ?_
        refine j_aload_n hX dX12_costOf_78 rfl ?_
        refine j_getR (k := 34) hX kX12 (by decide) fk_X12_64 (rf_50_34 hG) dX12_costOf_79 (sh_50 hG) rfl ?_
        obtain ⟨i9, hh10, hf⟩ := bd1 hf
        refine j_cS2v hX lk_X12_359 dX12_costOf_82 (okX12_copy hG (sh_63 hG) (sh_64 hG) hh10) rfl rfl (rmm (by omega) hRf hRl (by decide)) (Nat.le_of_ble_eq_true rfl) (Nat.le_add_right _ _) (Nat.le_add_right _ _) ?_
        refine jpc (b := 85) rfl ?_
        refine j_iconst hX dX12_costOf_85 ic_0 ?_
        refine j_istore hX dX12_costOf_86 (by decide) rfl ?_
        exact aJx (kX12_costOf_88 hX hr hlk hRf hRl ih fuel _ _ _ _ _ _ hG  hf) (And.intro rfl (And.intro rfl (And.intro rfl (And.intro rfl (And.intro rfl (rfl))))))
      · have hf := ifp hc hf
        refine j_goto (tgt := 163) hX dX12_costOf_71 (by decide) ?_
        exact aJx (kX12_costOf_163 hX hr hlk hRf hRl ih hG  hf) (And.intro rfl (And.intro rfl (And.intro rfl (And.intro rfl (rfl)))))
theorem gX12_costOf_52 {vR : Int32} {iR : Nat → Nat → Int32} {rvR : Nat → Nat → Option Nat} : ∀ (n : Nat) (x1 : Int32) (x2 : Int32) (x3 : Int32) (i : Nat → Nat → Int32) (rv : Nat → Nat → Option Nat), aGood sh rv → fX12_costOf_52 n x1 x2 x3 i rv = some (vR, iR, rvR) → aGood sh rvR := by
  intro n
  induction n with
  | zero => intros; rename_i hf; cases hf
  | succ n ih =>
    intro x1 x2 x3 i rv hG hf
    rw [fX12_costOf_52] at hf
    refine ifs hf (fun hc hf => ?_) (fun hc hf => ?_)
    · have hf := hf
      cases hf
      exact hG
    · have hf := hf
      obtain ⟨hg, hf⟩ := gd hf
      refine ifs2 hf (fun hc hf => ?_) (fun hc hf => ?_)
      · have hf := hf
        obtain ⟨i9, hh10, hf⟩ := bd1 hf
        exact gX12_costOf_88 ih fuel _ _ _ _ _ _ hG  hf
      · have hf := hf
        exact gX12_costOf_163 ih hG  hf
def fX12_costOf_4 : Nat → Int32 → Int32 → Int32 → (Nat → Nat → Int32) → (Nat → Nat → Option Nat) → Option ((Int32) × (Nat → Nat → Int32) × (Nat → Nat → Option Nat))
  | 0, _, _, _, _, _ => none
  | n + 1, x1, x2, x3, i, rv => if (i 50 26) ≤ x3 then (fX12_costOf_52 fuel x1 x2 0 i rv) else (bn1 (fX12_has x1 x3) fun v1 =>
    if v1 = 0 then (fX12_costOf_42 (fX12_costOf_4 n) x1 x3 x2 0 i rv) else (bn1 (fX12_weights i) fun v3 =>
    bn3 (fX12_sleepOf 63 296 x3 0 9 i rv) fun v5 i6 rv7 =>
    fX12_costOf_42 (fX12_costOf_4 n) x1 x3 x2 (v3 * v5) i6 rv7))
theorem kX12_costOf_4  {vR : Int32} {iR : Nat → Nat → Int32} {rvR : Nat → Nat → Option Nat} (hX : aX p s m args c RX12 cX12_costOf 5 D cA A ad0) (hr : meth.sig.returnType = (some .int)) (hlk : meth.locks = false) (hRf : 1149 ≤ R.frames) (hRl : 64 * 1149 ≤ R.locals) : ∀ (n : Nat) (x1 : Int32) (x2 : Int32) (x3 : Int32) (i : Nat → Nat → Int32) (rv : Nat → Nat → Option Nat), aGood sh rv → fX12_costOf_4 n x1 x2 x3 i rv = some (vR, iR, rvR) → aJ p l e R s m args below meth c (MQ below (aPost D cA ad0 A (sh, i0, lo0, rv0) (some (.int vR)) (sh, iR, lo, rvR)) args s (sh.length - sh.length) (aSn sh - aSn sh) A) D cA A ad0 5 sh.length (aSn sh) 4 [some (.ref (100 + 50)), some (.int x1), some (.int x2), some (.int x3), none] [] (sh, i, lo, rv) := by
  intro n
  induction n with
  | zero => intros; rename_i hf; cases hf
  | succ n ih =>
    intro x1 x2 x3 i rv hG hf
    rw [fX12_costOf_4] at hf
    refine j_iload_n hX dX12_costOf_4 rfl ?_
    refine j_aload_n hX dX12_costOf_5 rfl ?_
    refine j_getI (k := 26) hX kX12 (by decide) fk_X12_297 dX12_costOf_6 (sh_50 hG) rfl ?_
    refine j_icmp_ge (tgt := 50) hX dX12_costOf_9 (by decide) (fun hc => ?_) (fun hc => ?_)
    · have hf := ifp hc hf
      refine j_iconst hX dX12_costOf_50 ic_0 ?_
      refine j_istore_n hX dX12_costOf_51 (by decide) rfl ?_
      exact aJx (kX12_costOf_52 hX hr hlk hRf hRl fuel _ _ _ _ _ hG  hf) (And.intro rfl (And.intro rfl (And.intro rfl (And.intro rfl (rfl)))))
    · have hf := ifn hc hf
      refine j_iload_n hX dX12_costOf_12 rfl ?_
      refine j_iload_n hX dX12_costOf_13 rfl ?_
      refine j_iload_n hX dX12_costOf_14 rfl ?_
      obtain ⟨v1, hh2, hf⟩ := bd1 hf
      refine j_cS2i hX lk_X12_232 dX12_costOf_15 (okX12_has hG hh2) rfl rfl (rmm (by omega) hRf hRl (by decide)) (Nat.le_of_ble_eq_true rfl) (Nat.le_add_right _ _) (Nat.le_add_right _ _) ?_
      refine j_if_eq (tgt := 41) hX dX12_costOf_18 (by decide) (fun hc => ?_) (fun hc => ?_)
      · have hf := ifp hc hf
        refine j_iconst hX dX12_costOf_41 ic_0 ?_
        exact aJx (kX12_costOf_42 hX hr hlk hRf hRl ih hG  hf) (And.intro rfl (And.intro rfl (And.intro rfl (rfl))))
      · have hf := ifn hc hf
        refine j_aload_n hX dX12_costOf_21 rfl ?_
        obtain ⟨v3, hh4, hf⟩ := bd1 hf
        refine j_cV0i hX lk_X12_427 kX12 dX12_costOf_22 (sh_50 hG) (okX12_weights hG hh4) rfl rfl (rmm (by omega) hRf hRl (by decide)) (Nat.le_of_ble_eq_true rfl) (Nat.le_add_right _ _) (Nat.le_add_right _ _) ?_
        refine j_aload_n hX dX12_costOf_25 rfl ?_
        refine j_aload_n hX dX12_costOf_26 rfl ?_
        refine j_getR (k := 33) hX kX12 (by decide) fk_X12_61 (rf_50_33 hG) dX12_costOf_27 (sh_50 hG) rfl ?_
        refine jpc (b := 30) rfl ?_
        refine j_iload_n hX dX12_costOf_30 rfl ?_
        refine j_iconst hX dX12_costOf_31 ic_0 ?_
        refine j_bipush hX dX12_costOf_32 bp_9 ?_
        obtain ⟨v5, i6, rv7, hh8, hf⟩ := bd3 hf
        refine j_cV4i hX lk_X12_329 kX12 dX12_costOf_34 (sh_50 hG) (okX12_sleepOf hG (sh_63 hG) hh8) rfl rfl (rmm (by omega) hRf hRl (by decide)) (Nat.le_of_ble_eq_true rfl) (Nat.le_add_right _ _) (Nat.le_add_right _ _) ?_
        have hG := gdX12_sleepOf hG (sh_63 hG) hh8
        refine j_imul hX dX12_costOf_37 ?_
        refine j_goto (tgt := 42) hX dX12_costOf_38 (by decide) ?_
        exact aJx (kX12_costOf_42 hX hr hlk hRf hRl ih hG  hf) (And.intro rfl (And.intro rfl (And.intro rfl (rfl))))
theorem gX12_costOf_4 {vR : Int32} {iR : Nat → Nat → Int32} {rvR : Nat → Nat → Option Nat} : ∀ (n : Nat) (x1 : Int32) (x2 : Int32) (x3 : Int32) (i : Nat → Nat → Int32) (rv : Nat → Nat → Option Nat), aGood sh rv → fX12_costOf_4 n x1 x2 x3 i rv = some (vR, iR, rvR) → aGood sh rvR := by
  intro n
  induction n with
  | zero => intros; rename_i hf; cases hf
  | succ n ih =>
    intro x1 x2 x3 i rv hG hf
    rw [fX12_costOf_4] at hf
    refine ifs hf (fun hc hf => ?_) (fun hc hf => ?_)
    · have hf := hf
      exact gX12_costOf_52 fuel _ _ _ _ _ hG  hf
    · have hf := hf
      obtain ⟨v1, hh2, hf⟩ := bd1 hf
      refine ifs hf (fun hc hf => ?_) (fun hc hf => ?_)
      · have hf := hf
        exact gX12_costOf_42 ih hG  hf
      · have hf := hf
        obtain ⟨v3, hh4, hf⟩ := bd1 hf
        obtain ⟨v5, i6, rv7, hh8, hf⟩ := bd3 hf
        have hG := gdX12_sleepOf hG (sh_63 hG) hh8
        exact gX12_costOf_42 ih hG  hf
def fX12_costOf (a1 : Int32) (i : Nat → Nat → Int32) (rv : Nat → Nat → Option Nat) : Option ((Int32) × (Nat → Nat → Int32) × (Nat → Nat → Option Nat)) := fX12_costOf_4 fuel a1 0 0 i rv
theorem kX12_costOf  {vR : Int32} {iR : Nat → Nat → Int32} {rvR : Nat → Nat → Option Nat} (hX : aX p s m args c RX12 cX12_costOf 5 D cA A ad0) (hr : meth.sig.returnType = (some .int)) (hlk : meth.locks = false) (hRf : 1149 ≤ R.frames) (hRl : 64 * 1149 ≤ R.locals) {a1 : Int32} (hG : aGood sh rv) (hf : fX12_costOf a1 i rv = some (vR, iR, rvR)) : aJ p l e R s m args below meth c (MQ below (aPost D cA ad0 A (sh, i0, lo0, rv0) (some (.int vR)) (sh, iR, lo, rvR)) args s (sh.length - sh.length) (aSn sh - aSn sh) A) D cA A ad0 5 sh.length (aSn sh) 0 [some (.ref (100 + 50)), some (.int a1), none, none, none] [] (sh, i, lo, rv) := by
  unfold fX12_costOf at hf
  refine j_iconst hX dX12_costOf_0 ic_0 ?_
  refine j_istore_n hX dX12_costOf_1 (by decide) rfl ?_
  refine j_iconst hX dX12_costOf_2 ic_0 ?_
  refine j_istore_n hX dX12_costOf_3 (by decide) rfl ?_
  exact aJx (kX12_costOf_4 hX hr hlk hRf hRl fuel _ _ _ _ _ hG  hf) (And.intro rfl (And.intro rfl (And.intro rfl (And.intro rfl (rfl)))))
theorem gdX12_costOf {vR : Int32} {iR : Nat → Nat → Int32} {rvR : Nat → Nat → Option Nat} {a1 : Int32} (hG : aGood sh rv) (hf : fX12_costOf a1 i rv = some (vR, iR, rvR)) : aGood sh rvR := by
  unfold fX12_costOf at hf
  exact gX12_costOf_4 fuel _ _ _ _ _ hG  hf
theorem okX12_costOf {l : Launch} {sh : List aSh} {i : Nat → Nat → Int32} {lo : Nat → Nat → Int64} {rv : Nat → Nat → Option Nat}  {a1 : Int32} {vR : Int32} {iR : Nat → Nat → Int32} {rvR : Nat → Nat → Option Nat} (hG : aGood sh rv) (hf : fX12_costOf a1 i rv = some (vR, iR, rvR)) : aM l yX12_costOf cX12_costOf 5 (some .int) 1149 [.ref (100 + 50), .int a1] (sh, i, lo, rv) (some (.int vR)) (sh, iR, lo, rvR) :=
  aM_of (by decide) (Nat.le_of_ble_eq_true rfl) (Nat.le_refl _) (Nat.le_refl _) (fun p e s m args below meth c D cA A ad0 hX hr hlk hnm => kX12_costOf hX hr hlk (Nat.le_refl _) (Nat.le_refl _) hG hf)
def fX12_before_67 (kh28 : Int32 → Int32 → Int32 → (Nat → Nat → Int32) → (Nat → Nat → Option Nat) → Option ((Int32) × (Nat → Nat → Int32) × (Nat → Nat → Option Nat))) (x1 : Int32) (x3 : Int32) (s0 : Int32) (s1 : Int32) (i : Nat → Nat → Int32) (rv : Nat → Nat → Option Nat) : Option ((Int32) × (Nat → Nat → Int32) × (Nat → Nat → Option Nat)) := kh28 x1 (s0 ||| s1) (x3 + 1) i rv
theorem kX12_before_67  {vR : Int32} {iR : Nat → Nat → Int32} {rvR : Nat → Nat → Option Nat} (hX : aX p s m args c RX12 cX12_before 7 D cA A ad0) (hr : meth.sig.returnType = (some .int)) (hlk : meth.locks = false) (hRf : 1150 ≤ R.frames) (hRl : 64 * 1150 ≤ R.locals) {kh28 : Int32 → Int32 → Int32 → (Nat → Nat → Int32) → (Nat → Nat → Option Nat) → Option ((Int32) × (Nat → Nat → Int32) × (Nat → Nat → Option Nat))} (Hkh28 : ∀ (x1 : Int32) (x2 : Int32) (x3 : Int32) (i : Nat → Nat → Int32) (rv : Nat → Nat → Option Nat), aGood sh rv → kh28 x1 x2 x3 i rv = some (vR, iR, rvR) → aJ p l e R s m args below meth c (MQ below (aPost D cA ad0 A (sh, i0, lo0, rv0) (some (.int vR)) (sh, iR, lo, rvR)) args s (sh.length - sh.length) (aSn sh - aSn sh) A) D cA A ad0 7 sh.length (aSn sh) 28 [some (.ref (100 + 50)), some (.int x1), some (.int x2), some (.int x3), none, none, none] [] (sh, i, lo, rv)) {x1 : Int32} {x3 : Int32} {s0 : Int32} {s1 : Int32} (hG : aGood sh rv) (hf : fX12_before_67 kh28 x1 x3 s0 s1 i rv = some (vR, iR, rvR)) : aJ p l e R s m args below meth c (MQ below (aPost D cA ad0 A (sh, i0, lo0, rv0) (some (.int vR)) (sh, iR, lo, rvR)) args s (sh.length - sh.length) (aSn sh - aSn sh) A) D cA A ad0 7 sh.length (aSn sh) 67 [some (.ref (100 + 50)), some (.int x1), none, some (.int x3), none, none, none] [.int s1, .int s0] (sh, i, lo, rv) := by
  unfold fX12_before_67 at hf
  refine j_ior hX dX12_before_67 ?_
  refine j_istore_n hX dX12_before_68 (by decide) rfl ?_
  refine j_iinc hX dX12_before_69 rfl (congrArg (_ + ·) ic_1) (by decide) rfl ?_
  refine j_goto (tgt := 28) hX dX12_before_72 (by decide) ?_
  exact aJx (Hkh28 _ _ _ _ _ hG  hf) (And.intro rfl (And.intro rfl (And.intro rfl (And.intro rfl (rfl)))))
theorem gX12_before_67 {vR : Int32} {iR : Nat → Nat → Int32} {rvR : Nat → Nat → Option Nat} {kh28 : Int32 → Int32 → Int32 → (Nat → Nat → Int32) → (Nat → Nat → Option Nat) → Option ((Int32) × (Nat → Nat → Int32) × (Nat → Nat → Option Nat))} (Hkh28 : ∀ (x1 : Int32) (x2 : Int32) (x3 : Int32) (i : Nat → Nat → Int32) (rv : Nat → Nat → Option Nat), aGood sh rv → kh28 x1 x2 x3 i rv = some (vR, iR, rvR) → aGood sh rvR) {x1 : Int32} {x3 : Int32} {s0 : Int32} {s1 : Int32} (hG : aGood sh rv) (hf : fX12_before_67 kh28 x1 x3 s0 s1 i rv = some (vR, iR, rvR)) : aGood sh rvR := by
  unfold fX12_before_67 at hf
  exact Hkh28 _ _ _ _ _ hG  hf
def fX12_before_66 (kh28 : Int32 → Int32 → Int32 → (Nat → Nat → Int32) → (Nat → Nat → Option Nat) → Option ((Int32) × (Nat → Nat → Int32) × (Nat → Nat → Option Nat))) (x1 : Int32) (x3 : Int32) (s0 : Int32) (i : Nat → Nat → Int32) (rv : Nat → Nat → Option Nat) : Option ((Int32) × (Nat → Nat → Int32) × (Nat → Nat → Option Nat)) := fX12_before_67 kh28 x1 x3 s0 0 i rv
theorem kX12_before_66  {vR : Int32} {iR : Nat → Nat → Int32} {rvR : Nat → Nat → Option Nat} (hX : aX p s m args c RX12 cX12_before 7 D cA A ad0) (hr : meth.sig.returnType = (some .int)) (hlk : meth.locks = false) (hRf : 1150 ≤ R.frames) (hRl : 64 * 1150 ≤ R.locals) {kh28 : Int32 → Int32 → Int32 → (Nat → Nat → Int32) → (Nat → Nat → Option Nat) → Option ((Int32) × (Nat → Nat → Int32) × (Nat → Nat → Option Nat))} (Hkh28 : ∀ (x1 : Int32) (x2 : Int32) (x3 : Int32) (i : Nat → Nat → Int32) (rv : Nat → Nat → Option Nat), aGood sh rv → kh28 x1 x2 x3 i rv = some (vR, iR, rvR) → aJ p l e R s m args below meth c (MQ below (aPost D cA ad0 A (sh, i0, lo0, rv0) (some (.int vR)) (sh, iR, lo, rvR)) args s (sh.length - sh.length) (aSn sh - aSn sh) A) D cA A ad0 7 sh.length (aSn sh) 28 [some (.ref (100 + 50)), some (.int x1), some (.int x2), some (.int x3), none, none, none] [] (sh, i, lo, rv)) {x1 : Int32} {x3 : Int32} {s0 : Int32} (hG : aGood sh rv) (hf : fX12_before_66 kh28 x1 x3 s0 i rv = some (vR, iR, rvR)) : aJ p l e R s m args below meth c (MQ below (aPost D cA ad0 A (sh, i0, lo0, rv0) (some (.int vR)) (sh, iR, lo, rvR)) args s (sh.length - sh.length) (aSn sh - aSn sh) A) D cA A ad0 7 sh.length (aSn sh) 66 [some (.ref (100 + 50)), some (.int x1), none, some (.int x3), none, none, none] [.int s0] (sh, i, lo, rv) := by
  unfold fX12_before_66 at hf
  refine j_iconst hX dX12_before_66 ic_0 ?_
  exact aJx (kX12_before_67 hX hr hlk hRf hRl Hkh28 hG  hf) (And.intro rfl (And.intro rfl (And.intro rfl (rfl))))
theorem gX12_before_66 {vR : Int32} {iR : Nat → Nat → Int32} {rvR : Nat → Nat → Option Nat} {kh28 : Int32 → Int32 → Int32 → (Nat → Nat → Int32) → (Nat → Nat → Option Nat) → Option ((Int32) × (Nat → Nat → Int32) × (Nat → Nat → Option Nat))} (Hkh28 : ∀ (x1 : Int32) (x2 : Int32) (x3 : Int32) (i : Nat → Nat → Int32) (rv : Nat → Nat → Option Nat), aGood sh rv → kh28 x1 x2 x3 i rv = some (vR, iR, rvR) → aGood sh rvR) {x1 : Int32} {x3 : Int32} {s0 : Int32} (hG : aGood sh rv) (hf : fX12_before_66 kh28 x1 x3 s0 i rv = some (vR, iR, rvR)) : aGood sh rvR := by
  unfold fX12_before_66 at hf
  exact gX12_before_67 Hkh28 hG  hf
def fX12_before_137 (kh83 : Int32 → Int32 → Int32 → Int32 → Int32 → (Nat → Nat → Int32) → (Nat → Nat → Option Nat) → Option ((Int32) × (Nat → Nat → Int32) × (Nat → Nat → Option Nat))) (x1 : Int32) (x2 : Int32) (x3 : Int32) (x4 : Int32) (x5 : Int32) (i : Nat → Nat → Int32) (rv : Nat → Nat → Option Nat) : Option ((Int32) × (Nat → Nat → Int32) × (Nat → Nat → Option Nat)) := kh83 x1 x2 x3 x4 (x5 + 1) i rv
theorem kX12_before_137  {vR : Int32} {iR : Nat → Nat → Int32} {rvR : Nat → Nat → Option Nat} (hX : aX p s m args c RX12 cX12_before 7 D cA A ad0) (hr : meth.sig.returnType = (some .int)) (hlk : meth.locks = false) (hRf : 1150 ≤ R.frames) (hRl : 64 * 1150 ≤ R.locals) {kh83 : Int32 → Int32 → Int32 → Int32 → Int32 → (Nat → Nat → Int32) → (Nat → Nat → Option Nat) → Option ((Int32) × (Nat → Nat → Int32) × (Nat → Nat → Option Nat))} (Hkh83 : ∀ (x1 : Int32) (x2 : Int32) (x3 : Int32) (x4 : Int32) (x5 : Int32) (i : Nat → Nat → Int32) (rv : Nat → Nat → Option Nat), aGood sh rv → kh83 x1 x2 x3 x4 x5 i rv = some (vR, iR, rvR) → aJ p l e R s m args below meth c (MQ below (aPost D cA ad0 A (sh, i0, lo0, rv0) (some (.int vR)) (sh, iR, lo, rvR)) args s (sh.length - sh.length) (aSn sh - aSn sh) A) D cA A ad0 7 sh.length (aSn sh) 83 [some (.ref (100 + 50)), some (.int x1), some (.int x2), some (.int x3), some (.int x4), some (.int x5), none] [] (sh, i, lo, rv)) {x1 : Int32} {x2 : Int32} {x3 : Int32} {x4 : Int32} {x5 : Int32} (hG : aGood sh rv) (hf : fX12_before_137 kh83 x1 x2 x3 x4 x5 i rv = some (vR, iR, rvR)) : aJ p l e R s m args below meth c (MQ below (aPost D cA ad0 A (sh, i0, lo0, rv0) (some (.int vR)) (sh, iR, lo, rvR)) args s (sh.length - sh.length) (aSn sh - aSn sh) A) D cA A ad0 7 sh.length (aSn sh) 137 [some (.ref (100 + 50)), some (.int x1), some (.int x2), some (.int x3), some (.int x4), some (.int x5), none] [] (sh, i, lo, rv) := by
  unfold fX12_before_137 at hf
  refine j_iinc hX dX12_before_137 rfl (congrArg (_ + ·) ic_1) (by decide) rfl ?_
  refine j_goto (tgt := 83) hX dX12_before_140 (by decide) ?_
  exact aJx (Hkh83 _ _ _ _ _ _ _ hG  hf) (And.intro rfl (And.intro rfl (And.intro rfl (And.intro rfl (And.intro rfl (And.intro rfl (rfl)))))))
theorem gX12_before_137 {vR : Int32} {iR : Nat → Nat → Int32} {rvR : Nat → Nat → Option Nat} {kh83 : Int32 → Int32 → Int32 → Int32 → Int32 → (Nat → Nat → Int32) → (Nat → Nat → Option Nat) → Option ((Int32) × (Nat → Nat → Int32) × (Nat → Nat → Option Nat))} (Hkh83 : ∀ (x1 : Int32) (x2 : Int32) (x3 : Int32) (x4 : Int32) (x5 : Int32) (i : Nat → Nat → Int32) (rv : Nat → Nat → Option Nat), aGood sh rv → kh83 x1 x2 x3 x4 x5 i rv = some (vR, iR, rvR) → aGood sh rvR) {x1 : Int32} {x2 : Int32} {x3 : Int32} {x4 : Int32} {x5 : Int32} (hG : aGood sh rv) (hf : fX12_before_137 kh83 x1 x2 x3 x4 x5 i rv = some (vR, iR, rvR)) : aGood sh rvR := by
  unfold fX12_before_137 at hf
  exact Hkh83 _ _ _ _ _ _ _ hG  hf
def fX12_before_130 (kh83 : Int32 → Int32 → Int32 → Int32 → Int32 → (Nat → Nat → Int32) → (Nat → Nat → Option Nat) → Option ((Int32) × (Nat → Nat → Int32) × (Nat → Nat → Option Nat))) (x1 : Int32) (x2 : Int32) (x5 : Int32) (x6 : Int32) (i : Nat → Nat → Int32) (rv : Nat → Nat → Option Nat) : Option ((Int32) × (Nat → Nat → Int32) × (Nat → Nat → Option Nat)) := fX12_before_137 kh83 x1 x2 x5 x6 x5 i rv
theorem kX12_before_130  {vR : Int32} {iR : Nat → Nat → Int32} {rvR : Nat → Nat → Option Nat} (hX : aX p s m args c RX12 cX12_before 7 D cA A ad0) (hr : meth.sig.returnType = (some .int)) (hlk : meth.locks = false) (hRf : 1150 ≤ R.frames) (hRl : 64 * 1150 ≤ R.locals) {kh83 : Int32 → Int32 → Int32 → Int32 → Int32 → (Nat → Nat → Int32) → (Nat → Nat → Option Nat) → Option ((Int32) × (Nat → Nat → Int32) × (Nat → Nat → Option Nat))} (Hkh83 : ∀ (x1 : Int32) (x2 : Int32) (x3 : Int32) (x4 : Int32) (x5 : Int32) (i : Nat → Nat → Int32) (rv : Nat → Nat → Option Nat), aGood sh rv → kh83 x1 x2 x3 x4 x5 i rv = some (vR, iR, rvR) → aJ p l e R s m args below meth c (MQ below (aPost D cA ad0 A (sh, i0, lo0, rv0) (some (.int vR)) (sh, iR, lo, rvR)) args s (sh.length - sh.length) (aSn sh - aSn sh) A) D cA A ad0 7 sh.length (aSn sh) 83 [some (.ref (100 + 50)), some (.int x1), some (.int x2), some (.int x3), some (.int x4), some (.int x5), none] [] (sh, i, lo, rv)) {x1 : Int32} {x2 : Int32} {x5 : Int32} {x6 : Int32} (hG : aGood sh rv) (hf : fX12_before_130 kh83 x1 x2 x5 x6 i rv = some (vR, iR, rvR)) : aJ p l e R s m args below meth c (MQ below (aPost D cA ad0 A (sh, i0, lo0, rv0) (some (.int vR)) (sh, iR, lo, rvR)) args s (sh.length - sh.length) (aSn sh - aSn sh) A) D cA A ad0 7 sh.length (aSn sh) 130 [some (.ref (100 + 50)), some (.int x1), some (.int x2), none, none, some (.int x5), some (.int x6)] [] (sh, i, lo, rv) := by
  unfold fX12_before_130 at hf
  refine j_iload hX dX12_before_130 rfl ?_
  refine j_istore_n hX dX12_before_132 (by decide) rfl ?_
  refine j_iload hX dX12_before_133 rfl ?_
  refine j_istore hX dX12_before_135 (by decide) rfl ?_
  exact aJx (kX12_before_137 hX hr hlk hRf hRl Hkh83 hG  hf) (And.intro rfl (And.intro rfl (And.intro rfl (And.intro rfl (And.intro rfl (And.intro rfl (rfl)))))))
theorem gX12_before_130 {vR : Int32} {iR : Nat → Nat → Int32} {rvR : Nat → Nat → Option Nat} {kh83 : Int32 → Int32 → Int32 → Int32 → Int32 → (Nat → Nat → Int32) → (Nat → Nat → Option Nat) → Option ((Int32) × (Nat → Nat → Int32) × (Nat → Nat → Option Nat))} (Hkh83 : ∀ (x1 : Int32) (x2 : Int32) (x3 : Int32) (x4 : Int32) (x5 : Int32) (i : Nat → Nat → Int32) (rv : Nat → Nat → Option Nat), aGood sh rv → kh83 x1 x2 x3 x4 x5 i rv = some (vR, iR, rvR) → aGood sh rvR) {x1 : Int32} {x2 : Int32} {x5 : Int32} {x6 : Int32} (hG : aGood sh rv) (hf : fX12_before_130 kh83 x1 x2 x5 x6 i rv = some (vR, iR, rvR)) : aGood sh rvR := by
  unfold fX12_before_130 at hf
  exact gX12_before_137 Hkh83 hG  hf
def fX12_before_152 (x3 : Int32) (i : Nat → Nat → Int32) (rv : Nat → Nat → Option Nat) : Option ((Int32) × (Nat → Nat → Int32) × (Nat → Nat → Option Nat)) := some (x3, i, rv)
theorem kX12_before_152  {vR : Int32} {iR : Nat → Nat → Int32} {rvR : Nat → Nat → Option Nat} (hX : aX p s m args c RX12 cX12_before 7 D cA A ad0) (hr : meth.sig.returnType = (some .int)) (hlk : meth.locks = false) (hRf : 1150 ≤ R.frames) (hRl : 64 * 1150 ≤ R.locals) {x3 : Int32} (hG : aGood sh rv) (hf : fX12_before_152 x3 i rv = some (vR, iR, rvR)) : aJ p l e R s m args below meth c (MQ below (aPost D cA ad0 A (sh, i0, lo0, rv0) (some (.int vR)) (sh, iR, lo, rvR)) args s (sh.length - sh.length) (aSn sh - aSn sh) A) D cA A ad0 7 sh.length (aSn sh) 152 [none, none, none, some (.int x3), none, none, none] [] (sh, i, lo, rv) := by
  unfold fX12_before_152 at hf
  refine j_iload_n hX dX12_before_152 rfl ?_
  refine j_goto (tgt := 158) hX dX12_before_153 (by decide) ?_
  cases hf
  exact j_ret hX hr hlk rfl dX12_before_158
theorem gX12_before_152 {vR : Int32} {iR : Nat → Nat → Int32} {rvR : Nat → Nat → Option Nat} {x3 : Int32} (hG : aGood sh rv) (hf : fX12_before_152 x3 i rv = some (vR, iR, rvR)) : aGood sh rvR := by
  unfold fX12_before_152 at hf
  cases hf
  exact hG
def fX12_before_83 : Nat → Int32 → Int32 → Int32 → Int32 → Int32 → (Nat → Nat → Int32) → (Nat → Nat → Option Nat) → Option ((Int32) × (Nat → Nat → Int32) × (Nat → Nat → Option Nat))
  | 0, _, _, _, _, _, _, _ => none
  | n + 1, x1, x2, x3, x4, x5, i, rv => if x2 < x5 then (if x1 = 0 then (fX12_before_152 x3 i rv) else (if x3 = (-1) then (fX12_before_152 x3 i rv) else (some (x4, i, rv)))) else (if (x5 &&& (x2 ^^^ ((-1) : Int32))) = 0 then (bn3 (fX12_costOf x5 i rv) fun v6 i7 rv8 =>
    if v6 = (-1) then (fX12_before_137 (fX12_before_83 n) x1 x2 x3 x4 x5 i7 rv8) else (if x3 = (-1) then (fX12_before_130 (fX12_before_83 n) x1 x2 x5 v6 i7 rv8) else (if v6 < x4 then (fX12_before_130 (fX12_before_83 n) x1 x2 x5 v6 i7 rv8) else (fX12_before_137 (fX12_before_83 n) x1 x2 x3 x4 x5 i7 rv8)))) else (fX12_before_137 (fX12_before_83 n) x1 x2 x3 x4 x5 i rv))
theorem kX12_before_83  {vR : Int32} {iR : Nat → Nat → Int32} {rvR : Nat → Nat → Option Nat} (hX : aX p s m args c RX12 cX12_before 7 D cA A ad0) (hr : meth.sig.returnType = (some .int)) (hlk : meth.locks = false) (hRf : 1150 ≤ R.frames) (hRl : 64 * 1150 ≤ R.locals) : ∀ (n : Nat) (x1 : Int32) (x2 : Int32) (x3 : Int32) (x4 : Int32) (x5 : Int32) (i : Nat → Nat → Int32) (rv : Nat → Nat → Option Nat), aGood sh rv → fX12_before_83 n x1 x2 x3 x4 x5 i rv = some (vR, iR, rvR) → aJ p l e R s m args below meth c (MQ below (aPost D cA ad0 A (sh, i0, lo0, rv0) (some (.int vR)) (sh, iR, lo, rvR)) args s (sh.length - sh.length) (aSn sh - aSn sh) A) D cA A ad0 7 sh.length (aSn sh) 83 [some (.ref (100 + 50)), some (.int x1), some (.int x2), some (.int x3), some (.int x4), some (.int x5), none] [] (sh, i, lo, rv) := by
  intro n
  induction n with
  | zero => intros; rename_i hf; cases hf
  | succ n ih =>
    intro x1 x2 x3 x4 x5 i rv hG hf
    rw [fX12_before_83] at hf
    refine j_iload hX dX12_before_83 rfl ?_
    refine j_iload_n hX dX12_before_85 rfl ?_
    refine j_icmp_gt (tgt := 143) hX dX12_before_86 (by decide) (fun hc => ?_) (fun hc => ?_)
    · have hf := ifp hc hf
      refine j_iload_n hX dX12_before_143 rfl ?_
      refine j_if_eq (tgt := 152) hX dX12_before_144 (by decide) (fun hc => ?_) (fun hc => ?_)
      · have hf := ifp hc hf
        exact aJx (kX12_before_152 hX hr hlk hRf hRl hG  hf) (And.intro rfl (rfl))
      · have hf := ifn hc hf
        refine j_iload_n hX dX12_before_147 rfl ?_
        refine j_iconst hX dX12_before_148 ic_m1 ?_
        refine j_icmp_ne (tgt := 156) hX dX12_before_149 (by decide) (fun hc => ?_) (fun hc => ?_)
        · have hf := ifn hc hf
          refine j_iload hX dX12_before_156 rfl ?_
          cases hf
          exact j_ret hX hr hlk rfl dX12_before_158
        · have hf := ifp hc hf
          exact aJx (kX12_before_152 hX hr hlk hRf hRl hG  hf) (And.intro rfl (rfl))
    · have hf := ifn hc hf
      refine j_iload hX dX12_before_89 rfl ?_
      refine j_iload_n hX dX12_before_91 rfl ?_
      refine j_iconst hX dX12_before_92 ic_m1 ?_
      refine j_ixor hX dX12_before_93 ?_
      refine j_iand hX dX12_before_94 ?_
      refine jpc (b := 95) rfl ?_
      refine j_if_eq (tgt := 101) hX dX12_before_95 (by decide) (fun hc => ?_) (fun hc => ?_)
      · have hf := ifp hc hf
        refine j_aload_n hX dX12_before_101 rfl ?_
        refine j_iload hX dX12_before_102 rfl ?_
        obtain ⟨v6, i7, rv8, hh9, hf⟩ := bd3 hf
        refine j_cV1i hX lk_X12_467 kX12 dX12_before_104 (sh_50 hG) (okX12_costOf hG hh9) rfl rfl (rmm (by omega) hRf hRl (by decide)) (Nat.le_of_ble_eq_true rfl) (Nat.le_add_right _ _) (Nat.le_add_right _ _) ?_
        have hG := gdX12_costOf hG hh9
        refine j_istore hX dX12_before_107 (by decide) rfl ?_
        refine j_iload hX dX12_before_109 rfl ?_
        refine jpc (b := 111) rfl ?_
        refine j_iconst hX dX12_before_111 ic_m1 ?_
        refine j_icmp_eq (tgt := 137) hX dX12_before_112 (by decide) (fun hc => ?_) (fun hc => ?_)
        · have hf := ifp hc hf
          exact aJx (kX12_before_137 hX hr hlk hRf hRl ih hG  hf) (And.intro rfl (And.intro rfl (And.intro rfl (And.intro rfl (And.intro rfl (And.intro rfl (rfl)))))))
        · have hf := ifn hc hf
          refine j_iload_n hX dX12_before_115 rfl ?_
          refine j_iconst hX dX12_before_116 ic_m1 ?_
          refine j_icmp_eq (tgt := 130) hX dX12_before_117 (by decide) (fun hc => ?_) (fun hc => ?_)
          · have hf := ifp hc hf
            exact aJx (kX12_before_130 hX hr hlk hRf hRl ih hG  hf) (And.intro rfl (And.intro rfl (And.intro rfl (And.intro rfl (And.intro rfl (rfl))))))
          · have hf := ifn hc hf
            refine j_iload hX dX12_before_120 rfl ?_
            refine j_iload hX dX12_before_122 rfl ?_
            refine j_icmp_lt (tgt := 130) hX dX12_before_124 (by decide) (fun hc => ?_) (fun hc => ?_)
            · have hf := ifp hc hf
              exact aJx (kX12_before_130 hX hr hlk hRf hRl ih hG  hf) (And.intro rfl (And.intro rfl (And.intro rfl (And.intro rfl (And.intro rfl (rfl))))))
            · have hf := ifn hc hf
              refine j_goto (tgt := 137) hX dX12_before_127 (by decide) ?_
              exact aJx (kX12_before_137 hX hr hlk hRf hRl ih hG  hf) (And.intro rfl (And.intro rfl (And.intro rfl (And.intro rfl (And.intro rfl (And.intro rfl (rfl)))))))
      · have hf := ifn hc hf
        refine j_goto (tgt := 137) hX dX12_before_98 (by decide) ?_
        exact aJx (kX12_before_137 hX hr hlk hRf hRl ih hG  hf) (And.intro rfl (And.intro rfl (And.intro rfl (And.intro rfl (And.intro rfl (And.intro rfl (rfl)))))))
theorem gX12_before_83 {vR : Int32} {iR : Nat → Nat → Int32} {rvR : Nat → Nat → Option Nat} : ∀ (n : Nat) (x1 : Int32) (x2 : Int32) (x3 : Int32) (x4 : Int32) (x5 : Int32) (i : Nat → Nat → Int32) (rv : Nat → Nat → Option Nat), aGood sh rv → fX12_before_83 n x1 x2 x3 x4 x5 i rv = some (vR, iR, rvR) → aGood sh rvR := by
  intro n
  induction n with
  | zero => intros; rename_i hf; cases hf
  | succ n ih =>
    intro x1 x2 x3 x4 x5 i rv hG hf
    rw [fX12_before_83] at hf
    refine ifs hf (fun hc hf => ?_) (fun hc hf => ?_)
    · have hf := hf
      refine ifs hf (fun hc hf => ?_) (fun hc hf => ?_)
      · have hf := hf
        exact gX12_before_152 hG  hf
      · have hf := hf
        refine ifs2 hf (fun hc hf => ?_) (fun hc hf => ?_)
        · have hf := hf
          cases hf
          exact hG
        · have hf := hf
          exact gX12_before_152 hG  hf
    · have hf := hf
      refine ifs hf (fun hc hf => ?_) (fun hc hf => ?_)
      · have hf := hf
        obtain ⟨v6, i7, rv8, hh9, hf⟩ := bd3 hf
        have hG := gdX12_costOf hG hh9
        refine ifs hf (fun hc hf => ?_) (fun hc hf => ?_)
        · have hf := hf
          exact gX12_before_137 ih hG  hf
        · have hf := hf
          refine ifs hf (fun hc hf => ?_) (fun hc hf => ?_)
          · have hf := hf
            exact gX12_before_130 ih hG  hf
          · have hf := hf
            refine ifs hf (fun hc hf => ?_) (fun hc hf => ?_)
            · have hf := hf
              exact gX12_before_130 ih hG  hf
            · have hf := hf
              exact gX12_before_137 ih hG  hf
      · have hf := hf
        exact gX12_before_137 ih hG  hf
def fX12_before_28 : Nat → Int32 → Int32 → Int32 → (Nat → Nat → Int32) → (Nat → Nat → Option Nat) → Option ((Int32) × (Nat → Nat → Int32) × (Nat → Nat → Option Nat))
  | 0, _, _, _, _, _ => none
  | n + 1, x1, x2, x3, i, rv => if (i 50 26) ≤ x3 then (fX12_before_83 fuel x1 x2 (-1) 0 0 i rv) else (bn1 (fX12_isChild x3 i) fun v4 =>
    if v4 = 0 then (if aIn (((6 : Int32) * x3) + (3 : Int32)) 296 = true then
    (if (i 63 ((((6 : Int32) * x3) + (3 : Int32)) : Int32).toNatClampNeg) = 1 then (fX12_before_67 (fX12_before_28 n) x1 x3 x2 ((1 : Int32) <<< (x3 &&& 31)) i rv) else (fX12_before_66 (fX12_before_28 n) x1 x3 x2 i rv)) else none) else (fX12_before_66 (fX12_before_28 n) x1 x3 x2 i rv))
theorem kX12_before_28  {vR : Int32} {iR : Nat → Nat → Int32} {rvR : Nat → Nat → Option Nat} (hX : aX p s m args c RX12 cX12_before 7 D cA A ad0) (hr : meth.sig.returnType = (some .int)) (hlk : meth.locks = false) (hRf : 1150 ≤ R.frames) (hRl : 64 * 1150 ≤ R.locals) : ∀ (n : Nat) (x1 : Int32) (x2 : Int32) (x3 : Int32) (i : Nat → Nat → Int32) (rv : Nat → Nat → Option Nat), aGood sh rv → fX12_before_28 n x1 x2 x3 i rv = some (vR, iR, rvR) → aJ p l e R s m args below meth c (MQ below (aPost D cA ad0 A (sh, i0, lo0, rv0) (some (.int vR)) (sh, iR, lo, rvR)) args s (sh.length - sh.length) (aSn sh - aSn sh) A) D cA A ad0 7 sh.length (aSn sh) 28 [some (.ref (100 + 50)), some (.int x1), some (.int x2), some (.int x3), none, none, none] [] (sh, i, lo, rv) := by
  intro n
  induction n with
  | zero => intros; rename_i hf; cases hf
  | succ n ih =>
    intro x1 x2 x3 i rv hG hf
    rw [fX12_before_28] at hf
    refine j_iload_n hX dX12_before_28 rfl ?_
    refine j_aload_n hX dX12_before_29 rfl ?_
    refine j_getI (k := 26) hX kX12 (by decide) fk_X12_297 dX12_before_30 (sh_50 hG) rfl ?_
    refine j_icmp_ge (tgt := 75) hX dX12_before_33 (by decide) (fun hc => ?_) (fun hc => ?_)
    · have hf := ifp hc hf
      refine j_iconst hX dX12_before_75 ic_m1 ?_
      refine j_istore_n hX dX12_before_76 (by decide) rfl ?_
      refine j_iconst hX dX12_before_77 ic_0 ?_
      refine j_istore hX dX12_before_78 (by decide) rfl ?_
      refine j_iconst hX dX12_before_80 ic_0 ?_
      refine jpc (b := 81) rfl ?_
      refine j_istore hX dX12_before_81 (by decide) rfl ?_
      exact aJx (kX12_before_83 hX hr hlk hRf hRl fuel _ _ _ _ _ _ _ hG  hf) (And.intro rfl (And.intro rfl (And.intro rfl (And.intro rfl (And.intro rfl (And.intro rfl (rfl)))))))
    · have hf := ifn hc hf
      refine j_iload_n hX dX12_before_36 rfl ?_
      refine j_aload_n hX dX12_before_37 rfl ?_
      refine j_iload_n hX dX12_before_38 rfl ?_
      obtain ⟨v4, hh5, hf⟩ := bd1 hf
      refine j_cV1i hX lk_X12_379 kX12 dX12_before_39 (sh_50 hG) (okX12_isChild hG hh5) rfl rfl (rmm (by omega) hRf hRl (by decide)) (Nat.le_of_ble_eq_true rfl) (Nat.le_add_right _ _) (Nat.le_add_right _ _) ?_
      refine j_if_ne (tgt := 66) hX dX12_before_42 (by decide) (fun hc => ?_) (fun hc => ?_)
      · have hf := ifn hc hf
        exact aJx (kX12_before_66 hX hr hlk hRf hRl ih hG  hf) (And.intro rfl (And.intro rfl (And.intro rfl (rfl))))
      · have hf := ifp hc hf
        refine j_aload_n hX dX12_before_45 rfl ?_
        refine j_getR (k := 33) hX kX12 (by decide) fk_X12_61 (rf_50_33 hG) dX12_before_46 (sh_50 hG) rfl ?_
        refine j_bipush hX dX12_before_49 bp_6 ?_
        refine j_iload_n hX dX12_before_51 rfl ?_
        refine j_imul hX dX12_before_52 ?_
        refine jpc (b := 53) rfl ?_
        refine j_iconst hX dX12_before_53 ic_3 ?_
        refine j_iadd hX dX12_before_54 ?_
        obtain ⟨hg, hf⟩ := gd hf
        refine j_iald hX (sh_63 hG) hg dX12_before_55 ?_
        refine j_iconst hX dX12_before_56 ic_1 ?_
        refine j_icmp_ne (tgt := 66) hX dX12_before_57 (by decide) (fun hc => ?_) (fun hc => ?_)
        · have hf := ifn hc hf
          exact aJx (kX12_before_66 hX hr hlk hRf hRl ih hG  hf) (And.intro rfl (And.intro rfl (And.intro rfl (rfl))))
        · have hf := ifp hc hf
          refine j_iconst hX dX12_before_60 ic_1 ?_
          refine j_iload_n hX dX12_before_61 rfl ?_
          refine j_ishl hX dX12_before_62 ?_
          refine j_goto (tgt := 67) hX dX12_before_63 (by decide) ?_
          exact aJx (kX12_before_67 hX hr hlk hRf hRl ih hG  hf) (And.intro rfl (And.intro rfl (And.intro rfl (rfl))))
theorem gX12_before_28 {vR : Int32} {iR : Nat → Nat → Int32} {rvR : Nat → Nat → Option Nat} : ∀ (n : Nat) (x1 : Int32) (x2 : Int32) (x3 : Int32) (i : Nat → Nat → Int32) (rv : Nat → Nat → Option Nat), aGood sh rv → fX12_before_28 n x1 x2 x3 i rv = some (vR, iR, rvR) → aGood sh rvR := by
  intro n
  induction n with
  | zero => intros; rename_i hf; cases hf
  | succ n ih =>
    intro x1 x2 x3 i rv hG hf
    rw [fX12_before_28] at hf
    refine ifs hf (fun hc hf => ?_) (fun hc hf => ?_)
    · have hf := hf
      exact gX12_before_83 fuel _ _ _ _ _ _ _ hG  hf
    · have hf := hf
      obtain ⟨v4, hh5, hf⟩ := bd1 hf
      refine ifs2 hf (fun hc hf => ?_) (fun hc hf => ?_)
      · have hf := hf
        exact gX12_before_66 ih hG  hf
      · have hf := hf
        obtain ⟨hg, hf⟩ := gd hf
        refine ifs2 hf (fun hc hf => ?_) (fun hc hf => ?_)
        · have hf := hf
          exact gX12_before_66 ih hG  hf
        · have hf := hf
          exact gX12_before_67 ih hG  hf
def fX12_before (a1 : Int32) (i : Nat → Nat → Int32) (rv : Nat → Nat → Option Nat) : Option ((Int32) × (Nat → Nat → Int32) × (Nat → Nat → Option Nat)) := lt (u2 i 50 0 0) fun i1 =>
    if (i1 50 26) = 0 then (some ((-1), i1, rv)) else (bn1 (fX12_isIn (a1 : Int32).toInt64 0 1) fun v2 =>
    if v2 = 0 then (some ((-1), i1, rv)) else (fX12_before_28 fuel a1 0 0 i1 rv))
theorem kX12_before  {vR : Int32} {iR : Nat → Nat → Int32} {rvR : Nat → Nat → Option Nat} (hX : aX p s m args c RX12 cX12_before 7 D cA A ad0) (hr : meth.sig.returnType = (some .int)) (hlk : meth.locks = false) (hRf : 1150 ≤ R.frames) (hRl : 64 * 1150 ≤ R.locals) {a1 : Int32} (hG : aGood sh rv) (hf : fX12_before a1 i rv = some (vR, iR, rvR)) : aJ p l e R s m args below meth c (MQ below (aPost D cA ad0 A (sh, i0, lo0, rv0) (some (.int vR)) (sh, iR, lo, rvR)) args s (sh.length - sh.length) (aSn sh - aSn sh) A) D cA A ad0 7 sh.length (aSn sh) 0 [some (.ref (100 + 50)), some (.int a1), none, none, none, none, none] [] (sh, i, lo, rv) := by
  unfold fX12_before at hf
  refine j_aload_n hX dX12_before_0 rfl ?_
  refine j_iconst hX dX12_before_1 ic_0 ?_
  have hf := ltd hf
  refine j_putI (k := 0) hX kX12 (by decide) fk_X12_99 dX12_before_2 (sh_50 hG) rfl rfl rfl rfl ?_
  refine j_aload_n hX dX12_before_5 rfl ?_
  refine j_getI (k := 26) hX kX12 (by decide) fk_X12_297 dX12_before_6 (sh_50 hG) rfl ?_
  refine jpc (b := 9) rfl ?_
  refine j_if_eq (tgt := 22) hX dX12_before_9 (by decide) (fun hc => ?_) (fun hc => ?_)
  · have hf := ifp hc hf
    refine j_iconst hX dX12_before_22 ic_m1 ?_
    cases hf
    exact j_ret hX hr hlk rfl dX12_before_23
  · have hf := ifn hc hf
    refine j_iload_n hX dX12_before_12 rfl ?_
    refine j_i2l hX dX12_before_13 ?_
    refine j_lconst (v := 0) hX dX12_before_14 (by decide) ?_
    refine j_lconst (v := 1) hX dX12_before_15 (by decide) ?_
    obtain ⟨v2, hh3, hf⟩ := bd1 hf
    refine j_cS3i hX lk_X12_220 dX12_before_16 (okX12_isIn hG hh3) rfl rfl (rmm (by omega) hRf hRl (by decide)) (Nat.le_of_ble_eq_true rfl) (Nat.le_add_right _ _) (Nat.le_add_right _ _) ?_
    refine jpc (b := 19) rfl ?_
    refine j_if_ne (tgt := 24) hX dX12_before_19 (by decide) (fun hc => ?_) (fun hc => ?_)
    · have hf := ifn hc hf
      refine j_iconst hX dX12_before_24 ic_0 ?_
      refine j_istore_n hX dX12_before_25 (by decide) rfl ?_
      refine j_iconst hX dX12_before_26 ic_0 ?_
      refine j_istore_n hX dX12_before_27 (by decide) rfl ?_
      exact aJx (kX12_before_28 hX hr hlk hRf hRl fuel _ _ _ _ _ hG  hf) (And.intro rfl (And.intro rfl (And.intro rfl (And.intro rfl (rfl)))))
    · have hf := ifp hc hf
      refine j_iconst hX dX12_before_22 ic_m1 ?_
      cases hf
      exact j_ret hX hr hlk rfl dX12_before_23
theorem gdX12_before {vR : Int32} {iR : Nat → Nat → Int32} {rvR : Nat → Nat → Option Nat} {a1 : Int32} (hG : aGood sh rv) (hf : fX12_before a1 i rv = some (vR, iR, rvR)) : aGood sh rvR := by
  unfold fX12_before at hf
  have hf := ltd hf
  refine ifs hf (fun hc hf => ?_) (fun hc hf => ?_)
  · have hf := hf
    cases hf
    exact hG
  · have hf := hf
    obtain ⟨v2, hh3, hf⟩ := bd1 hf
    refine ifs2 hf (fun hc hf => ?_) (fun hc hf => ?_)
    · have hf := hf
      exact gX12_before_28 fuel _ _ _ _ _ hG  hf
    · have hf := hf
      cases hf
      exact hG
theorem okX12_before {l : Launch} {sh : List aSh} {i : Nat → Nat → Int32} {lo : Nat → Nat → Int64} {rv : Nat → Nat → Option Nat}  {a1 : Int32} {vR : Int32} {iR : Nat → Nat → Int32} {rvR : Nat → Nat → Option Nat} (hG : aGood sh rv) (hf : fX12_before a1 i rv = some (vR, iR, rvR)) : aM l yX12_before cX12_before 7 (some .int) 1150 [.ref (100 + 50), .int a1] (sh, i, lo, rv) (some (.int vR)) (sh, iR, lo, rvR) :=
  aM_of (by decide) (Nat.le_of_ble_eq_true rfl) (Nat.le_refl _) (Nat.le_refl _) (fun p e s m args below meth c D cA A ad0 hX hr hlk hnm => kX12_before hX hr hlk (Nat.le_refl _) (Nat.le_refl _) hG hf)
def fX12_words_74 (kh31 : Int32 → Int32 → Int32 → Int32 → (Nat → Nat → Int32) → Option ((Int32) × (Nat → Nat → Int32))) (x1 : Int32) (x2 : Int32) (x3 : Int32) (x4 : Int32) (i : Nat → Nat → Int32) : Option ((Int32) × (Nat → Nat → Int32)) := kh31 x1 x2 x3 (x4 + 1) i
theorem kX12_words_74  {vR : Int32} {iR : Nat → Nat → Int32} (hX : aX p s m args c RX12 cX12_words 11 D cA A ad0) (hr : meth.sig.returnType = (some .int)) (hlk : meth.locks = false) (hRf : 3 ≤ R.frames) (hRl : 64 * 3 ≤ R.locals) {kh31 : Int32 → Int32 → Int32 → Int32 → (Nat → Nat → Int32) → Option ((Int32) × (Nat → Nat → Int32))} (Hkh31 : ∀ (x1 : Int32) (x2 : Int32) (x3 : Int32) (x4 : Int32) (i : Nat → Nat → Int32), aGood sh rv → kh31 x1 x2 x3 x4 i = some (vR, iR) → aJ p l e R s m args below meth c (MQ below (aPost D cA ad0 A (sh, i0, lo0, rv0) (some (.int vR)) (sh, iR, lo, rv)) args s (sh.length - sh.length) (aSn sh - aSn sh) A) D cA A ad0 11 sh.length (aSn sh) 31 [some (.ref (100 + 50)), some (.int x1), some (.int x2), some (.int x3), some (.int x4), none, none, none, none, none, none] [] (sh, i, lo, rv)) {x1 : Int32} {x2 : Int32} {x3 : Int32} {x4 : Int32} (hG : aGood sh rv) (hf : fX12_words_74 kh31 x1 x2 x3 x4 i = some (vR, iR)) : aJ p l e R s m args below meth c (MQ below (aPost D cA ad0 A (sh, i0, lo0, rv0) (some (.int vR)) (sh, iR, lo, rv)) args s (sh.length - sh.length) (aSn sh - aSn sh) A) D cA A ad0 11 sh.length (aSn sh) 74 [some (.ref (100 + 50)), some (.int x1), some (.int x2), some (.int x3), some (.int x4), none, none, none, none, none, none] [] (sh, i, lo, rv) := by
  unfold fX12_words_74 at hf
  refine j_iinc hX dX12_words_74 rfl (congrArg (_ + ·) ic_1) (by decide) rfl ?_
  refine j_goto (tgt := 31) hX dX12_words_77 (by decide) ?_
  exact aJx (Hkh31 _ _ _ _ _ hG  hf) (And.intro rfl (And.intro rfl (And.intro rfl (And.intro rfl (And.intro rfl (rfl))))))
def fX12_words_202 (kh95 : Int32 → Int32 → Int32 → Int32 → Int32 → (Nat → Nat → Int32) → Option ((Int32) × (Nat → Nat → Int32))) (kh121 : Int32 → Int32 → Int32 → Int32 → Int32 → Int32 → Int32 → Int32 → (Nat → Nat → Int32) → Option ((Int32) × (Nat → Nat → Int32))) (x1 : Int32) (x3 : Int32) (x4 : Int32) (x5 : Int32) (x6 : Int32) (x7 : Int32) (x8 : Int32) (x9 : Int32) (i : Nat → Nat → Int32) : Option ((Int32) × (Nat → Nat → Int32)) := kh121 x1 x3 x4 x5 x6 x7 x8 (x9 + 1) i
theorem kX12_words_202  {vR : Int32} {iR : Nat → Nat → Int32} (hX : aX p s m args c RX12 cX12_words 11 D cA A ad0) (hr : meth.sig.returnType = (some .int)) (hlk : meth.locks = false) (hRf : 3 ≤ R.frames) (hRl : 64 * 3 ≤ R.locals) {kh95 : Int32 → Int32 → Int32 → Int32 → Int32 → (Nat → Nat → Int32) → Option ((Int32) × (Nat → Nat → Int32))} {kh121 : Int32 → Int32 → Int32 → Int32 → Int32 → Int32 → Int32 → Int32 → (Nat → Nat → Int32) → Option ((Int32) × (Nat → Nat → Int32))} (Hkh95 : ∀ (x1 : Int32) (x3 : Int32) (x4 : Int32) (x5 : Int32) (x6 : Int32) (i : Nat → Nat → Int32), aGood sh rv → kh95 x1 x3 x4 x5 x6 i = some (vR, iR) → aJ p l e R s m args below meth c (MQ below (aPost D cA ad0 A (sh, i0, lo0, rv0) (some (.int vR)) (sh, iR, lo, rv)) args s (sh.length - sh.length) (aSn sh - aSn sh) A) D cA A ad0 11 sh.length (aSn sh) 95 [some (.ref (100 + 50)), some (.int x1), none, some (.int x3), some (.int x4), some (.int x5), some (.int x6), none, none, none, none] [] (sh, i, lo, rv)) (Hkh121 : ∀ (x1 : Int32) (x3 : Int32) (x4 : Int32) (x5 : Int32) (x6 : Int32) (x7 : Int32) (x8 : Int32) (x9 : Int32) (i : Nat → Nat → Int32), aGood sh rv → kh121 x1 x3 x4 x5 x6 x7 x8 x9 i = some (vR, iR) → aJ p l e R s m args below meth c (MQ below (aPost D cA ad0 A (sh, i0, lo0, rv0) (some (.int vR)) (sh, iR, lo, rv)) args s (sh.length - sh.length) (aSn sh - aSn sh) A) D cA A ad0 11 sh.length (aSn sh) 121 [some (.ref (100 + 50)), some (.int x1), none, some (.int x3), some (.int x4), some (.int x5), some (.int x6), some (.int x7), some (.int x8), some (.int x9), none] [] (sh, i, lo, rv)) {x1 : Int32} {x3 : Int32} {x4 : Int32} {x5 : Int32} {x6 : Int32} {x7 : Int32} {x8 : Int32} {x9 : Int32} (hG : aGood sh rv) (hf : fX12_words_202 kh95 kh121 x1 x3 x4 x5 x6 x7 x8 x9 i = some (vR, iR)) : aJ p l e R s m args below meth c (MQ below (aPost D cA ad0 A (sh, i0, lo0, rv0) (some (.int vR)) (sh, iR, lo, rv)) args s (sh.length - sh.length) (aSn sh - aSn sh) A) D cA A ad0 11 sh.length (aSn sh) 202 [some (.ref (100 + 50)), some (.int x1), none, some (.int x3), some (.int x4), some (.int x5), some (.int x6), some (.int x7), some (.int x8), some (.int x9), none] [] (sh, i, lo, rv) := by
  unfold fX12_words_202 at hf
  refine j_iinc hX dX12_words_202 rfl (congrArg (_ + ·) ic_1) (by decide) rfl ?_
  refine j_goto (tgt := 121) hX dX12_words_205 (by decide) ?_
  exact aJx (Hkh121 _ _ _ _ _ _ _ _ _ hG  hf) (And.intro rfl (And.intro rfl (And.intro rfl (And.intro rfl (And.intro rfl (And.intro rfl (And.intro rfl (And.intro rfl (And.intro rfl (rfl))))))))))
def fX12_words_296 (kh95 : Int32 → Int32 → Int32 → Int32 → Int32 → (Nat → Nat → Int32) → Option ((Int32) × (Nat → Nat → Int32))) (kh249 : Int32 → Int32 → Int32 → Int32 → Int32 → Int32 → Int32 → Int32 → (Nat → Nat → Int32) → Option ((Int32) × (Nat → Nat → Int32))) (x1 : Int32) (x3 : Int32) (x4 : Int32) (x5 : Int32) (x6 : Int32) (x7 : Int32) (x10 : Int32) (s0 : Int32) (s1 : Int32) (i : Nat → Nat → Int32) : Option ((Int32) × (Nat → Nat → Int32)) := kh249 x1 x3 x4 x5 x6 x7 (s0 + s1) (x10 + 1) i
theorem kX12_words_296  {vR : Int32} {iR : Nat → Nat → Int32} (hX : aX p s m args c RX12 cX12_words 11 D cA A ad0) (hr : meth.sig.returnType = (some .int)) (hlk : meth.locks = false) (hRf : 3 ≤ R.frames) (hRl : 64 * 3 ≤ R.locals) {kh95 : Int32 → Int32 → Int32 → Int32 → Int32 → (Nat → Nat → Int32) → Option ((Int32) × (Nat → Nat → Int32))} {kh249 : Int32 → Int32 → Int32 → Int32 → Int32 → Int32 → Int32 → Int32 → (Nat → Nat → Int32) → Option ((Int32) × (Nat → Nat → Int32))} (Hkh95 : ∀ (x1 : Int32) (x3 : Int32) (x4 : Int32) (x5 : Int32) (x6 : Int32) (i : Nat → Nat → Int32), aGood sh rv → kh95 x1 x3 x4 x5 x6 i = some (vR, iR) → aJ p l e R s m args below meth c (MQ below (aPost D cA ad0 A (sh, i0, lo0, rv0) (some (.int vR)) (sh, iR, lo, rv)) args s (sh.length - sh.length) (aSn sh - aSn sh) A) D cA A ad0 11 sh.length (aSn sh) 95 [some (.ref (100 + 50)), some (.int x1), none, some (.int x3), some (.int x4), some (.int x5), some (.int x6), none, none, none, none] [] (sh, i, lo, rv)) (Hkh249 : ∀ (x1 : Int32) (x3 : Int32) (x4 : Int32) (x5 : Int32) (x6 : Int32) (x7 : Int32) (x9 : Int32) (x10 : Int32) (i : Nat → Nat → Int32), aGood sh rv → kh249 x1 x3 x4 x5 x6 x7 x9 x10 i = some (vR, iR) → aJ p l e R s m args below meth c (MQ below (aPost D cA ad0 A (sh, i0, lo0, rv0) (some (.int vR)) (sh, iR, lo, rv)) args s (sh.length - sh.length) (aSn sh - aSn sh) A) D cA A ad0 11 sh.length (aSn sh) 249 [some (.ref (100 + 50)), some (.int x1), none, some (.int x3), some (.int x4), some (.int x5), some (.int x6), some (.int x7), none, some (.int x9), some (.int x10)] [] (sh, i, lo, rv)) {x1 : Int32} {x3 : Int32} {x4 : Int32} {x5 : Int32} {x6 : Int32} {x7 : Int32} {x10 : Int32} {s0 : Int32} {s1 : Int32} (hG : aGood sh rv) (hf : fX12_words_296 kh95 kh249 x1 x3 x4 x5 x6 x7 x10 s0 s1 i = some (vR, iR)) : aJ p l e R s m args below meth c (MQ below (aPost D cA ad0 A (sh, i0, lo0, rv0) (some (.int vR)) (sh, iR, lo, rv)) args s (sh.length - sh.length) (aSn sh - aSn sh) A) D cA A ad0 11 sh.length (aSn sh) 296 [some (.ref (100 + 50)), some (.int x1), none, some (.int x3), some (.int x4), some (.int x5), some (.int x6), some (.int x7), none, none, some (.int x10)] [.int s1, .int s0] (sh, i, lo, rv) := by
  unfold fX12_words_296 at hf
  refine j_iadd hX dX12_words_296 ?_
  refine j_istore hX dX12_words_297 (by decide) rfl ?_
  refine j_iinc hX dX12_words_299 rfl (congrArg (_ + ·) ic_1) (by decide) rfl ?_
  refine j_goto (tgt := 249) hX dX12_words_302 (by decide) ?_
  exact aJx (Hkh249 _ _ _ _ _ _ _ _ _ hG  hf) (And.intro rfl (And.intro rfl (And.intro rfl (And.intro rfl (And.intro rfl (And.intro rfl (And.intro rfl (And.intro rfl (And.intro rfl (rfl))))))))))
def fX12_words_371 (kh95 : Int32 → Int32 → Int32 → Int32 → Int32 → (Nat → Nat → Int32) → Option ((Int32) × (Nat → Nat → Int32))) (x1 : Int32) (x3 : Int32) (x4 : Int32) (x5 : Int32) (x6 : Int32) (i : Nat → Nat → Int32) : Option ((Int32) × (Nat → Nat → Int32)) := kh95 x1 x3 x4 x5 (x6 + 1) i
theorem kX12_words_371  {vR : Int32} {iR : Nat → Nat → Int32} (hX : aX p s m args c RX12 cX12_words 11 D cA A ad0) (hr : meth.sig.returnType = (some .int)) (hlk : meth.locks = false) (hRf : 3 ≤ R.frames) (hRl : 64 * 3 ≤ R.locals) {kh95 : Int32 → Int32 → Int32 → Int32 → Int32 → (Nat → Nat → Int32) → Option ((Int32) × (Nat → Nat → Int32))} (Hkh95 : ∀ (x1 : Int32) (x3 : Int32) (x4 : Int32) (x5 : Int32) (x6 : Int32) (i : Nat → Nat → Int32), aGood sh rv → kh95 x1 x3 x4 x5 x6 i = some (vR, iR) → aJ p l e R s m args below meth c (MQ below (aPost D cA ad0 A (sh, i0, lo0, rv0) (some (.int vR)) (sh, iR, lo, rv)) args s (sh.length - sh.length) (aSn sh - aSn sh) A) D cA A ad0 11 sh.length (aSn sh) 95 [some (.ref (100 + 50)), some (.int x1), none, some (.int x3), some (.int x4), some (.int x5), some (.int x6), none, none, none, none] [] (sh, i, lo, rv)) {x1 : Int32} {x3 : Int32} {x4 : Int32} {x5 : Int32} {x6 : Int32} (hG : aGood sh rv) (hf : fX12_words_371 kh95 x1 x3 x4 x5 x6 i = some (vR, iR)) : aJ p l e R s m args below meth c (MQ below (aPost D cA ad0 A (sh, i0, lo0, rv0) (some (.int vR)) (sh, iR, lo, rv)) args s (sh.length - sh.length) (aSn sh - aSn sh) A) D cA A ad0 11 sh.length (aSn sh) 371 [some (.ref (100 + 50)), some (.int x1), none, some (.int x3), some (.int x4), some (.int x5), some (.int x6), none, none, none, none] [] (sh, i, lo, rv) := by
  unfold fX12_words_371 at hf
  refine j_iinc hX dX12_words_371 rfl (congrArg (_ + ·) ic_1) (by decide) rfl ?_
  refine j_goto (tgt := 95) hX dX12_words_374 (by decide) ?_
  exact aJx (Hkh95 _ _ _ _ _ _ hG  hf) (And.intro rfl (And.intro rfl (And.intro rfl (And.intro rfl (And.intro rfl (And.intro rfl (rfl)))))))
def fX12_words_363 (kh95 : Int32 → Int32 → Int32 → Int32 → Int32 → (Nat → Nat → Int32) → Option ((Int32) × (Nat → Nat → Int32))) (x1 : Int32) (x3 : Int32) (x6 : Int32) (x7 : Int32) (x9 : Int32) (i : Nat → Nat → Int32) : Option ((Int32) × (Nat → Nat → Int32)) := fX12_words_371 kh95 x1 x3 x7 x9 x6 i
theorem kX12_words_363  {vR : Int32} {iR : Nat → Nat → Int32} (hX : aX p s m args c RX12 cX12_words 11 D cA A ad0) (hr : meth.sig.returnType = (some .int)) (hlk : meth.locks = false) (hRf : 3 ≤ R.frames) (hRl : 64 * 3 ≤ R.locals) {kh95 : Int32 → Int32 → Int32 → Int32 → Int32 → (Nat → Nat → Int32) → Option ((Int32) × (Nat → Nat → Int32))} (Hkh95 : ∀ (x1 : Int32) (x3 : Int32) (x4 : Int32) (x5 : Int32) (x6 : Int32) (i : Nat → Nat → Int32), aGood sh rv → kh95 x1 x3 x4 x5 x6 i = some (vR, iR) → aJ p l e R s m args below meth c (MQ below (aPost D cA ad0 A (sh, i0, lo0, rv0) (some (.int vR)) (sh, iR, lo, rv)) args s (sh.length - sh.length) (aSn sh - aSn sh) A) D cA A ad0 11 sh.length (aSn sh) 95 [some (.ref (100 + 50)), some (.int x1), none, some (.int x3), some (.int x4), some (.int x5), some (.int x6), none, none, none, none] [] (sh, i, lo, rv)) {x1 : Int32} {x3 : Int32} {x6 : Int32} {x7 : Int32} {x9 : Int32} (hG : aGood sh rv) (hf : fX12_words_363 kh95 x1 x3 x6 x7 x9 i = some (vR, iR)) : aJ p l e R s m args below meth c (MQ below (aPost D cA ad0 A (sh, i0, lo0, rv0) (some (.int vR)) (sh, iR, lo, rv)) args s (sh.length - sh.length) (aSn sh - aSn sh) A) D cA A ad0 11 sh.length (aSn sh) 363 [some (.ref (100 + 50)), some (.int x1), none, some (.int x3), none, none, some (.int x6), some (.int x7), none, some (.int x9), none] [] (sh, i, lo, rv) := by
  unfold fX12_words_363 at hf
  refine j_iload hX dX12_words_363 rfl ?_
  refine j_istore hX dX12_words_365 (by decide) rfl ?_
  refine j_iload hX dX12_words_367 rfl ?_
  refine j_istore hX dX12_words_369 (by decide) rfl ?_
  exact aJx (kX12_words_371 hX hr hlk hRf hRl Hkh95 hG  hf) (And.intro rfl (And.intro rfl (And.intro rfl (And.intro rfl (And.intro rfl (And.intro rfl (rfl)))))))
def fX12_words_308 (kh95 : Int32 → Int32 → Int32 → Int32 → Int32 → (Nat → Nat → Int32) → Option ((Int32) × (Nat → Nat → Int32))) : Nat → Int32 → Int32 → Int32 → Int32 → Int32 → Int32 → Int32 → Int32 → (Nat → Nat → Int32) → Option ((Int32) × (Nat → Nat → Int32))
  | 0, _, _, _, _, _, _, _, _, _ => none
  | n + 1, x1, x3, x4, x5, x6, x7, x9, x10, i => if (i 50 26) ≤ x10 then (if x4 = (-1) then (fX12_words_363 kh95 x1 x3 x6 x7 x9 i) else (if x9 < x5 then (fX12_words_363 kh95 x1 x3 x6 x7 x9 i) else (fX12_words_371 kh95 x1 x3 x4 x5 x6 i))) else (if aIn (((6 : Int32) * x10) + (2 : Int32)) 296 = true then
    (if aIn (((6 : Int32) * x10) + (2 : Int32)) 296 = true then
    (lt (u2 i 63 ((((6 : Int32) * x10) + (2 : Int32)) : Int32).toNatClampNeg (i 64 ((((6 : Int32) * x10) + (2 : Int32)) : Int32).toNatClampNeg)) fun i17 => fX12_words_308 kh95 n x1 x3 x4 x5 x6 x7 x9 (x10 + 1) i17) else none) else none)
theorem kX12_words_308  {vR : Int32} {iR : Nat → Nat → Int32} (hX : aX p s m args c RX12 cX12_words 11 D cA A ad0) (hr : meth.sig.returnType = (some .int)) (hlk : meth.locks = false) (hRf : 3 ≤ R.frames) (hRl : 64 * 3 ≤ R.locals) {kh95 : Int32 → Int32 → Int32 → Int32 → Int32 → (Nat → Nat → Int32) → Option ((Int32) × (Nat → Nat → Int32))} (Hkh95 : ∀ (x1 : Int32) (x3 : Int32) (x4 : Int32) (x5 : Int32) (x6 : Int32) (i : Nat → Nat → Int32), aGood sh rv → kh95 x1 x3 x4 x5 x6 i = some (vR, iR) → aJ p l e R s m args below meth c (MQ below (aPost D cA ad0 A (sh, i0, lo0, rv0) (some (.int vR)) (sh, iR, lo, rv)) args s (sh.length - sh.length) (aSn sh - aSn sh) A) D cA A ad0 11 sh.length (aSn sh) 95 [some (.ref (100 + 50)), some (.int x1), none, some (.int x3), some (.int x4), some (.int x5), some (.int x6), none, none, none, none] [] (sh, i, lo, rv)) : ∀ (n : Nat) (x1 : Int32) (x3 : Int32) (x4 : Int32) (x5 : Int32) (x6 : Int32) (x7 : Int32) (x9 : Int32) (x10 : Int32) (i : Nat → Nat → Int32), aGood sh rv → fX12_words_308 kh95 n x1 x3 x4 x5 x6 x7 x9 x10 i = some (vR, iR) → aJ p l e R s m args below meth c (MQ below (aPost D cA ad0 A (sh, i0, lo0, rv0) (some (.int vR)) (sh, iR, lo, rv)) args s (sh.length - sh.length) (aSn sh - aSn sh) A) D cA A ad0 11 sh.length (aSn sh) 308 [some (.ref (100 + 50)), some (.int x1), none, some (.int x3), some (.int x4), some (.int x5), some (.int x6), some (.int x7), none, some (.int x9), some (.int x10)] [] (sh, i, lo, rv) := by
  intro n
  induction n with
  | zero => intros; rename_i hf; cases hf
  | succ n ih =>
    intro x1 x3 x4 x5 x6 x7 x9 x10 i hG hf
    rw [fX12_words_308] at hf
    refine j_iload hX dX12_words_308 rfl ?_
    refine j_aload_n hX dX12_words_310 rfl ?_
    refine j_getI (k := 26) hX kX12 (by decide) fk_X12_297 dX12_words_311 (sh_50 hG) rfl ?_
    refine j_icmp_ge (tgt := 347) hX dX12_words_314 (by decide) (fun hc => ?_) (fun hc => ?_)
    · have hf := ifp hc hf
      refine j_iload hX dX12_words_347 rfl ?_
      refine j_iconst hX dX12_words_349 ic_m1 ?_
      refine j_icmp_eq (tgt := 363) hX dX12_words_350 (by decide) (fun hc => ?_) (fun hc => ?_)
      · have hf := ifp hc hf
        exact aJx (kX12_words_363 hX hr hlk hRf hRl Hkh95 hG  hf) (And.intro rfl (And.intro rfl (And.intro rfl (And.intro rfl (And.intro rfl (And.intro rfl (rfl)))))))
      · have hf := ifn hc hf
        refine j_iload hX dX12_words_353 rfl ?_
        refine j_iload hX dX12_words_355 rfl ?_
        refine j_icmp_lt (tgt := 363) hX dX12_words_357 (by decide) (fun hc => ?_) (fun hc => ?_)
        · have hf := ifp hc hf
          exact aJx (kX12_words_363 hX hr hlk hRf hRl Hkh95 hG  hf) (And.intro rfl (And.intro rfl (And.intro rfl (And.intro rfl (And.intro rfl (And.intro rfl (rfl)))))))
        · have hf := ifn hc hf
          refine j_goto (tgt := 371) hX dX12_words_360 (by decide) ?_
          exact aJx (kX12_words_371 hX hr hlk hRf hRl Hkh95 hG  hf) (And.intro rfl (And.intro rfl (And.intro rfl (And.intro rfl (And.intro rfl (And.intro rfl (rfl)))))))
    · have hf := ifn hc hf
      refine j_aload_n hX dX12_words_317 rfl ?_
      refine j_getR (k := 33) hX kX12 (by decide) fk_X12_61 (rf_50_33 hG) dX12_words_318 (sh_50 hG) rfl ?_
      refine j_bipush hX dX12_words_321 bp_6 ?_
      refine j_iload hX dX12_words_323 rfl ?_
      refine j_imul hX dX12_words_325 ?_
      refine jpc (b := 326) rfl ?_
      refine j_iconst hX dX12_words_326 ic_2 ?_
      refine j_iadd hX dX12_words_327 ?_
      refine j_aload_n hX dX12_words_328 rfl ?_
      refine j_getR (k := 34) hX kX12 (by decide) fk_X12_64 (rf_50_34 hG) dX12_words_329 (sh_50 hG) rfl ?_
      refine j_bipush hX dX12_words_332 bp_6 ?_
      refine j_iload hX dX12_words_334 rfl ?_
      refine jpc (b := 336) rfl ?_
      refine j_imul hX dX12_words_336 ?_
      refine j_iconst hX dX12_words_337 ic_2 ?_
      refine j_iadd hX dX12_words_338 ?_
      obtain ⟨hg, hf⟩ := gd hf
      refine j_iald hX (sh_64 hG) hg dX12_words_339 ?_
      obtain ⟨hg, hf⟩ := gd hf
      have hf := ltd hf
      refine j_iast hX (sh_63 hG) hg dX12_words_340 ?_
      refine j_iinc hX dX12_words_341 rfl (congrArg (_ + ·) ic_1) (by decide) rfl ?_
      refine j_goto (tgt := 308) hX dX12_words_344 (by decide) ?_
      exact aJx (ih _ _ _ _ _ _ _ _ _ hG  hf) (And.intro rfl (And.intro rfl (And.intro rfl (And.intro rfl (And.intro rfl (And.intro rfl (And.intro rfl (And.intro rfl (And.intro rfl (rfl))))))))))
def fX12_words_249 (kh95 : Int32 → Int32 → Int32 → Int32 → Int32 → (Nat → Nat → Int32) → Option ((Int32) × (Nat → Nat → Int32))) : Nat → Int32 → Int32 → Int32 → Int32 → Int32 → Int32 → Int32 → Int32 → (Nat → Nat → Int32) → Option ((Int32) × (Nat → Nat → Int32))
  | 0, _, _, _, _, _, _, _, _, _ => none
  | n + 1, x1, x3, x4, x5, x6, x7, x9, x10, i => if (i 50 27) ≤ x10 then (fX12_words_308 kh95 fuel x1 x3 x4 x5 x6 x7 x9 0 i) else (if aIn ((4 : Int32) * x10) 16 = true then
    (if (i 59 (((4 : Int32) * x10) : Int32).toNatClampNeg) = 0 then (fX12_words_296 kh95 (fX12_words_249 kh95 n) x1 x3 x4 x5 x6 x7 x10 x9 0 i) else (if aIn ((4 : Int32) * x10) 16 = true then
    (bn1 (fX12_tensOf x10 (i 50 28) i) fun v15 =>
    fX12_words_296 kh95 (fX12_words_249 kh95 n) x1 x3 x4 x5 x6 x7 x10 x9 ((i 59 (((4 : Int32) * x10) : Int32).toNatClampNeg) * v15) i) else none)) else none)
theorem kX12_words_249  {vR : Int32} {iR : Nat → Nat → Int32} (hX : aX p s m args c RX12 cX12_words 11 D cA A ad0) (hr : meth.sig.returnType = (some .int)) (hlk : meth.locks = false) (hRf : 3 ≤ R.frames) (hRl : 64 * 3 ≤ R.locals) {kh95 : Int32 → Int32 → Int32 → Int32 → Int32 → (Nat → Nat → Int32) → Option ((Int32) × (Nat → Nat → Int32))} (Hkh95 : ∀ (x1 : Int32) (x3 : Int32) (x4 : Int32) (x5 : Int32) (x6 : Int32) (i : Nat → Nat → Int32), aGood sh rv → kh95 x1 x3 x4 x5 x6 i = some (vR, iR) → aJ p l e R s m args below meth c (MQ below (aPost D cA ad0 A (sh, i0, lo0, rv0) (some (.int vR)) (sh, iR, lo, rv)) args s (sh.length - sh.length) (aSn sh - aSn sh) A) D cA A ad0 11 sh.length (aSn sh) 95 [some (.ref (100 + 50)), some (.int x1), none, some (.int x3), some (.int x4), some (.int x5), some (.int x6), none, none, none, none] [] (sh, i, lo, rv)) : ∀ (n : Nat) (x1 : Int32) (x3 : Int32) (x4 : Int32) (x5 : Int32) (x6 : Int32) (x7 : Int32) (x9 : Int32) (x10 : Int32) (i : Nat → Nat → Int32), aGood sh rv → fX12_words_249 kh95 n x1 x3 x4 x5 x6 x7 x9 x10 i = some (vR, iR) → aJ p l e R s m args below meth c (MQ below (aPost D cA ad0 A (sh, i0, lo0, rv0) (some (.int vR)) (sh, iR, lo, rv)) args s (sh.length - sh.length) (aSn sh - aSn sh) A) D cA A ad0 11 sh.length (aSn sh) 249 [some (.ref (100 + 50)), some (.int x1), none, some (.int x3), some (.int x4), some (.int x5), some (.int x6), some (.int x7), none, some (.int x9), some (.int x10)] [] (sh, i, lo, rv) := by
  intro n
  induction n with
  | zero => intros; rename_i hf; cases hf
  | succ n ih =>
    intro x1 x3 x4 x5 x6 x7 x9 x10 i hG hf
    rw [fX12_words_249] at hf
    refine j_iload hX dX12_words_249 rfl ?_
    refine j_aload_n hX dX12_words_251 rfl ?_
    refine j_getI (k := 27) hX kX12 (by decide) fk_X12_300 dX12_words_252 (sh_50 hG) rfl ?_
    refine j_icmp_ge (tgt := 305) hX dX12_words_255 (by decide) (fun hc => ?_) (fun hc => ?_)
    · have hf := ifp hc hf
      refine j_iconst hX dX12_words_305 ic_0 ?_
      refine j_istore hX dX12_words_306 (by decide) rfl ?_
      exact aJx (kX12_words_308 hX hr hlk hRf hRl Hkh95 fuel _ _ _ _ _ _ _ _ _ hG  hf) (And.intro rfl (And.intro rfl (And.intro rfl (And.intro rfl (And.intro rfl (And.intro rfl (And.intro rfl (And.intro rfl (And.intro rfl (rfl))))))))))
    · have hf := ifn hc hf
      refine j_iload hX dX12_words_258 rfl ?_
      refine j_aload_n hX dX12_words_260 rfl ?_
      refine j_getR (k := 22) hX kX12 (by decide) fk_X12_49 (rf_50_22 hG) dX12_words_261 (sh_50 hG) rfl ?_
      refine j_iconst hX dX12_words_264 ic_4 ?_
      refine j_iload hX dX12_words_265 rfl ?_
      refine jpc (b := 267) rfl ?_
      refine j_imul hX dX12_words_267 ?_
      obtain ⟨hg, hf⟩ := gd hf
      refine j_iald hX (sh_59 hG) hg dX12_words_268 ?_
      refine j_if_ne (tgt := 276) hX dX12_words_269 (by decide) (fun hc => ?_) (fun hc => ?_)
      · have hf := ifn hc hf
        refine j_aload_n hX dX12_words_276 rfl ?_
        refine j_getR (k := 22) hX kX12 (by decide) fk_X12_49 (rf_50_22 hG) dX12_words_277 (sh_50 hG) rfl ?_
        refine j_iconst hX dX12_words_280 ic_4 ?_
        refine j_iload hX dX12_words_281 rfl ?_
        refine j_imul hX dX12_words_283 ?_
        refine jpc (b := 284) rfl ?_
        obtain ⟨hg, hf⟩ := gd hf
        refine j_iald hX (sh_59 hG) hg dX12_words_284 ?_
        refine j_aload_n hX dX12_words_285 rfl ?_
        refine j_iload hX dX12_words_286 rfl ?_
        refine j_aload_n hX dX12_words_288 rfl ?_
        refine j_getI (k := 28) hX kX12 (by decide) fk_X12_303 dX12_words_289 (sh_50 hG) rfl ?_
        obtain ⟨v15, hh16, hf⟩ := bd1 hf
        refine j_cV2i hX lk_X12_454 kX12 dX12_words_292 (sh_50 hG) (okX12_tensOf hG hh16) rfl rfl (rmm (by omega) hRf hRl (by decide)) (Nat.le_of_ble_eq_true rfl) (Nat.le_add_right _ _) (Nat.le_add_right _ _) ?_
        refine jpc (b := 295) rfl ?_
        refine j_imul hX dX12_words_295 ?_
        exact aJx (kX12_words_296 hX hr hlk hRf hRl Hkh95 ih hG  hf) (And.intro rfl (And.intro rfl (And.intro rfl (And.intro rfl (And.intro rfl (And.intro rfl (And.intro rfl (And.intro rfl (rfl)))))))))
      · have hf := ifp hc hf
        refine j_iconst hX dX12_words_272 ic_0 ?_
        refine j_goto (tgt := 296) hX dX12_words_273 (by decide) ?_
        exact aJx (kX12_words_296 hX hr hlk hRf hRl Hkh95 ih hG  hf) (And.intro rfl (And.intro rfl (And.intro rfl (And.intro rfl (And.intro rfl (And.intro rfl (And.intro rfl (And.intro rfl (rfl)))))))))
def fX12_words_214 (kh95 : Int32 → Int32 → Int32 → Int32 → Int32 → (Nat → Nat → Int32) → Option ((Int32) × (Nat → Nat → Int32))) : Nat → Int32 → Int32 → Int32 → Int32 → Int32 → Int32 → Int32 → Int32 → (Nat → Nat → Int32) → Option ((Int32) × (Nat → Nat → Int32))
  | 0, _, _, _, _, _, _, _, _, _ => none
  | n + 1, x1, x3, x4, x5, x6, x7, x9, x10, i => if (i 50 28) ≤ x10 then (fX12_words_249 kh95 fuel x1 x3 x4 x5 x6 x7 x9 0 i) else (bn1 (fX12_paperAt 63 296 x10 i) fun v12 =>
    if aIn x10 9 = true then
    (lt (u2 i 66 (x10 : Int32).toNatClampNeg v12) fun i14 => fX12_words_214 kh95 n x1 x3 x4 x5 x6 x7 x9 (x10 + 1) i14) else none)
theorem kX12_words_214  {vR : Int32} {iR : Nat → Nat → Int32} (hX : aX p s m args c RX12 cX12_words 11 D cA A ad0) (hr : meth.sig.returnType = (some .int)) (hlk : meth.locks = false) (hRf : 3 ≤ R.frames) (hRl : 64 * 3 ≤ R.locals) {kh95 : Int32 → Int32 → Int32 → Int32 → Int32 → (Nat → Nat → Int32) → Option ((Int32) × (Nat → Nat → Int32))} (Hkh95 : ∀ (x1 : Int32) (x3 : Int32) (x4 : Int32) (x5 : Int32) (x6 : Int32) (i : Nat → Nat → Int32), aGood sh rv → kh95 x1 x3 x4 x5 x6 i = some (vR, iR) → aJ p l e R s m args below meth c (MQ below (aPost D cA ad0 A (sh, i0, lo0, rv0) (some (.int vR)) (sh, iR, lo, rv)) args s (sh.length - sh.length) (aSn sh - aSn sh) A) D cA A ad0 11 sh.length (aSn sh) 95 [some (.ref (100 + 50)), some (.int x1), none, some (.int x3), some (.int x4), some (.int x5), some (.int x6), none, none, none, none] [] (sh, i, lo, rv)) : ∀ (n : Nat) (x1 : Int32) (x3 : Int32) (x4 : Int32) (x5 : Int32) (x6 : Int32) (x7 : Int32) (x9 : Int32) (x10 : Int32) (i : Nat → Nat → Int32), aGood sh rv → fX12_words_214 kh95 n x1 x3 x4 x5 x6 x7 x9 x10 i = some (vR, iR) → aJ p l e R s m args below meth c (MQ below (aPost D cA ad0 A (sh, i0, lo0, rv0) (some (.int vR)) (sh, iR, lo, rv)) args s (sh.length - sh.length) (aSn sh - aSn sh) A) D cA A ad0 11 sh.length (aSn sh) 214 [some (.ref (100 + 50)), some (.int x1), none, some (.int x3), some (.int x4), some (.int x5), some (.int x6), some (.int x7), none, some (.int x9), some (.int x10)] [] (sh, i, lo, rv) := by
  intro n
  induction n with
  | zero => intros; rename_i hf; cases hf
  | succ n ih =>
    intro x1 x3 x4 x5 x6 x7 x9 x10 i hG hf
    rw [fX12_words_214] at hf
    refine j_iload hX dX12_words_214 rfl ?_
    refine j_aload_n hX dX12_words_216 rfl ?_
    refine j_getI (k := 28) hX kX12 (by decide) fk_X12_303 dX12_words_217 (sh_50 hG) rfl ?_
    refine j_icmp_ge (tgt := 246) hX dX12_words_220 (by decide) (fun hc => ?_) (fun hc => ?_)
    · have hf := ifp hc hf
      refine j_iconst hX dX12_words_246 ic_0 ?_
      refine j_istore hX dX12_words_247 (by decide) rfl ?_
      exact aJx (kX12_words_249 hX hr hlk hRf hRl Hkh95 fuel _ _ _ _ _ _ _ _ _ hG  hf) (And.intro rfl (And.intro rfl (And.intro rfl (And.intro rfl (And.intro rfl (And.intro rfl (And.intro rfl (And.intro rfl (And.intro rfl (rfl))))))))))
    · have hf := ifn hc hf
      refine j_aload_n hX dX12_words_223 rfl ?_
      refine j_getR (k := 46) hX kX12 (by decide) fk_X12_77 (rf_50_46 hG) dX12_words_224 (sh_50 hG) rfl ?_
      refine j_iload hX dX12_words_227 rfl ?_
      refine j_aload_n hX dX12_words_229 rfl ?_
      refine j_aload_n hX dX12_words_230 rfl ?_
      refine jpc (b := 231) rfl ?_
      refine j_getR (k := 33) hX kX12 (by decide) fk_X12_61 (rf_50_33 hG) dX12_words_231 (sh_50 hG) rfl ?_
      refine j_iload hX dX12_words_234 rfl ?_
      obtain ⟨v12, hh13, hf⟩ := bd1 hf
      refine j_cV2i hX lk_X12_345 kX12 dX12_words_236 (sh_50 hG) (okX12_paperAt hG (sh_63 hG) hh13) rfl rfl (rmm (by omega) hRf hRl (by decide)) (Nat.le_of_ble_eq_true rfl) (Nat.le_add_right _ _) (Nat.le_add_right _ _) ?_
      obtain ⟨hg, hf⟩ := gd hf
      have hf := ltd hf
      refine j_iast hX (sh_66 hG) hg dX12_words_239 ?_
      refine j_iinc hX dX12_words_240 rfl (congrArg (_ + ·) ic_1) (by decide) rfl ?_
      refine j_goto (tgt := 214) hX dX12_words_243 (by decide) ?_
      exact aJx (ih _ _ _ _ _ _ _ _ _ hG  hf) (And.intro rfl (And.intro rfl (And.intro rfl (And.intro rfl (And.intro rfl (And.intro rfl (And.intro rfl (And.intro rfl (And.intro rfl (rfl))))))))))
def fX12_words_121 (kh95 : Int32 → Int32 → Int32 → Int32 → Int32 → (Nat → Nat → Int32) → Option ((Int32) × (Nat → Nat → Int32))) : Nat → Int32 → Int32 → Int32 → Int32 → Int32 → Int32 → Int32 → Int32 → (Nat → Nat → Int32) → Option ((Int32) × (Nat → Nat → Int32))
  | 0, _, _, _, _, _, _, _, _, _ => none
  | n + 1, x1, x3, x4, x5, x6, x7, x8, x9, i => if (i 50 26) ≤ x9 then (fX12_words_214 kh95 fuel x1 x3 x4 x5 x6 x7 0 0 i) else (bn1 (fX12_isChild x9 i) fun v8 =>
    if v8 = 0 then (if aIn (((6 : Int32) * x9) + (1 : Int32)) 54 = true then
    (if (i 57 ((((6 : Int32) * x9) + (1 : Int32)) : Int32).toNatClampNeg) = 0 then (fX12_words_202 kh95 (fX12_words_121 kh95 n) x1 x3 x4 x5 x6 x7 x8 x9 i) else (if (x8 / (3 : Int32)) = 0 then none else
    if aIn (((6 : Int32) * x9) + (2 : Int32)) 296 = true then
    (lt (u2 i 63 ((((6 : Int32) * x9) + (2 : Int32)) : Int32).toNatClampNeg ((x6 / (x8 / (3 : Int32))) - (x6 / (x8 / (3 : Int32))) / (3 : Int32) * (3 : Int32))) fun i10 => if aIn (((6 : Int32) * x9) + (2 : Int32)) 296 = true then
    (lt (((10 : Int32) * x7) + (i10 63 ((((6 : Int32) * x9) + (2 : Int32)) : Int32).toNatClampNeg)) fun t11 =>
    fX12_words_202 kh95 (fX12_words_121 kh95 n) x1 x3 x4 x5 x6 t11 (x8 / (3 : Int32)) x9 i10) else none) else none)) else none) else (fX12_words_202 kh95 (fX12_words_121 kh95 n) x1 x3 x4 x5 x6 x7 x8 x9 i))
theorem kX12_words_121  {vR : Int32} {iR : Nat → Nat → Int32} (hX : aX p s m args c RX12 cX12_words 11 D cA A ad0) (hr : meth.sig.returnType = (some .int)) (hlk : meth.locks = false) (hRf : 3 ≤ R.frames) (hRl : 64 * 3 ≤ R.locals) {kh95 : Int32 → Int32 → Int32 → Int32 → Int32 → (Nat → Nat → Int32) → Option ((Int32) × (Nat → Nat → Int32))} (Hkh95 : ∀ (x1 : Int32) (x3 : Int32) (x4 : Int32) (x5 : Int32) (x6 : Int32) (i : Nat → Nat → Int32), aGood sh rv → kh95 x1 x3 x4 x5 x6 i = some (vR, iR) → aJ p l e R s m args below meth c (MQ below (aPost D cA ad0 A (sh, i0, lo0, rv0) (some (.int vR)) (sh, iR, lo, rv)) args s (sh.length - sh.length) (aSn sh - aSn sh) A) D cA A ad0 11 sh.length (aSn sh) 95 [some (.ref (100 + 50)), some (.int x1), none, some (.int x3), some (.int x4), some (.int x5), some (.int x6), none, none, none, none] [] (sh, i, lo, rv)) : ∀ (n : Nat) (x1 : Int32) (x3 : Int32) (x4 : Int32) (x5 : Int32) (x6 : Int32) (x7 : Int32) (x8 : Int32) (x9 : Int32) (i : Nat → Nat → Int32), aGood sh rv → fX12_words_121 kh95 n x1 x3 x4 x5 x6 x7 x8 x9 i = some (vR, iR) → aJ p l e R s m args below meth c (MQ below (aPost D cA ad0 A (sh, i0, lo0, rv0) (some (.int vR)) (sh, iR, lo, rv)) args s (sh.length - sh.length) (aSn sh - aSn sh) A) D cA A ad0 11 sh.length (aSn sh) 121 [some (.ref (100 + 50)), some (.int x1), none, some (.int x3), some (.int x4), some (.int x5), some (.int x6), some (.int x7), some (.int x8), some (.int x9), none] [] (sh, i, lo, rv) := by
  intro n
  induction n with
  | zero => intros; rename_i hf; cases hf
  | succ n ih =>
    intro x1 x3 x4 x5 x6 x7 x8 x9 i hG hf
    rw [fX12_words_121] at hf
    refine j_iload hX dX12_words_121 rfl ?_
    refine j_aload_n hX dX12_words_123 rfl ?_
    refine j_getI (k := 26) hX kX12 (by decide) fk_X12_297 dX12_words_124 (sh_50 hG) rfl ?_
    refine j_icmp_ge (tgt := 208) hX dX12_words_127 (by decide) (fun hc => ?_) (fun hc => ?_)
    · have hf := ifp hc hf
      refine j_iconst hX dX12_words_208 ic_0 ?_
      refine j_istore hX dX12_words_209 (by decide) rfl ?_
      refine j_iconst hX dX12_words_211 ic_0 ?_
      refine j_istore hX dX12_words_212 (by decide) rfl ?_
      exact aJx (kX12_words_214 hX hr hlk hRf hRl Hkh95 fuel _ _ _ _ _ _ _ _ _ hG  hf) (And.intro rfl (And.intro rfl (And.intro rfl (And.intro rfl (And.intro rfl (And.intro rfl (And.intro rfl (And.intro rfl (And.intro rfl (rfl))))))))))
    · have hf := ifn hc hf
      refine j_aload_n hX dX12_words_130 rfl ?_
      refine j_iload hX dX12_words_131 rfl ?_
      obtain ⟨v8, hh9, hf⟩ := bd1 hf
      refine j_cV1i hX lk_X12_379 kX12 dX12_words_133 (sh_50 hG) (okX12_isChild hG hh9) rfl rfl (rmm (by omega) hRf hRl (by decide)) (Nat.le_of_ble_eq_true rfl) (Nat.le_add_right _ _) (Nat.le_add_right _ _) ?_
      refine j_if_ne (tgt := 202) hX dX12_words_136 (by decide) (fun hc => ?_) (fun hc => ?_)
      · have hf := ifn hc hf
        exact aJx (kX12_words_202 hX hr hlk hRf hRl Hkh95 ih hG  hf) (And.intro rfl (And.intro rfl (And.intro rfl (And.intro rfl (And.intro rfl (And.intro rfl (And.intro rfl (And.intro rfl (And.intro rfl (rfl))))))))))
      · have hf := ifp hc hf
        refine j_aload_n hX dX12_words_139 rfl ?_
        refine j_getR (k := 20) hX kX12 (by decide) fk_X12_43 (rf_50_20 hG) dX12_words_140 (sh_50 hG) rfl ?_
        refine j_bipush hX dX12_words_143 bp_6 ?_
        refine j_iload hX dX12_words_145 rfl ?_
        refine j_imul hX dX12_words_147 ?_
        refine jpc (b := 148) rfl ?_
        refine j_iconst hX dX12_words_148 ic_1 ?_
        refine j_iadd hX dX12_words_149 ?_
        obtain ⟨hg, hf⟩ := gd hf
        refine j_iald hX (sh_57 hG) hg dX12_words_150 ?_
        refine j_if_ne (tgt := 157) hX dX12_words_151 (by decide) (fun hc => ?_) (fun hc => ?_)
        · have hf := ifn hc hf
          refine j_iload hX dX12_words_157 rfl ?_
          refine j_iconst hX dX12_words_159 ic_3 ?_
          refine j_idiv hX dX12_words_160 (by decide) ?_
          refine j_istore hX dX12_words_161 (by decide) rfl ?_
          refine j_aload_n hX dX12_words_163 rfl ?_
          refine jpc (b := 164) rfl ?_
          refine j_getR (k := 33) hX kX12 (by decide) fk_X12_61 (rf_50_33 hG) dX12_words_164 (sh_50 hG) rfl ?_
          refine j_bipush hX dX12_words_167 bp_6 ?_
          refine j_iload hX dX12_words_169 rfl ?_
          refine j_imul hX dX12_words_171 ?_
          refine j_iconst hX dX12_words_172 ic_2 ?_
          refine j_iadd hX dX12_words_173 ?_
          refine jpc (b := 174) rfl ?_
          refine j_iload hX dX12_words_174 rfl ?_
          refine j_iload hX dX12_words_176 rfl ?_
          obtain ⟨hz, hf⟩ := gdn hf
          refine j_idiv hX dX12_words_178 hz ?_
          refine j_iconst hX dX12_words_179 ic_3 ?_
          refine j_irem hX dX12_words_180 (by decide) ?_
          obtain ⟨hg, hf⟩ := gd hf
          have hf := ltd hf
          refine j_iast hX (sh_63 hG) hg dX12_words_181 ?_
          refine j_bipush hX dX12_words_182 bp_10 ?_
          refine j_iload hX dX12_words_184 rfl ?_
          refine j_imul hX dX12_words_186 ?_
          refine j_aload_n hX dX12_words_187 rfl ?_
          refine j_getR (k := 33) hX kX12 (by decide) fk_X12_61 (rf_50_33 hG) dX12_words_188 (sh_50 hG) rfl ?_
          refine jpc (b := 191) rfl ?_
          refine j_bipush hX dX12_words_191 bp_6 ?_
          refine j_iload hX dX12_words_193 rfl ?_
          refine j_imul hX dX12_words_195 ?_
          refine j_iconst hX dX12_words_196 ic_2 ?_
          refine j_iadd hX dX12_words_197 ?_
          obtain ⟨hg, hf⟩ := gd hf
          refine j_iald hX (sh_63 hG) hg dX12_words_198 ?_
          refine j_iadd hX dX12_words_199 ?_
          have hf := ltd hf
          refine j_istore hX dX12_words_200 (by decide) rfl ?_
          exact aJx (kX12_words_202 hX hr hlk hRf hRl Hkh95 ih hG  hf) (And.intro rfl (And.intro rfl (And.intro rfl (And.intro rfl (And.intro rfl (And.intro rfl (And.intro rfl (And.intro rfl (And.intro rfl (rfl))))))))))
        · have hf := ifp hc hf
          refine j_goto (tgt := 202) hX dX12_words_154 (by decide) ?_
          exact aJx (kX12_words_202 hX hr hlk hRf hRl Hkh95 ih hG  hf) (And.intro rfl (And.intro rfl (And.intro rfl (And.intro rfl (And.intro rfl (And.intro rfl (And.intro rfl (And.intro rfl (And.intro rfl (rfl))))))))))
def fX12_words_95 : Nat → Int32 → Int32 → Int32 → Int32 → Int32 → (Nat → Nat → Int32) → Option ((Int32) × (Nat → Nat → Int32))
  | 0, _, _, _, _, _, _ => none
  | n + 1, x1, x3, x4, x5, x6, i => if x3 ≤ x6 then (if x1 = 0 then (some (x4, i)) else (some (x5, i))) else (bn1 (fX12_copy 63 296 64 296 i) fun i6 =>
    fX12_words_121 (fX12_words_95 n) fuel x1 x3 x4 x5 x6 0 x3 0 i6)
theorem kX12_words_95  {vR : Int32} {iR : Nat → Nat → Int32} (hX : aX p s m args c RX12 cX12_words 11 D cA A ad0) (hr : meth.sig.returnType = (some .int)) (hlk : meth.locks = false) (hRf : 3 ≤ R.frames) (hRl : 64 * 3 ≤ R.locals) : ∀ (n : Nat) (x1 : Int32) (x3 : Int32) (x4 : Int32) (x5 : Int32) (x6 : Int32) (i : Nat → Nat → Int32), aGood sh rv → fX12_words_95 n x1 x3 x4 x5 x6 i = some (vR, iR) → aJ p l e R s m args below meth c (MQ below (aPost D cA ad0 A (sh, i0, lo0, rv0) (some (.int vR)) (sh, iR, lo, rv)) args s (sh.length - sh.length) (aSn sh - aSn sh) A) D cA A ad0 11 sh.length (aSn sh) 95 [some (.ref (100 + 50)), some (.int x1), none, some (.int x3), some (.int x4), some (.int x5), some (.int x6), none, none, none, none] [] (sh, i, lo, rv) := by
  intro n
  induction n with
  | zero => intros; rename_i hf; cases hf
  | succ n ih =>
    intro x1 x3 x4 x5 x6 i hG hf
    rw [fX12_words_95] at hf
    refine j_iload hX dX12_words_95 rfl ?_
    refine j_iload_n hX dX12_words_97 rfl ?_
    refine j_icmp_ge (tgt := 377) hX dX12_words_98 (by decide) (fun hc => ?_) (fun hc => ?_)
    · have hf := ifp hc hf
      refine j_iload_n hX dX12_words_377 rfl ?_
      refine j_if_ne (tgt := 386) hX dX12_words_378 (by decide) (fun hc => ?_) (fun hc => ?_)
      · have hf := ifn hc hf
        refine j_iload hX dX12_words_386 rfl ?_
        cases hf
        exact j_ret hX hr hlk rfl dX12_words_388
      · have hf := ifp hc hf
        refine j_iload hX dX12_words_381 rfl ?_
        refine j_goto (tgt := 388) hX dX12_words_383 (by decide) ?_
        cases hf
        exact j_ret hX hr hlk rfl dX12_words_388
    · have hf := ifn hc hf
      refine j_iconst hX dX12_words_101 ic_0 ?_
      refine j_istore hX dX12_words_102 (by decide) rfl ?_
      refine j_iload_n hX dX12_words_104 rfl ?_
      refine j_istore hX dX12_words_105 (by decide) rfl ?_
      refine j_aload_n hX dX12_words_107 rfl ?_
      refine jpc (b := 108) rfl ?_
      refine j_getR (k := 33) hX kX12 (by decide) fk_X12_61 (rf_50_33 hG) dX12_words_108 (sh_50 hG) rfl ?_
      refine j_aload_n hX dX12_words_111 rfl ?_
      refine j_getR (k := 34) hX kX12 (by decide) fk_X12_64 (rf_50_34 hG) dX12_words_112 (sh_50 hG) rfl ?_
      obtain ⟨i6, hh7, hf⟩ := bd1 hf
      refine j_cS2v hX lk_X12_359 dX12_words_115 (okX12_copy hG (sh_63 hG) (sh_64 hG) hh7) rfl rfl (rmm (by omega) hRf hRl (by decide)) (Nat.le_of_ble_eq_true rfl) (Nat.le_add_right _ _) (Nat.le_add_right _ _) ?_
      refine j_iconst hX dX12_words_118 ic_0 ?_
      refine j_istore hX dX12_words_119 (by decide) rfl ?_
      exact aJx (kX12_words_121 hX hr hlk hRf hRl ih fuel _ _ _ _ _ _ _ _ _ hG  hf) (And.intro rfl (And.intro rfl (And.intro rfl (And.intro rfl (And.intro rfl (And.intro rfl (And.intro rfl (And.intro rfl (And.intro rfl (rfl))))))))))
def fX12_words_31 : Nat → Int32 → Int32 → Int32 → Int32 → (Nat → Nat → Int32) → Option ((Int32) × (Nat → Nat → Int32))
  | 0, _, _, _, _, _ => none
  | n + 1, x1, x2, x3, x4, i => if (i 50 26) ≤ x4 then (if x2 = 0 then (some ((-1), i)) else (fX12_words_95 fuel x1 x3 (-1) 0 0 i)) else (bn1 (fX12_isChild x4 i) fun v4 =>
    if v4 = 0 then (if aIn (((6 : Int32) * x4) + (1 : Int32)) 54 = true then
    (if (i 57 ((((6 : Int32) * x4) + (1 : Int32)) : Int32).toNatClampNeg) = 0 then (fX12_words_74 (fX12_words_31 n) x1 x2 x3 x4 i) else (fX12_words_74 (fX12_words_31 n) x1 (x2 + 1) (x3 * (3 : Int32)) x4 i)) else none) else (fX12_words_74 (fX12_words_31 n) x1 x2 x3 x4 i))
theorem kX12_words_31  {vR : Int32} {iR : Nat → Nat → Int32} (hX : aX p s m args c RX12 cX12_words 11 D cA A ad0) (hr : meth.sig.returnType = (some .int)) (hlk : meth.locks = false) (hRf : 3 ≤ R.frames) (hRl : 64 * 3 ≤ R.locals) : ∀ (n : Nat) (x1 : Int32) (x2 : Int32) (x3 : Int32) (x4 : Int32) (i : Nat → Nat → Int32), aGood sh rv → fX12_words_31 n x1 x2 x3 x4 i = some (vR, iR) → aJ p l e R s m args below meth c (MQ below (aPost D cA ad0 A (sh, i0, lo0, rv0) (some (.int vR)) (sh, iR, lo, rv)) args s (sh.length - sh.length) (aSn sh - aSn sh) A) D cA A ad0 11 sh.length (aSn sh) 31 [some (.ref (100 + 50)), some (.int x1), some (.int x2), some (.int x3), some (.int x4), none, none, none, none, none, none] [] (sh, i, lo, rv) := by
  intro n
  induction n with
  | zero => intros; rename_i hf; cases hf
  | succ n ih =>
    intro x1 x2 x3 x4 i hG hf
    rw [fX12_words_31] at hf
    refine j_iload hX dX12_words_31 rfl ?_
    refine j_aload_n hX dX12_words_33 rfl ?_
    refine j_getI (k := 26) hX kX12 (by decide) fk_X12_297 dX12_words_34 (sh_50 hG) rfl ?_
    refine j_icmp_ge (tgt := 80) hX dX12_words_37 (by decide) (fun hc => ?_) (fun hc => ?_)
    · have hf := ifp hc hf
      refine j_iload_n hX dX12_words_80 rfl ?_
      refine j_if_ne (tgt := 86) hX dX12_words_81 (by decide) (fun hc => ?_) (fun hc => ?_)
      · have hf := ifn hc hf
        refine j_iconst hX dX12_words_86 ic_m1 ?_
        refine j_istore hX dX12_words_87 (by decide) rfl ?_
        refine j_iconst hX dX12_words_89 ic_0 ?_
        refine j_istore hX dX12_words_90 (by decide) rfl ?_
        refine j_iconst hX dX12_words_92 ic_0 ?_
        refine jpc (b := 93) rfl ?_
        refine j_istore hX dX12_words_93 (by decide) rfl ?_
        exact aJx (kX12_words_95 hX hr hlk hRf hRl fuel _ _ _ _ _ _ hG  hf) (And.intro rfl (And.intro rfl (And.intro rfl (And.intro rfl (And.intro rfl (And.intro rfl (rfl)))))))
      · have hf := ifp hc hf
        refine j_iconst hX dX12_words_84 ic_m1 ?_
        cases hf
        exact j_ret hX hr hlk rfl dX12_words_85
    · have hf := ifn hc hf
      refine j_aload_n hX dX12_words_40 rfl ?_
      refine j_iload hX dX12_words_41 rfl ?_
      obtain ⟨v4, hh5, hf⟩ := bd1 hf
      refine j_cV1i hX lk_X12_379 kX12 dX12_words_43 (sh_50 hG) (okX12_isChild hG hh5) rfl rfl (rmm (by omega) hRf hRl (by decide)) (Nat.le_of_ble_eq_true rfl) (Nat.le_add_right _ _) (Nat.le_add_right _ _) ?_
      refine j_if_ne (tgt := 74) hX dX12_words_46 (by decide) (fun hc => ?_) (fun hc => ?_)
      · have hf := ifn hc hf
        exact aJx (kX12_words_74 hX hr hlk hRf hRl ih hG  hf) (And.intro rfl (And.intro rfl (And.intro rfl (And.intro rfl (And.intro rfl (rfl))))))
      · have hf := ifp hc hf
        refine j_aload_n hX dX12_words_49 rfl ?_
        refine j_getR (k := 20) hX kX12 (by decide) fk_X12_43 (rf_50_20 hG) dX12_words_50 (sh_50 hG) rfl ?_
        refine j_bipush hX dX12_words_53 bp_6 ?_
        refine j_iload hX dX12_words_55 rfl ?_
        refine j_imul hX dX12_words_57 ?_
        refine jpc (b := 58) rfl ?_
        refine j_iconst hX dX12_words_58 ic_1 ?_
        refine j_iadd hX dX12_words_59 ?_
        obtain ⟨hg, hf⟩ := gd hf
        refine j_iald hX (sh_57 hG) hg dX12_words_60 ?_
        refine j_if_ne (tgt := 67) hX dX12_words_61 (by decide) (fun hc => ?_) (fun hc => ?_)
        · have hf := ifn hc hf
          refine j_iinc hX dX12_words_67 rfl (congrArg (_ + ·) ic_1) (by decide) rfl ?_
          refine j_iload_n hX dX12_words_70 rfl ?_
          refine j_iconst hX dX12_words_71 ic_3 ?_
          refine j_imul hX dX12_words_72 ?_
          refine j_istore_n hX dX12_words_73 (by decide) rfl ?_
          exact aJx (kX12_words_74 hX hr hlk hRf hRl ih hG  hf) (And.intro rfl (And.intro rfl (And.intro rfl (And.intro rfl (And.intro rfl (rfl))))))
        · have hf := ifp hc hf
          refine j_goto (tgt := 74) hX dX12_words_64 (by decide) ?_
          exact aJx (kX12_words_74 hX hr hlk hRf hRl ih hG  hf) (And.intro rfl (And.intro rfl (And.intro rfl (And.intro rfl (And.intro rfl (rfl))))))
def fX12_words (a1 : Int32) (i : Nat → Nat → Int32) : Option ((Int32) × (Nat → Nat → Int32)) := lt (u2 i 50 0 0) fun i1 =>
    if (i1 50 26) = 0 then (some ((-1), i1)) else (bn1 (fX12_isIn (a1 : Int32).toInt64 0 1) fun v2 =>
    if v2 = 0 then (some ((-1), i1)) else (fX12_words_31 fuel a1 0 1 0 i1))
theorem kX12_words  {vR : Int32} {iR : Nat → Nat → Int32} (hX : aX p s m args c RX12 cX12_words 11 D cA A ad0) (hr : meth.sig.returnType = (some .int)) (hlk : meth.locks = false) (hRf : 3 ≤ R.frames) (hRl : 64 * 3 ≤ R.locals) {a1 : Int32} (hG : aGood sh rv) (hf : fX12_words a1 i = some (vR, iR)) : aJ p l e R s m args below meth c (MQ below (aPost D cA ad0 A (sh, i0, lo0, rv0) (some (.int vR)) (sh, iR, lo, rv)) args s (sh.length - sh.length) (aSn sh - aSn sh) A) D cA A ad0 11 sh.length (aSn sh) 0 [some (.ref (100 + 50)), some (.int a1), none, none, none, none, none, none, none, none, none] [] (sh, i, lo, rv) := by
  unfold fX12_words at hf
  refine j_aload_n hX dX12_words_0 rfl ?_
  refine j_iconst hX dX12_words_1 ic_0 ?_
  have hf := ltd hf
  refine j_putI (k := 0) hX kX12 (by decide) fk_X12_99 dX12_words_2 (sh_50 hG) rfl rfl rfl rfl ?_
  refine j_aload_n hX dX12_words_5 rfl ?_
  refine j_getI (k := 26) hX kX12 (by decide) fk_X12_297 dX12_words_6 (sh_50 hG) rfl ?_
  refine jpc (b := 9) rfl ?_
  refine j_if_eq (tgt := 22) hX dX12_words_9 (by decide) (fun hc => ?_) (fun hc => ?_)
  · have hf := ifp hc hf
    refine j_iconst hX dX12_words_22 ic_m1 ?_
    cases hf
    exact j_ret hX hr hlk rfl dX12_words_23
  · have hf := ifn hc hf
    refine j_iload_n hX dX12_words_12 rfl ?_
    refine j_i2l hX dX12_words_13 ?_
    refine j_lconst (v := 0) hX dX12_words_14 (by decide) ?_
    refine j_lconst (v := 1) hX dX12_words_15 (by decide) ?_
    obtain ⟨v2, hh3, hf⟩ := bd1 hf
    refine j_cS3i hX lk_X12_220 dX12_words_16 (okX12_isIn hG hh3) rfl rfl (rmm (by omega) hRf hRl (by decide)) (Nat.le_of_ble_eq_true rfl) (Nat.le_add_right _ _) (Nat.le_add_right _ _) ?_
    refine jpc (b := 19) rfl ?_
    refine j_if_ne (tgt := 24) hX dX12_words_19 (by decide) (fun hc => ?_) (fun hc => ?_)
    · have hf := ifn hc hf
      refine j_iconst hX dX12_words_24 ic_0 ?_
      refine j_istore_n hX dX12_words_25 (by decide) rfl ?_
      refine j_iconst hX dX12_words_26 ic_1 ?_
      refine j_istore_n hX dX12_words_27 (by decide) rfl ?_
      refine j_iconst hX dX12_words_28 ic_0 ?_
      refine jpc (b := 29) rfl ?_
      refine j_istore hX dX12_words_29 (by decide) rfl ?_
      exact aJx (kX12_words_31 hX hr hlk hRf hRl fuel _ _ _ _ _ hG  hf) (And.intro rfl (And.intro rfl (And.intro rfl (And.intro rfl (And.intro rfl (rfl))))))
    · have hf := ifp hc hf
      refine j_iconst hX dX12_words_22 ic_m1 ?_
      cases hf
      exact j_ret hX hr hlk rfl dX12_words_23
theorem okX12_words {l : Launch} {sh : List aSh} {i : Nat → Nat → Int32} {lo : Nat → Nat → Int64} {rv : Nat → Nat → Option Nat}  {a1 : Int32} {vR : Int32} {iR : Nat → Nat → Int32} (hG : aGood sh rv) (hf : fX12_words a1 i = some (vR, iR)) : aM l yX12_words cX12_words 11 (some .int) 3 [.ref (100 + 50), .int a1] (sh, i, lo, rv) (some (.int vR)) (sh, iR, lo, rv) :=
  aM_of (by decide) (Nat.le_of_ble_eq_true rfl) (Nat.le_refl _) (Nat.le_refl _) (fun p e s m args below meth c D cA A ad0 hX hr hlk hnm => kX12_words hX hr hlk (Nat.le_refl _) (Nat.le_refl _) hG hf)
def fX12_hear (a1 : Int32) (a2 : Int32) (i : Nat → Nat → Int32) : Option ((Int32) × (Nat → Nat → Int32)) := lt (u2 i 50 0 0) fun i1 =>
    if (i1 50 26) = 0 then (some ((-1), i1)) else (bn1 (fX12_isIn (a2 : Int32).toInt64 0 999) fun v2 =>
    if v2 = 0 then (some ((-1), i1)) else (if (i1 50 49) = 8 then (some ((-1), i1)) else (if aIn (i1 50 49) 8 = true then
    (lt (u2 i1 67 ((i1 50 49) : Int32).toNatClampNeg (vp_nar .boolean a1)) fun i4 => if aIn (i4 50 49) 8 = true then
    (lt (u2 i4 68 ((i4 50 49) : Int32).toNatClampNeg a2) fun i5 => lt (u2 i5 50 49 ((i5 50 49) + (1 : Int32))) fun i6 =>
    some ((i6 50 49), i6)) else none) else none)))
theorem kX12_hear  {vR : Int32} {iR : Nat → Nat → Int32} (hX : aX p s m args c RX12 cX12_hear 3 D cA A ad0) (hr : meth.sig.returnType = (some .int)) (hlk : meth.locks = false) (hRf : 1 ≤ R.frames) (hRl : 64 * 1 ≤ R.locals) {a1 : Int32} {a2 : Int32} (hG : aGood sh rv) (hf : fX12_hear a1 a2 i = some (vR, iR)) : aJ p l e R s m args below meth c (MQ below (aPost D cA ad0 A (sh, i0, lo0, rv0) (some (.int vR)) (sh, iR, lo, rv)) args s (sh.length - sh.length) (aSn sh - aSn sh) A) D cA A ad0 3 sh.length (aSn sh) 0 [some (.ref (100 + 50)), some (.int a1), some (.int a2)] [] (sh, i, lo, rv) := by
  unfold fX12_hear at hf
  refine j_aload_n hX dX12_hear_0 rfl ?_
  refine j_iconst hX dX12_hear_1 ic_0 ?_
  have hf := ltd hf
  refine j_putI (k := 0) hX kX12 (by decide) fk_X12_99 dX12_hear_2 (sh_50 hG) rfl rfl rfl rfl ?_
  refine j_aload_n hX dX12_hear_5 rfl ?_
  refine j_getI (k := 26) hX kX12 (by decide) fk_X12_297 dX12_hear_6 (sh_50 hG) rfl ?_
  refine jpc (b := 9) rfl ?_
  refine j_if_eq (tgt := 33) hX dX12_hear_9 (by decide) (fun hc => ?_) (fun hc => ?_)
  · have hf := ifp hc hf
    refine j_iconst hX dX12_hear_33 ic_m1 ?_
    cases hf
    exact j_ret hX hr hlk rfl dX12_hear_34
  · have hf := ifn hc hf
    refine j_iload_n hX dX12_hear_12 rfl ?_
    refine j_i2l hX dX12_hear_13 ?_
    refine j_lconst (v := 0) hX dX12_hear_14 (by decide) ?_
    refine j_ldc2_w hX kc_X12_470 dX12_hear_15 ?_
    obtain ⟨v2, hh3, hf⟩ := bd1 hf
    refine j_cS3i hX lk_X12_220 dX12_hear_18 (okX12_isIn hG hh3) rfl rfl (rmm (by omega) hRf hRl (by decide)) (Nat.le_of_ble_eq_true rfl) (Nat.le_add_right _ _) (Nat.le_add_right _ _) ?_
    refine jpc (b := 21) rfl ?_
    refine j_if_eq (tgt := 33) hX dX12_hear_21 (by decide) (fun hc => ?_) (fun hc => ?_)
    · have hf := ifp hc hf
      refine j_iconst hX dX12_hear_33 ic_m1 ?_
      cases hf
      exact j_ret hX hr hlk rfl dX12_hear_34
    · have hf := ifn hc hf
      refine j_aload_n hX dX12_hear_24 rfl ?_
      refine j_getI (k := 49) hX kX12 (by decide) fk_X12_306 dX12_hear_25 (sh_50 hG) rfl ?_
      refine j_bipush hX dX12_hear_28 bp_8 ?_
      refine j_icmp_ne (tgt := 35) hX dX12_hear_30 (by decide) (fun hc => ?_) (fun hc => ?_)
      · have hf := ifn hc hf
        refine j_aload_n hX dX12_hear_35 rfl ?_
        refine j_getR (k := 47) hX kX12 (by decide) fk_X12_80 (rf_50_47 hG) dX12_hear_36 (sh_50 hG) rfl ?_
        refine j_aload_n hX dX12_hear_39 rfl ?_
        refine j_getI (k := 49) hX kX12 (by decide) fk_X12_306 dX12_hear_40 (sh_50 hG) rfl ?_
        refine j_iload_n hX dX12_hear_43 rfl ?_
        refine jpc (b := 44) rfl ?_
        obtain ⟨hg, hf⟩ := gd hf
        have hf := ltd hf
        refine j_zast hX (sh_67 hG) hg dX12_hear_44 ?_
        refine j_aload_n hX dX12_hear_45 rfl ?_
        refine j_getR (k := 48) hX kX12 (by decide) fk_X12_84 (rf_50_48 hG) dX12_hear_46 (sh_50 hG) rfl ?_
        refine j_aload_n hX dX12_hear_49 rfl ?_
        refine j_getI (k := 49) hX kX12 (by decide) fk_X12_306 dX12_hear_50 (sh_50 hG) rfl ?_
        refine j_iload_n hX dX12_hear_53 rfl ?_
        refine jpc (b := 54) rfl ?_
        obtain ⟨hg, hf⟩ := gd hf
        have hf := ltd hf
        refine j_iast hX (sh_68 hG) hg dX12_hear_54 ?_
        refine j_aload_n hX dX12_hear_55 rfl ?_
        refine j_dup hX dX12_hear_56 rfl ?_
        refine j_getI (k := 49) hX kX12 (by decide) fk_X12_306 dX12_hear_57 (sh_50 hG) rfl ?_
        refine j_iconst hX dX12_hear_60 ic_1 ?_
        refine j_iadd hX dX12_hear_61 ?_
        refine jpc (b := 62) rfl ?_
        have hf := ltd hf
        refine j_putI (k := 49) hX kX12 (by decide) fk_X12_306 dX12_hear_62 (sh_50 hG) rfl rfl rfl rfl ?_
        refine j_aload_n hX dX12_hear_65 rfl ?_
        refine j_getI (k := 49) hX kX12 (by decide) fk_X12_306 dX12_hear_66 (sh_50 hG) rfl ?_
        cases hf
        exact j_ret hX hr hlk rfl dX12_hear_69
      · have hf := ifp hc hf
        refine j_iconst hX dX12_hear_33 ic_m1 ?_
        cases hf
        exact j_ret hX hr hlk rfl dX12_hear_34
theorem okX12_hear {l : Launch} {sh : List aSh} {i : Nat → Nat → Int32} {lo : Nat → Nat → Int64} {rv : Nat → Nat → Option Nat}  {a1 : Int32} {a2 : Int32} {vR : Int32} {iR : Nat → Nat → Int32} (hG : aGood sh rv) (hf : fX12_hear a1 a2 i = some (vR, iR)) : aM l yX12_hear cX12_hear 3 (some .int) 1 [.ref (100 + 50), .int a1, .int a2] (sh, i, lo, rv) (some (.int vR)) (sh, iR, lo, rv) :=
  aM_of (by decide) (Nat.le_of_ble_eq_true rfl) (Nat.le_refl _) (Nat.le_refl _) (fun p e s m args below meth c D cA A ad0 hX hr hlk hnm => kX12_hear hX hr hlk (Nat.le_refl _) (Nat.le_refl _) hG hf)
def fX12_couldBe_40 (kh7 : Int32 → Int32 → (Nat → Nat → Int32) → (Nat → Nat → Option Nat) → Option ((Int32) × (Nat → Nat → Int32) × (Nat → Nat → Option Nat))) (x1 : Int32) (x2 : Int32) (s0 : Int32) (s1 : Int32) (i : Nat → Nat → Int32) (rv : Nat → Nat → Option Nat) : Option ((Int32) × (Nat → Nat → Int32) × (Nat → Nat → Option Nat)) := if s0 = s1 then (if aIn x2 8 = true then
    (if (i 68 (x2 : Int32).toNatClampNeg) ≤ (i 50 37) then (kh7 x1 (x2 + 1) i rv) else (some (0, i, rv))) else none) else (some (0, i, rv))
theorem kX12_couldBe_40  {vR : Int32} {iR : Nat → Nat → Int32} {rvR : Nat → Nat → Option Nat} (hX : aX p s m args c RX12 cX12_couldBe 3 D cA A ad0) (hr : meth.sig.returnType = (some .boolean)) (hlk : meth.locks = false) (hRf : 1150 ≤ R.frames) (hRl : 64 * 1150 ≤ R.locals) {kh7 : Int32 → Int32 → (Nat → Nat → Int32) → (Nat → Nat → Option Nat) → Option ((Int32) × (Nat → Nat → Int32) × (Nat → Nat → Option Nat))} (Hkh7 : ∀ (x1 : Int32) (x2 : Int32) (i : Nat → Nat → Int32) (rv : Nat → Nat → Option Nat), aGood sh rv → kh7 x1 x2 i rv = some (vR, iR, rvR) → aJ p l e R s m args below meth c (MQ below (aPost D cA ad0 A (sh, i0, lo0, rv0) (some (.int vR)) (sh, iR, lo, rvR)) args s (sh.length - sh.length) (aSn sh - aSn sh) A) D cA A ad0 3 sh.length (aSn sh) 7 [some (.ref (100 + 50)), some (.int x1), some (.int x2)] [] (sh, i, lo, rv)) {x1 : Int32} {x2 : Int32} {s0 : Int32} {s1 : Int32} (hG : aGood sh rv) (hf : fX12_couldBe_40 kh7 x1 x2 s0 s1 i rv = some (vR, iR, rvR)) : aJ p l e R s m args below meth c (MQ below (aPost D cA ad0 A (sh, i0, lo0, rv0) (some (.int vR)) (sh, iR, lo, rvR)) args s (sh.length - sh.length) (aSn sh - aSn sh) A) D cA A ad0 3 sh.length (aSn sh) 40 [some (.ref (100 + 50)), some (.int x1), some (.int x2)] [.int s1, .int s0] (sh, i, lo, rv) := by
  unfold fX12_couldBe_40 at hf
  refine j_icmp_ne (tgt := 56) hX dX12_couldBe_40 (by decide) (fun hc => ?_) (fun hc => ?_)
  · have hf := ifn hc hf
    refine j_iconst hX dX12_couldBe_56 ic_0 ?_
    cases hf
    exact j_ret hX hr hlk rfl dX12_couldBe_57
  · have hf := ifp hc hf
    refine j_aload_n hX dX12_couldBe_43 rfl ?_
    refine j_getI (k := 37) hX kX12 (by decide) fk_X12_333 dX12_couldBe_44 (sh_50 hG) rfl ?_
    refine j_aload_n hX dX12_couldBe_47 rfl ?_
    refine j_getR (k := 48) hX kX12 (by decide) fk_X12_84 (rf_50_48 hG) dX12_couldBe_48 (sh_50 hG) rfl ?_
    refine j_iload_n hX dX12_couldBe_51 rfl ?_
    refine jpc (b := 52) rfl ?_
    obtain ⟨hg, hf⟩ := gd hf
    refine j_iald hX (sh_68 hG) hg dX12_couldBe_52 ?_
    refine j_icmp_ge (tgt := 58) hX dX12_couldBe_53 (by decide) (fun hc => ?_) (fun hc => ?_)
    · have hf := ifp hc hf
      refine j_iinc hX dX12_couldBe_58 rfl (congrArg (_ + ·) ic_1) (by decide) rfl ?_
      refine j_goto (tgt := 7) hX dX12_couldBe_61 (by decide) ?_
      exact aJx (Hkh7 _ _ _ _ hG  hf) (And.intro rfl (And.intro rfl (And.intro rfl (rfl))))
    · have hf := ifn hc hf
      refine j_iconst hX dX12_couldBe_56 ic_0 ?_
      cases hf
      exact j_ret hX hr hlk rfl dX12_couldBe_57
theorem gX12_couldBe_40 {vR : Int32} {iR : Nat → Nat → Int32} {rvR : Nat → Nat → Option Nat} {kh7 : Int32 → Int32 → (Nat → Nat → Int32) → (Nat → Nat → Option Nat) → Option ((Int32) × (Nat → Nat → Int32) × (Nat → Nat → Option Nat))} (Hkh7 : ∀ (x1 : Int32) (x2 : Int32) (i : Nat → Nat → Int32) (rv : Nat → Nat → Option Nat), aGood sh rv → kh7 x1 x2 i rv = some (vR, iR, rvR) → aGood sh rvR) {x1 : Int32} {x2 : Int32} {s0 : Int32} {s1 : Int32} (hG : aGood sh rv) (hf : fX12_couldBe_40 kh7 x1 x2 s0 s1 i rv = some (vR, iR, rvR)) : aGood sh rvR := by
  unfold fX12_couldBe_40 at hf
  refine ifs2 hf (fun hc hf => ?_) (fun hc hf => ?_)
  · have hf := hf
    cases hf
    exact hG
  · have hf := hf
    obtain ⟨hg, hf⟩ := gd hf
    refine ifs hf (fun hc hf => ?_) (fun hc hf => ?_)
    · have hf := hf
      exact Hkh7 _ _ _ _ hG  hf
    · have hf := hf
      cases hf
      exact hG
def fX12_couldBe_7 : Nat → Int32 → Int32 → (Nat → Nat → Int32) → (Nat → Nat → Option Nat) → Option ((Int32) × (Nat → Nat → Int32) × (Nat → Nat → Option Nat))
  | 0, _, _, _, _ => none
  | n + 1, x1, x2, i, rv => if (i 50 49) ≤ x2 then (some (1, i, rv)) else (if aIn x2 8 = true then
    (if aIn (((4 : Int32) * x1) + (1 : Int32)) 16 = true then
    (if (i 59 ((((4 : Int32) * x1) + (1 : Int32)) : Int32).toNatClampNeg) = 1 then (fX12_couldBe_40 (fX12_couldBe_7 n) x1 x2 (i 67 (x2 : Int32).toNatClampNeg) 1 i rv) else (fX12_couldBe_40 (fX12_couldBe_7 n) x1 x2 (i 67 (x2 : Int32).toNatClampNeg) 0 i rv)) else none) else none)
theorem kX12_couldBe_7  {vR : Int32} {iR : Nat → Nat → Int32} {rvR : Nat → Nat → Option Nat} (hX : aX p s m args c RX12 cX12_couldBe 3 D cA A ad0) (hr : meth.sig.returnType = (some .boolean)) (hlk : meth.locks = false) (hRf : 1150 ≤ R.frames) (hRl : 64 * 1150 ≤ R.locals) : ∀ (n : Nat) (x1 : Int32) (x2 : Int32) (i : Nat → Nat → Int32) (rv : Nat → Nat → Option Nat), aGood sh rv → fX12_couldBe_7 n x1 x2 i rv = some (vR, iR, rvR) → aJ p l e R s m args below meth c (MQ below (aPost D cA ad0 A (sh, i0, lo0, rv0) (some (.int vR)) (sh, iR, lo, rvR)) args s (sh.length - sh.length) (aSn sh - aSn sh) A) D cA A ad0 3 sh.length (aSn sh) 7 [some (.ref (100 + 50)), some (.int x1), some (.int x2)] [] (sh, i, lo, rv) := by
  intro n
  induction n with
  | zero => intros; rename_i hf; cases hf
  | succ n ih =>
    intro x1 x2 i rv hG hf
    rw [fX12_couldBe_7] at hf
    refine j_iload_n hX dX12_couldBe_7 rfl ?_
    refine j_aload_n hX dX12_couldBe_8 rfl ?_
    refine j_getI (k := 49) hX kX12 (by decide) fk_X12_306 dX12_couldBe_9 (sh_50 hG) rfl ?_
    refine j_icmp_ge (tgt := 64) hX dX12_couldBe_12 (by decide) (fun hc => ?_) (fun hc => ?_)
    · have hf := ifp hc hf
      refine j_iconst hX dX12_couldBe_64 ic_1 ?_
      cases hf
      exact j_ret hX hr hlk rfl dX12_couldBe_65
    · have hf := ifn hc hf
      refine j_aload_n hX dX12_couldBe_15 rfl ?_
      refine j_getR (k := 47) hX kX12 (by decide) fk_X12_80 (rf_50_47 hG) dX12_couldBe_16 (sh_50 hG) rfl ?_
      refine j_iload_n hX dX12_couldBe_19 rfl ?_
      obtain ⟨hg, hf⟩ := gd hf
      refine j_zald hX (sh_67 hG) hg dX12_couldBe_20 ?_
      refine j_aload_n hX dX12_couldBe_21 rfl ?_
      refine j_getR (k := 22) hX kX12 (by decide) fk_X12_49 (rf_50_22 hG) dX12_couldBe_22 (sh_50 hG) rfl ?_
      refine j_iconst hX dX12_couldBe_25 ic_4 ?_
      refine j_iload_n hX dX12_couldBe_26 rfl ?_
      refine j_imul hX dX12_couldBe_27 ?_
      refine jpc (b := 28) rfl ?_
      refine j_iconst hX dX12_couldBe_28 ic_1 ?_
      refine j_iadd hX dX12_couldBe_29 ?_
      obtain ⟨hg, hf⟩ := gd hf
      refine j_iald hX (sh_59 hG) hg dX12_couldBe_30 ?_
      refine j_iconst hX dX12_couldBe_31 ic_1 ?_
      refine j_icmp_ne (tgt := 39) hX dX12_couldBe_32 (by decide) (fun hc => ?_) (fun hc => ?_)
      · have hf := ifn hc hf
        refine j_iconst hX dX12_couldBe_39 ic_0 ?_
        exact aJx (kX12_couldBe_40 hX hr hlk hRf hRl ih hG  hf) (And.intro rfl (And.intro rfl (And.intro rfl (rfl))))
      · have hf := ifp hc hf
        refine j_iconst hX dX12_couldBe_35 ic_1 ?_
        refine j_goto (tgt := 40) hX dX12_couldBe_36 (by decide) ?_
        exact aJx (kX12_couldBe_40 hX hr hlk hRf hRl ih hG  hf) (And.intro rfl (And.intro rfl (And.intro rfl (rfl))))
theorem gX12_couldBe_7 {vR : Int32} {iR : Nat → Nat → Int32} {rvR : Nat → Nat → Option Nat} : ∀ (n : Nat) (x1 : Int32) (x2 : Int32) (i : Nat → Nat → Int32) (rv : Nat → Nat → Option Nat), aGood sh rv → fX12_couldBe_7 n x1 x2 i rv = some (vR, iR, rvR) → aGood sh rvR := by
  intro n
  induction n with
  | zero => intros; rename_i hf; cases hf
  | succ n ih =>
    intro x1 x2 i rv hG hf
    rw [fX12_couldBe_7] at hf
    refine ifs hf (fun hc hf => ?_) (fun hc hf => ?_)
    · have hf := hf
      cases hf
      exact hG
    · have hf := hf
      obtain ⟨hg, hf⟩ := gd hf
      obtain ⟨hg, hf⟩ := gd hf
      refine ifs2 hf (fun hc hf => ?_) (fun hc hf => ?_)
      · have hf := hf
        exact gX12_couldBe_40 ih hG  hf
      · have hf := hf
        exact gX12_couldBe_40 ih hG  hf
def fX12_couldBe (a1 : Int32) (i : Nat → Nat → Int32) (rv : Nat → Nat → Option Nat) : Option ((Int32) × (Nat → Nat → Int32) × (Nat → Nat → Option Nat)) := bn2 (fX12_tryBorder a1 i rv) fun i1 rv2 =>
    fX12_couldBe_7 fuel a1 0 i1 rv2
theorem kX12_couldBe  {vR : Int32} {iR : Nat → Nat → Int32} {rvR : Nat → Nat → Option Nat} (hX : aX p s m args c RX12 cX12_couldBe 3 D cA A ad0) (hr : meth.sig.returnType = (some .boolean)) (hlk : meth.locks = false) (hRf : 1150 ≤ R.frames) (hRl : 64 * 1150 ≤ R.locals) {a1 : Int32} (hG : aGood sh rv) (hf : fX12_couldBe a1 i rv = some (vR, iR, rvR)) : aJ p l e R s m args below meth c (MQ below (aPost D cA ad0 A (sh, i0, lo0, rv0) (some (.int vR)) (sh, iR, lo, rvR)) args s (sh.length - sh.length) (aSn sh - aSn sh) A) D cA A ad0 3 sh.length (aSn sh) 0 [some (.ref (100 + 50)), some (.int a1), none] [] (sh, i, lo, rv) := by
  unfold fX12_couldBe at hf
  refine j_aload_n hX dX12_couldBe_0 rfl ?_
  refine j_iload_n hX dX12_couldBe_1 rfl ?_
  obtain ⟨i1, rv2, hh3, hf⟩ := bd2 hf
  refine j_cV1v hX lk_X12_451 kX12 dX12_couldBe_2 (sh_50 hG) (okX12_tryBorder hG hh3) rfl rfl (rmm (by omega) hRf hRl (by decide)) (Nat.le_of_ble_eq_true rfl) (Nat.le_add_right _ _) (Nat.le_add_right _ _) ?_
  have hG := gdX12_tryBorder hG hh3
  refine j_iconst hX dX12_couldBe_5 ic_0 ?_
  refine j_istore_n hX dX12_couldBe_6 (by decide) rfl ?_
  exact aJx (kX12_couldBe_7 hX hr hlk hRf hRl fuel _ _ _ _ hG  hf) (And.intro rfl (And.intro rfl (And.intro rfl (rfl))))
theorem gdX12_couldBe {vR : Int32} {iR : Nat → Nat → Int32} {rvR : Nat → Nat → Option Nat} {a1 : Int32} (hG : aGood sh rv) (hf : fX12_couldBe a1 i rv = some (vR, iR, rvR)) : aGood sh rvR := by
  unfold fX12_couldBe at hf
  obtain ⟨i1, rv2, hh3, hf⟩ := bd2 hf
  have hG := gdX12_tryBorder hG hh3
  exact gX12_couldBe_7 fuel _ _ _ _ hG  hf
theorem okX12_couldBe {l : Launch} {sh : List aSh} {i : Nat → Nat → Int32} {lo : Nat → Nat → Int64} {rv : Nat → Nat → Option Nat}  {a1 : Int32} {vR : Int32} {iR : Nat → Nat → Int32} {rvR : Nat → Nat → Option Nat} (hG : aGood sh rv) (hf : fX12_couldBe a1 i rv = some (vR, iR, rvR)) : aM l yX12_couldBe cX12_couldBe 3 (some .boolean) 1150 [.ref (100 + 50), .int a1] (sh, i, lo, rv) (some (.int vR)) (sh, iR, lo, rvR) :=
  aM_of (by decide) (Nat.le_of_ble_eq_true rfl) (Nat.le_refl _) (Nat.le_refl _) (fun p e s m args below meth c D cA A ad0 hX hr hlk hnm => kX12_couldBe hX hr hlk (Nat.le_refl _) (Nat.le_refl _) hG hf)
end DC
