/-! decompiled: X12_readLines X12_fault X12_text X12_copy X12_isSleeper X12_isOfficer X12_isChild X12_inBerth X12_snoresBeside X12_sleepOf X12_wakes X12_paperAt X12_turnOf -/
section DC
variable {p : Program} {l : Launch} {e : Env} {R : Room} {s : State} {m : MethodId} {args : Array Value} {below : List Frame} {meth : Method} {c : Code} {D : va_G} {cA : FieldType → ClassId} {A : Nat → Prop} {ad0 : Nat → Nat} {sh : List aSh} {i i0 : Nat → Nat → Int32} {lo lo0 : Nat → Nat → Int64} {rv rv0 : Nat → Nat → Option Nat}
def fX12_readLines_74 (kh17 : Int32 → Int32 → (Nat → Nat → Int32) → (Nat → Nat → Option Nat) → Option ((Nat → Nat → Int32) × (Nat → Nat → Option Nat))) (x1 : Int32) (x2 : Int32) (i : Nat → Nat → Int32) (rv : Nat → Nat → Option Nat) : Option ((Nat → Nat → Int32) × (Nat → Nat → Option Nat)) := if x2 = 0 then (kh17 x1 x2 i rv) else (lt (u2 i 50 10 ((i 50 10) + (1 : Int32))) fun i19 =>
    kh17 x1 x2 i19 rv)
theorem kX12_readLines_74  {iR : Nat → Nat → Int32} {rvR : Nat → Nat → Option Nat} (hX : aX p s m args c RX12 cX12_readLines 3 D cA A ad0) (hr : meth.sig.returnType = none) (hlk : meth.locks = false) (hRf : 6 ≤ R.frames) (hRl : 64 * 6 ≤ R.locals) {kh17 : Int32 → Int32 → (Nat → Nat → Int32) → (Nat → Nat → Option Nat) → Option ((Nat → Nat → Int32) × (Nat → Nat → Option Nat))} (Hkh17 : ∀ (x1 : Int32) (x2 : Int32) (i : Nat → Nat → Int32) (rv : Nat → Nat → Option Nat), aGood sh rv → kh17 x1 x2 i rv = some (iR, rvR) → aJ p l e R s m args below meth c (MQ below (aPost D cA ad0 A (sh, i0, lo0, rv0) none (sh, iR, lo, rvR)) args s (sh.length - sh.length) (aSn sh - aSn sh) A) D cA A ad0 3 sh.length (aSn sh) 17 [some (.ref (100 + 50)), some (.int x1), some (.int x2)] [] (sh, i, lo, rv)) {x1 : Int32} {x2 : Int32} (hG : aGood sh rv) (hf : fX12_readLines_74 kh17 x1 x2 i rv = some (iR, rvR)) : aJ p l e R s m args below meth c (MQ below (aPost D cA ad0 A (sh, i0, lo0, rv0) none (sh, iR, lo, rvR)) args s (sh.length - sh.length) (aSn sh - aSn sh) A) D cA A ad0 3 sh.length (aSn sh) 74 [some (.ref (100 + 50)), some (.int x1), some (.int x2)] [] (sh, i, lo, rv) := by
  unfold fX12_readLines_74 at hf
  refine j_iload_n hX dX12_readLines_74 rfl ?_
  refine j_if_eq (tgt := 17) hX dX12_readLines_75 (by decide) (fun hc => ?_) (fun hc => ?_)
  · have hf := ifp hc hf
    exact aJx (Hkh17 _ _ _ _ hG  hf) (And.intro rfl (And.intro rfl (And.intro rfl (rfl))))
  · have hf := ifn hc hf
    refine j_aload_n hX dX12_readLines_78 rfl ?_
    refine j_dup hX dX12_readLines_79 rfl ?_
    refine j_getI (k := 10) hX kX12 (by decide) fk_X12_122 dX12_readLines_80 (sh_50 hG) rfl ?_
    refine j_iconst hX dX12_readLines_83 ic_1 ?_
    refine j_iadd hX dX12_readLines_84 ?_
    refine jpc (b := 85) rfl ?_
    have hf := ltd hf
    refine j_putI (k := 10) hX kX12 (by decide) fk_X12_122 dX12_readLines_85 (sh_50 hG) rfl rfl rfl rfl ?_
    refine j_goto (tgt := 17) hX dX12_readLines_88 (by decide) ?_
    exact aJx (Hkh17 _ _ _ _ hG  hf) (And.intro rfl (And.intro rfl (And.intro rfl (rfl))))
theorem gX12_readLines_74 {iR : Nat → Nat → Int32} {rvR : Nat → Nat → Option Nat} {kh17 : Int32 → Int32 → (Nat → Nat → Int32) → (Nat → Nat → Option Nat) → Option ((Nat → Nat → Int32) × (Nat → Nat → Option Nat))} (Hkh17 : ∀ (x1 : Int32) (x2 : Int32) (i : Nat → Nat → Int32) (rv : Nat → Nat → Option Nat), aGood sh rv → kh17 x1 x2 i rv = some (iR, rvR) → aGood sh rvR) {x1 : Int32} {x2 : Int32} (hG : aGood sh rv) (hf : fX12_readLines_74 kh17 x1 x2 i rv = some (iR, rvR)) : aGood sh rvR := by
  unfold fX12_readLines_74 at hf
  refine ifs hf (fun hc hf => ?_) (fun hc hf => ?_)
  · have hf := hf
    exact Hkh17 _ _ _ _ hG  hf
  · have hf := hf
    have hf := ltd hf
    exact Hkh17 _ _ _ _ hG  hf
def fX12_readLines_57 (kh17 : Int32 → Int32 → (Nat → Nat → Int32) → (Nat → Nat → Option Nat) → Option ((Nat → Nat → Int32) × (Nat → Nat → Option Nat))) (x1 : Int32) (s0 : Int32) (i : Nat → Nat → Int32) (rv : Nat → Nat → Option Nat) : Option ((Nat → Nat → Int32) × (Nat → Nat → Option Nat)) := if s0 = 0 then (fX12_readLines_74 kh17 x1 s0 i rv) else (if x1 = 16 then (bn2 (fX12_fails i) fun v16 i17 =>
    some (i17, rv)) else (fX12_readLines_74 kh17 x1 s0 i rv))
theorem kX12_readLines_57  {iR : Nat → Nat → Int32} {rvR : Nat → Nat → Option Nat} (hX : aX p s m args c RX12 cX12_readLines 3 D cA A ad0) (hr : meth.sig.returnType = none) (hlk : meth.locks = false) (hRf : 6 ≤ R.frames) (hRl : 64 * 6 ≤ R.locals) {kh17 : Int32 → Int32 → (Nat → Nat → Int32) → (Nat → Nat → Option Nat) → Option ((Nat → Nat → Int32) × (Nat → Nat → Option Nat))} (Hkh17 : ∀ (x1 : Int32) (x2 : Int32) (i : Nat → Nat → Int32) (rv : Nat → Nat → Option Nat), aGood sh rv → kh17 x1 x2 i rv = some (iR, rvR) → aJ p l e R s m args below meth c (MQ below (aPost D cA ad0 A (sh, i0, lo0, rv0) none (sh, iR, lo, rvR)) args s (sh.length - sh.length) (aSn sh - aSn sh) A) D cA A ad0 3 sh.length (aSn sh) 17 [some (.ref (100 + 50)), some (.int x1), some (.int x2)] [] (sh, i, lo, rv)) {x1 : Int32} {s0 : Int32} (hG : aGood sh rv) (hf : fX12_readLines_57 kh17 x1 s0 i rv = some (iR, rvR)) : aJ p l e R s m args below meth c (MQ below (aPost D cA ad0 A (sh, i0, lo0, rv0) none (sh, iR, lo, rvR)) args s (sh.length - sh.length) (aSn sh - aSn sh) A) D cA A ad0 3 sh.length (aSn sh) 57 [some (.ref (100 + 50)), some (.int x1), none] [.int s0] (sh, i, lo, rv) := by
  unfold fX12_readLines_57 at hf
  refine j_istore_n hX dX12_readLines_57 (by decide) rfl ?_
  refine j_iload_n hX dX12_readLines_58 rfl ?_
  refine j_if_eq (tgt := 74) hX dX12_readLines_59 (by decide) (fun hc => ?_) (fun hc => ?_)
  · have hf := ifp hc hf
    exact aJx (kX12_readLines_74 hX hr hlk hRf hRl Hkh17 hG  hf) (And.intro rfl (And.intro rfl (And.intro rfl (rfl))))
  · have hf := ifn hc hf
    refine j_iload_n hX dX12_readLines_62 rfl ?_
    refine j_bipush hX dX12_readLines_63 bp_16 ?_
    refine j_icmp_ne (tgt := 74) hX dX12_readLines_65 (by decide) (fun hc => ?_) (fun hc => ?_)
    · have hf := ifn hc hf
      exact aJx (kX12_readLines_74 hX hr hlk hRf hRl Hkh17 hG  hf) (And.intro rfl (And.intro rfl (And.intro rfl (rfl))))
    · have hf := ifp hc hf
      refine j_aload_n hX dX12_readLines_68 rfl ?_
      obtain ⟨v16, i17, hh18, hf⟩ := bd2 hf
      refine j_cV0i hX lk_X12_137 kX12 dX12_readLines_69 (sh_50 hG) (okX12_fails hG hh18) rfl rfl (rmm (by omega) hRf hRl (by decide)) (Nat.le_of_ble_eq_true rfl) (Nat.le_add_right _ _) (Nat.le_add_right _ _) ?_
      refine j_pop hX dX12_readLines_72 rfl ?_
      cases hf
      exact j_vret hX hr hlk dX12_readLines_73
theorem gX12_readLines_57 {iR : Nat → Nat → Int32} {rvR : Nat → Nat → Option Nat} {kh17 : Int32 → Int32 → (Nat → Nat → Int32) → (Nat → Nat → Option Nat) → Option ((Nat → Nat → Int32) × (Nat → Nat → Option Nat))} (Hkh17 : ∀ (x1 : Int32) (x2 : Int32) (i : Nat → Nat → Int32) (rv : Nat → Nat → Option Nat), aGood sh rv → kh17 x1 x2 i rv = some (iR, rvR) → aGood sh rvR) {x1 : Int32} {s0 : Int32} (hG : aGood sh rv) (hf : fX12_readLines_57 kh17 x1 s0 i rv = some (iR, rvR)) : aGood sh rvR := by
  unfold fX12_readLines_57 at hf
  refine ifs hf (fun hc hf => ?_) (fun hc hf => ?_)
  · have hf := hf
    exact gX12_readLines_74 Hkh17 hG  hf
  · have hf := hf
    refine ifs2 hf (fun hc hf => ?_) (fun hc hf => ?_)
    · have hf := hf
      exact gX12_readLines_74 Hkh17 hG  hf
    · have hf := hf
      obtain ⟨v16, i17, hh18, hf⟩ := bd2 hf
      cases hf
      exact hG
def fX12_readLines_17 : Nat → Int32 → Int32 → (Nat → Nat → Int32) → (Nat → Nat → Option Nat) → Option ((Nat → Nat → Int32) × (Nat → Nat → Option Nat))
  | 0, _, _, _, _ => none
  | n + 1, x1, x2, i, rv => if x2 = 0 then (if aIn 4 5 = true then
    (lt (u2 i 62 (4 : Int32).toNatClampNeg x1) fun i4 => bn2 (fX12_look i4 rv) fun v5 i6 =>
    if v5 = (-1) then (some (i6, rv)) else (bn2 (fX12_fails i6) fun v8 i9 =>
    some (i9, rv))) else none) else (bn1 (fX12_readStep ((3 : Int32) * ((64 : Int32) + x1)) i rv) fun i11 =>
    if (i11 50 11) = (-1) then (bn2 (fX12_look i11 rv) fun v13 i14 =>
    if v13 = 59 then (fX12_readLines_57 (fX12_readLines_17 n) (x1 + 1) 1 i14 rv) else (fX12_readLines_57 (fX12_readLines_17 n) (x1 + 1) 0 i14 rv)) else (some (i11, rv)))
theorem kX12_readLines_17  {iR : Nat → Nat → Int32} {rvR : Nat → Nat → Option Nat} (hX : aX p s m args c RX12 cX12_readLines 3 D cA A ad0) (hr : meth.sig.returnType = none) (hlk : meth.locks = false) (hRf : 6 ≤ R.frames) (hRl : 64 * 6 ≤ R.locals) : ∀ (n : Nat) (x1 : Int32) (x2 : Int32) (i : Nat → Nat → Int32) (rv : Nat → Nat → Option Nat), aGood sh rv → fX12_readLines_17 n x1 x2 i rv = some (iR, rvR) → aJ p l e R s m args below meth c (MQ below (aPost D cA ad0 A (sh, i0, lo0, rv0) none (sh, iR, lo, rvR)) args s (sh.length - sh.length) (aSn sh - aSn sh) A) D cA A ad0 3 sh.length (aSn sh) 17 [some (.ref (100 + 50)), some (.int x1), some (.int x2)] [] (sh, i, lo, rv) := by
  intro n
  induction n with
  | zero => intros; rename_i hf; cases hf
  | succ n ih =>
    intro x1 x2 i rv hG hf
    rw [fX12_readLines_17] at hf
    refine j_iload_n hX dX12_readLines_17 rfl ?_
    refine j_if_eq (tgt := 91) hX dX12_readLines_18 (by decide) (fun hc => ?_) (fun hc => ?_)
    · have hf := ifp hc hf
      refine j_aload_n hX dX12_readLines_91 rfl ?_
      refine j_getR (k := 25) hX kX12 (by decide) fk_X12_58 (rf_50_25 hG) dX12_readLines_92 (sh_50 hG) rfl ?_
      refine j_iconst hX dX12_readLines_95 ic_4 ?_
      refine j_iload_n hX dX12_readLines_96 rfl ?_
      obtain ⟨hg, hf⟩ := gd hf
      have hf := ltd hf
      refine j_iast hX (sh_62 hG) hg dX12_readLines_97 ?_
      refine j_aload_n hX dX12_readLines_98 rfl ?_
      obtain ⟨v5, i6, hh7, hf⟩ := bd2 hf
      refine j_cV0i hX lk_X12_141 kX12 dX12_readLines_99 (sh_50 hG) (okX12_look hG hh7) rfl rfl (rmm (by omega) hRf hRl (by decide)) (Nat.le_of_ble_eq_true rfl) (Nat.le_add_right _ _) (Nat.le_add_right _ _) ?_
      refine j_iconst hX dX12_readLines_102 ic_m1 ?_
      refine j_icmp_eq (tgt := 111) hX dX12_readLines_103 (by decide) (fun hc => ?_) (fun hc => ?_)
      · have hf := ifp hc hf
        cases hf
        exact j_vret hX hr hlk dX12_readLines_111
      · have hf := ifn hc hf
        refine j_aload_n hX dX12_readLines_106 rfl ?_
        obtain ⟨v8, i9, hh10, hf⟩ := bd2 hf
        refine j_cV0i hX lk_X12_137 kX12 dX12_readLines_107 (sh_50 hG) (okX12_fails hG hh10) rfl rfl (rmm (by omega) hRf hRl (by decide)) (Nat.le_of_ble_eq_true rfl) (Nat.le_add_right _ _) (Nat.le_add_right _ _) ?_
        refine j_pop hX dX12_readLines_110 rfl ?_
        cases hf
        exact j_vret hX hr hlk dX12_readLines_111
    · have hf := ifn hc hf
      refine j_aload_n hX dX12_readLines_21 rfl ?_
      refine j_iconst hX dX12_readLines_22 ic_3 ?_
      refine j_bipush hX dX12_readLines_23 bp_64 ?_
      refine j_iload_n hX dX12_readLines_25 rfl ?_
      refine j_iadd hX dX12_readLines_26 ?_
      refine jpc (b := 27) rfl ?_
      refine j_imul hX dX12_readLines_27 ?_
      obtain ⟨i11, hh12, hf⟩ := bd1 hf
      refine j_cV1v hX lk_X12_275 kX12 dX12_readLines_28 (sh_50 hG) (okX12_readStep hG hh12) rfl rfl (rmm (by omega) hRf hRl (by decide)) (Nat.le_of_ble_eq_true rfl) (Nat.le_add_right _ _) (Nat.le_add_right _ _) ?_
      refine j_aload_n hX dX12_readLines_31 rfl ?_
      refine j_getI (k := 11) hX kX12 (by decide) fk_X12_131 dX12_readLines_32 (sh_50 hG) rfl ?_
      refine j_iconst hX dX12_readLines_35 ic_m1 ?_
      refine j_icmp_eq (tgt := 40) hX dX12_readLines_36 (by decide) (fun hc => ?_) (fun hc => ?_)
      · have hf := ifp hc hf
        refine j_iinc hX dX12_readLines_40 rfl (congrArg (_ + ·) ic_1) (by decide) rfl ?_
        refine j_aload_n hX dX12_readLines_43 rfl ?_
        obtain ⟨v13, i14, hh15, hf⟩ := bd2 hf
        refine j_cV0i hX lk_X12_141 kX12 dX12_readLines_44 (sh_50 hG) (okX12_look hG hh15) rfl rfl (rmm (by omega) hRf hRl (by decide)) (Nat.le_of_ble_eq_true rfl) (Nat.le_add_right _ _) (Nat.le_add_right _ _) ?_
        refine j_bipush hX dX12_readLines_47 bp_59 ?_
        refine j_icmp_ne (tgt := 56) hX dX12_readLines_49 (by decide) (fun hc => ?_) (fun hc => ?_)
        · have hf := ifn hc hf
          refine j_iconst hX dX12_readLines_56 ic_0 ?_
          exact aJx (kX12_readLines_57 hX hr hlk hRf hRl ih hG  hf) (And.intro rfl (And.intro rfl (rfl)))
        · have hf := ifp hc hf
          refine j_iconst hX dX12_readLines_52 ic_1 ?_
          refine j_goto (tgt := 57) hX dX12_readLines_53 (by decide) ?_
          exact aJx (kX12_readLines_57 hX hr hlk hRf hRl ih hG  hf) (And.intro rfl (And.intro rfl (rfl)))
      · have hf := ifn hc hf
        cases hf
        exact j_vret hX hr hlk dX12_readLines_39
theorem gX12_readLines_17 {iR : Nat → Nat → Int32} {rvR : Nat → Nat → Option Nat} : ∀ (n : Nat) (x1 : Int32) (x2 : Int32) (i : Nat → Nat → Int32) (rv : Nat → Nat → Option Nat), aGood sh rv → fX12_readLines_17 n x1 x2 i rv = some (iR, rvR) → aGood sh rvR := by
  intro n
  induction n with
  | zero => intros; rename_i hf; cases hf
  | succ n ih =>
    intro x1 x2 i rv hG hf
    rw [fX12_readLines_17] at hf
    refine ifs hf (fun hc hf => ?_) (fun hc hf => ?_)
    · have hf := hf
      obtain ⟨hg, hf⟩ := gd hf
      have hf := ltd hf
      obtain ⟨v5, i6, hh7, hf⟩ := bd2 hf
      refine ifs hf (fun hc hf => ?_) (fun hc hf => ?_)
      · have hf := hf
        cases hf
        exact hG
      · have hf := hf
        obtain ⟨v8, i9, hh10, hf⟩ := bd2 hf
        cases hf
        exact hG
    · have hf := hf
      obtain ⟨i11, hh12, hf⟩ := bd1 hf
      refine ifs hf (fun hc hf => ?_) (fun hc hf => ?_)
      · have hf := hf
        obtain ⟨v13, i14, hh15, hf⟩ := bd2 hf
        refine ifs2 hf (fun hc hf => ?_) (fun hc hf => ?_)
        · have hf := hf
          exact gX12_readLines_57 ih hG  hf
        · have hf := hf
          exact gX12_readLines_57 ih hG  hf
      · have hf := hf
        cases hf
        exact hG
def fX12_readLines (i : Nat → Nat → Int32) (rv : Nat → Nat → Option Nat) : Option ((Nat → Nat → Int32) × (Nat → Nat → Option Nat)) := bn2 (fX12_starts 51 0 (i 50 6) i rv) fun i1 rv2 =>
    fX12_readLines_17 fuel 0 1 i1 rv2
theorem kX12_readLines  {iR : Nat → Nat → Int32} {rvR : Nat → Nat → Option Nat} (hX : aX p s m args c RX12 cX12_readLines 3 D cA A ad0) (hr : meth.sig.returnType = none) (hlk : meth.locks = false) (hRf : 6 ≤ R.frames) (hRl : 64 * 6 ≤ R.locals) (hG : aGood sh rv) (hf : fX12_readLines i rv = some (iR, rvR)) : aJ p l e R s m args below meth c (MQ below (aPost D cA ad0 A (sh, i0, lo0, rv0) none (sh, iR, lo, rvR)) args s (sh.length - sh.length) (aSn sh - aSn sh) A) D cA A ad0 3 sh.length (aSn sh) 0 [some (.ref (100 + 50)), none, none] [] (sh, i, lo, rv) := by
  unfold fX12_readLines at hf
  refine j_aload_n hX dX12_readLines_0 rfl ?_
  refine j_aload_n hX dX12_readLines_1 rfl ?_
  refine j_getR (k := 1) hX kX12 (by decide) fk_X12_9 (rf_50_1 hG) dX12_readLines_2 (sh_50 hG) rfl ?_
  refine j_iconst hX dX12_readLines_5 ic_0 ?_
  refine j_aload_n hX dX12_readLines_6 rfl ?_
  refine jpc (b := 7) rfl ?_
  refine j_getI (k := 6) hX kX12 (by decide) fk_X12_112 dX12_readLines_7 (sh_50 hG) rfl ?_
  obtain ⟨i1, rv2, hh3, hf⟩ := bd2 hf
  refine j_cV3v hX lk_X12_210 kX12 dX12_readLines_10 (sh_50 hG) (okX12_starts hG (Or.inl rfl) hh3) rfl rfl (rmm (by omega) hRf hRl (by decide)) (Nat.le_of_ble_eq_true rfl) (Nat.le_add_right _ _) (Nat.le_add_right _ _) ?_
  have hG := gdX12_starts hG (Or.inl rfl) hh3
  refine j_iconst hX dX12_readLines_13 ic_0 ?_
  refine j_istore_n hX dX12_readLines_14 (by decide) rfl ?_
  refine j_iconst hX dX12_readLines_15 ic_1 ?_
  refine j_istore_n hX dX12_readLines_16 (by decide) rfl ?_
  exact aJx (kX12_readLines_17 hX hr hlk hRf hRl fuel _ _ _ _ hG  hf) (And.intro rfl (And.intro rfl (And.intro rfl (rfl))))
theorem gdX12_readLines {iR : Nat → Nat → Int32} {rvR : Nat → Nat → Option Nat} (hG : aGood sh rv) (hf : fX12_readLines i rv = some (iR, rvR)) : aGood sh rvR := by
  unfold fX12_readLines at hf
  obtain ⟨i1, rv2, hh3, hf⟩ := bd2 hf
  have hG := gdX12_starts hG (Or.inl rfl) hh3
  exact gX12_readLines_17 fuel _ _ _ _ hG  hf
theorem okX12_readLines {l : Launch} {sh : List aSh} {i : Nat → Nat → Int32} {lo : Nat → Nat → Int64} {rv : Nat → Nat → Option Nat}  {iR : Nat → Nat → Int32} {rvR : Nat → Nat → Option Nat} (hG : aGood sh rv) (hf : fX12_readLines i rv = some (iR, rvR)) : aM l yX12_readLines cX12_readLines 3 none 6 [.ref (100 + 50)] (sh, i, lo, rv) none (sh, iR, lo, rvR) :=
  aM_of (by decide) (Nat.le_of_ble_eq_true rfl) (Nat.le_refl _) (Nat.le_refl _) (fun p e s m args below meth c D cA A ad0 hX hr hlk hnm => kX12_readLines hX hr hlk (Nat.le_refl _) (Nat.le_refl _) hG hf)
def fX12_fault_46 (x1 : Int32) (i : Nat → Nat → Int32) (rv : Nat → Nat → Option Nat) : Option ((Int32) × (Nat → Nat → Int32) × (Nat → Nat → Option Nat)) := if x1 = 2 then (bn2 (fX12_readLines i rv) fun i10 rv11 =>
    some ((i10 50 11), i10, rv11)) else (some ((i 50 11), i, rv))
theorem kX12_fault_46  {vR : Int32} {iR : Nat → Nat → Int32} {rvR : Nat → Nat → Option Nat} (hX : aX p s m args c RX12 cX12_fault 2 D cA A ad0) (hr : meth.sig.returnType = (some .int)) (hlk : meth.locks = false) (hRf : 1146 ≤ R.frames) (hRl : 64 * 1146 ≤ R.locals) {x1 : Int32} (hG : aGood sh rv) (hf : fX12_fault_46 x1 i rv = some (vR, iR, rvR)) : aJ p l e R s m args below meth c (MQ below (aPost D cA ad0 A (sh, i0, lo0, rv0) (some (.int vR)) (sh, iR, lo, rvR)) args s (sh.length - sh.length) (aSn sh - aSn sh) A) D cA A ad0 2 sh.length (aSn sh) 46 [some (.ref (100 + 50)), some (.int x1)] [] (sh, i, lo, rv) := by
  unfold fX12_fault_46 at hf
  refine j_iload_n hX dX12_fault_46 rfl ?_
  refine j_iconst hX dX12_fault_47 ic_2 ?_
  refine j_icmp_ne (tgt := 55) hX dX12_fault_48 (by decide) (fun hc => ?_) (fun hc => ?_)
  · have hf := ifn hc hf
    refine j_aload_n hX dX12_fault_55 rfl ?_
    refine j_getI (k := 11) hX kX12 (by decide) fk_X12_131 dX12_fault_56 (sh_50 hG) rfl ?_
    cases hf
    exact j_ret hX hr hlk rfl dX12_fault_59
  · have hf := ifp hc hf
    refine j_aload_n hX dX12_fault_51 rfl ?_
    obtain ⟨i10, rv11, hh12, hf⟩ := bd2 hf
    refine j_cV0v hX lk_X12_286 kX12 dX12_fault_52 (sh_50 hG) (okX12_readLines hG hh12) rfl rfl (rmm (by omega) hRf hRl (by decide)) (Nat.le_of_ble_eq_true rfl) (Nat.le_add_right _ _) (Nat.le_add_right _ _) ?_
    have hG := gdX12_readLines hG hh12
    refine j_aload_n hX dX12_fault_55 rfl ?_
    refine j_getI (k := 11) hX kX12 (by decide) fk_X12_131 dX12_fault_56 (sh_50 hG) rfl ?_
    cases hf
    exact j_ret hX hr hlk rfl dX12_fault_59
theorem gX12_fault_46 {vR : Int32} {iR : Nat → Nat → Int32} {rvR : Nat → Nat → Option Nat} {x1 : Int32} (hG : aGood sh rv) (hf : fX12_fault_46 x1 i rv = some (vR, iR, rvR)) : aGood sh rvR := by
  unfold fX12_fault_46 at hf
  refine ifs2 hf (fun hc hf => ?_) (fun hc hf => ?_)
  · have hf := hf
    cases hf
    exact hG
  · have hf := hf
    obtain ⟨i10, rv11, hh12, hf⟩ := bd2 hf
    have hG := gdX12_readLines hG hh12
    cases hf
    exact hG
def fX12_fault_28 (x1 : Int32) (i : Nat → Nat → Int32) (rv : Nat → Nat → Option Nat) : Option ((Int32) × (Nat → Nat → Int32) × (Nat → Nat → Option Nat)) := if x1 = 1 then (bn2 (fX12_goThrough 51 0 (i 50 6) i rv) fun i7 rv8 =>
    fX12_fault_46 x1 i7 rv8) else (fX12_fault_46 x1 i rv)
theorem kX12_fault_28  {vR : Int32} {iR : Nat → Nat → Int32} {rvR : Nat → Nat → Option Nat} (hX : aX p s m args c RX12 cX12_fault 2 D cA A ad0) (hr : meth.sig.returnType = (some .int)) (hlk : meth.locks = false) (hRf : 1146 ≤ R.frames) (hRl : 64 * 1146 ≤ R.locals) {x1 : Int32} (hG : aGood sh rv) (hf : fX12_fault_28 x1 i rv = some (vR, iR, rvR)) : aJ p l e R s m args below meth c (MQ below (aPost D cA ad0 A (sh, i0, lo0, rv0) (some (.int vR)) (sh, iR, lo, rvR)) args s (sh.length - sh.length) (aSn sh - aSn sh) A) D cA A ad0 2 sh.length (aSn sh) 28 [some (.ref (100 + 50)), some (.int x1)] [] (sh, i, lo, rv) := by
  unfold fX12_fault_28 at hf
  refine j_iload_n hX dX12_fault_28 rfl ?_
  refine j_iconst hX dX12_fault_29 ic_1 ?_
  refine j_icmp_ne (tgt := 46) hX dX12_fault_30 (by decide) (fun hc => ?_) (fun hc => ?_)
  · have hf := ifn hc hf
    exact aJx (kX12_fault_46 hX hr hlk hRf hRl hG  hf) (And.intro rfl (And.intro rfl (rfl)))
  · have hf := ifp hc hf
    refine j_aload_n hX dX12_fault_33 rfl ?_
    refine j_aload_n hX dX12_fault_34 rfl ?_
    refine j_getR (k := 1) hX kX12 (by decide) fk_X12_9 (rf_50_1 hG) dX12_fault_35 (sh_50 hG) rfl ?_
    refine j_iconst hX dX12_fault_38 ic_0 ?_
    refine j_aload_n hX dX12_fault_39 rfl ?_
    refine jpc (b := 40) rfl ?_
    refine j_getI (k := 6) hX kX12 (by decide) fk_X12_112 dX12_fault_40 (sh_50 hG) rfl ?_
    obtain ⟨i7, rv8, hh9, hf⟩ := bd2 hf
    refine j_cV3v hX lk_X12_283 kX12 dX12_fault_43 (sh_50 hG) (okX12_goThrough hG (Or.inl rfl) hh9) rfl rfl (rmm (by omega) hRf hRl (by decide)) (Nat.le_of_ble_eq_true rfl) (Nat.le_add_right _ _) (Nat.le_add_right _ _) ?_
    have hG := gdX12_goThrough hG (Or.inl rfl) hh9
    exact aJx (kX12_fault_46 hX hr hlk hRf hRl hG  hf) (And.intro rfl (And.intro rfl (rfl)))
theorem gX12_fault_28 {vR : Int32} {iR : Nat → Nat → Int32} {rvR : Nat → Nat → Option Nat} {x1 : Int32} (hG : aGood sh rv) (hf : fX12_fault_28 x1 i rv = some (vR, iR, rvR)) : aGood sh rvR := by
  unfold fX12_fault_28 at hf
  refine ifs2 hf (fun hc hf => ?_) (fun hc hf => ?_)
  · have hf := hf
    exact gX12_fault_46 hG  hf
  · have hf := hf
    obtain ⟨i7, rv8, hh9, hf⟩ := bd2 hf
    have hG := gdX12_goThrough hG (Or.inl rfl) hh9
    exact gX12_fault_46 hG  hf
def fX12_fault (a1 : Int32) (i : Nat → Nat → Int32) (rv : Nat → Nat → Option Nat) : Option ((Int32) × (Nat → Nat → Int32) × (Nat → Nat → Option Nat)) := lt (u2 i 50 0 0) fun i1 =>
    bn1 (fX12_isIn (a1 : Int32).toInt64 0 2) fun v2 =>
    if v2 = 0 then (some ((-2), i1, rv)) else (if a1 = 0 then (bn2 (fX12_readCar i1 rv) fun i4 rv5 =>
    fX12_fault_28 a1 i4 rv5) else (fX12_fault_28 a1 i1 rv))
theorem kX12_fault  {vR : Int32} {iR : Nat → Nat → Int32} {rvR : Nat → Nat → Option Nat} (hX : aX p s m args c RX12 cX12_fault 2 D cA A ad0) (hr : meth.sig.returnType = (some .int)) (hlk : meth.locks = false) (hRf : 1146 ≤ R.frames) (hRl : 64 * 1146 ≤ R.locals) {a1 : Int32} (hG : aGood sh rv) (hf : fX12_fault a1 i rv = some (vR, iR, rvR)) : aJ p l e R s m args below meth c (MQ below (aPost D cA ad0 A (sh, i0, lo0, rv0) (some (.int vR)) (sh, iR, lo, rvR)) args s (sh.length - sh.length) (aSn sh - aSn sh) A) D cA A ad0 2 sh.length (aSn sh) 0 [some (.ref (100 + 50)), some (.int a1)] [] (sh, i, lo, rv) := by
  unfold fX12_fault at hf
  refine j_aload_n hX dX12_fault_0 rfl ?_
  refine j_iconst hX dX12_fault_1 ic_0 ?_
  have hf := ltd hf
  refine j_putI (k := 0) hX kX12 (by decide) fk_X12_99 dX12_fault_2 (sh_50 hG) rfl rfl rfl rfl ?_
  refine j_iload_n hX dX12_fault_5 rfl ?_
  refine j_i2l hX dX12_fault_6 ?_
  refine jpc (b := 7) rfl ?_
  refine j_lconst (v := 0) hX dX12_fault_7 (by decide) ?_
  refine j_ldc2_w hX kc_X12_278 dX12_fault_8 ?_
  obtain ⟨v2, hh3, hf⟩ := bd1 hf
  refine j_cS3i hX lk_X12_220 dX12_fault_11 (okX12_isIn hG hh3) rfl rfl (rmm (by omega) hRf hRl (by decide)) (Nat.le_of_ble_eq_true rfl) (Nat.le_add_right _ _) (Nat.le_add_right _ _) ?_
  refine j_if_ne (tgt := 20) hX dX12_fault_14 (by decide) (fun hc => ?_) (fun hc => ?_)
  · have hf := ifn hc hf
    refine j_iload_n hX dX12_fault_20 rfl ?_
    refine j_if_ne (tgt := 28) hX dX12_fault_21 (by decide) (fun hc => ?_) (fun hc => ?_)
    · have hf := ifn hc hf
      exact aJx (kX12_fault_28 hX hr hlk hRf hRl hG  hf) (And.intro rfl (And.intro rfl (rfl)))
    · have hf := ifp hc hf
      refine j_aload_n hX dX12_fault_24 rfl ?_
      obtain ⟨i4, rv5, hh6, hf⟩ := bd2 hf
      refine j_cV0v hX lk_X12_280 kX12 dX12_fault_25 (sh_50 hG) (okX12_readCar hG hh6) rfl rfl (rmm (by omega) hRf hRl (by decide)) (Nat.le_of_ble_eq_true rfl) (Nat.le_add_right _ _) (Nat.le_add_right _ _) ?_
      have hG := gdX12_readCar hG hh6
      exact aJx (kX12_fault_28 hX hr hlk hRf hRl hG  hf) (And.intro rfl (And.intro rfl (rfl)))
  · have hf := ifp hc hf
    refine j_bipush hX dX12_fault_17 bp_m2 ?_
    cases hf
    exact j_ret hX hr hlk rfl dX12_fault_19
theorem gdX12_fault {vR : Int32} {iR : Nat → Nat → Int32} {rvR : Nat → Nat → Option Nat} {a1 : Int32} (hG : aGood sh rv) (hf : fX12_fault a1 i rv = some (vR, iR, rvR)) : aGood sh rvR := by
  unfold fX12_fault at hf
  have hf := ltd hf
  obtain ⟨v2, hh3, hf⟩ := bd1 hf
  refine ifs2 hf (fun hc hf => ?_) (fun hc hf => ?_)
  · have hf := hf
    refine ifs2 hf (fun hc hf => ?_) (fun hc hf => ?_)
    · have hf := hf
      exact gX12_fault_28 hG  hf
    · have hf := hf
      obtain ⟨i4, rv5, hh6, hf⟩ := bd2 hf
      have hG := gdX12_readCar hG hh6
      exact gX12_fault_28 hG  hf
  · have hf := hf
    cases hf
    exact hG
theorem okX12_fault {l : Launch} {sh : List aSh} {i : Nat → Nat → Int32} {lo : Nat → Nat → Int64} {rv : Nat → Nat → Option Nat}  {a1 : Int32} {vR : Int32} {iR : Nat → Nat → Int32} {rvR : Nat → Nat → Option Nat} (hG : aGood sh rv) (hf : fX12_fault a1 i rv = some (vR, iR, rvR)) : aM l yX12_fault cX12_fault 2 (some .int) 1146 [.ref (100 + 50), .int a1] (sh, i, lo, rv) (some (.int vR)) (sh, iR, lo, rvR) :=
  aM_of (by decide) (Nat.le_of_ble_eq_true rfl) (Nat.le_refl _) (Nat.le_refl _) (fun p e s m args below meth c D cA A ad0 hX hr hlk hnm => kX12_fault hX hr hlk (Nat.le_refl _) (Nat.le_refl _) hG hf)
def fX12_text_71 : Nat → Int32 → Int32 → (Nat → Nat → Int32) → (Nat → Nat → Option Nat) → Option ((Int32) × (Nat → Nat → Int32) × (Nat → Nat → Option Nat))
  | 0, _, _, _, _ => none
  | n + 1, x2, x3, i, rv => if x2 ≤ x3 then (if aIn (i 50 7) 4 = true then
    (lt (u2 i 53 ((i 50 7) : Int32).toNatClampNeg x2) fun i15 => lt (u2 i15 50 7 ((i15 50 7) + (1 : Int32))) fun i16 =>
    some (((i16 50 7) - (1 : Int32)), i16, rv)) else none) else (if aIn x3 240 = true then
    (if aIn (((240 : Int32) * (i 50 7)) + x3) 960 = true then
    (lt (u2 i 52 ((((240 : Int32) * (i 50 7)) + x3) : Int32).toNatClampNeg (vp_nar .byte (i 51 (x3 : Int32).toNatClampNeg))) fun i17 => fX12_text_71 n x2 (x3 + 1) i17 rv) else none) else none)
theorem kX12_text_71  {vR : Int32} {iR : Nat → Nat → Int32} {rvR : Nat → Nat → Option Nat} (hX : aX p s m args c RX12 cX12_text 4 D cA A ad0) (hr : meth.sig.returnType = (some .int)) (hlk : meth.locks = false) (hRf : 1147 ≤ R.frames) (hRl : 64 * 1147 ≤ R.locals) : ∀ (n : Nat) (x2 : Int32) (x3 : Int32) (i : Nat → Nat → Int32) (rv : Nat → Nat → Option Nat), aGood sh rv → fX12_text_71 n x2 x3 i rv = some (vR, iR, rvR) → aJ p l e R s m args below meth c (MQ below (aPost D cA ad0 A (sh, i0, lo0, rv0) (some (.int vR)) (sh, iR, lo, rvR)) args s (sh.length - sh.length) (aSn sh - aSn sh) A) D cA A ad0 4 sh.length (aSn sh) 71 [some (.ref (100 + 50)), none, some (.int x2), some (.int x3)] [] (sh, i, lo, rv) := by
  intro n
  induction n with
  | zero => intros; rename_i hf; cases hf
  | succ n ih =>
    intro x2 x3 i rv hG hf
    rw [fX12_text_71] at hf
    refine j_iload_n hX dX12_text_71 rfl ?_
    refine j_iload_n hX dX12_text_72 rfl ?_
    refine j_icmp_ge (tgt := 103) hX dX12_text_73 (by decide) (fun hc => ?_) (fun hc => ?_)
    · have hf := ifp hc hf
      refine j_aload_n hX dX12_text_103 rfl ?_
      refine j_getR (k := 3) hX kX12 (by decide) fk_X12_16 (rf_50_3 hG) dX12_text_104 (sh_50 hG) rfl ?_
      refine j_aload_n hX dX12_text_107 rfl ?_
      refine j_getI (k := 7) hX kX12 (by decide) fk_X12_289 dX12_text_108 (sh_50 hG) rfl ?_
      refine j_iload_n hX dX12_text_111 rfl ?_
      refine jpc (b := 112) rfl ?_
      obtain ⟨hg, hf⟩ := gd hf
      have hf := ltd hf
      refine j_iast hX (sh_53 hG) hg dX12_text_112 ?_
      refine j_aload_n hX dX12_text_113 rfl ?_
      refine j_dup hX dX12_text_114 rfl ?_
      refine j_getI (k := 7) hX kX12 (by decide) fk_X12_289 dX12_text_115 (sh_50 hG) rfl ?_
      refine j_iconst hX dX12_text_118 ic_1 ?_
      refine j_iadd hX dX12_text_119 ?_
      refine jpc (b := 120) rfl ?_
      have hf := ltd hf
      refine j_putI (k := 7) hX kX12 (by decide) fk_X12_289 dX12_text_120 (sh_50 hG) rfl rfl rfl rfl ?_
      refine j_aload_n hX dX12_text_123 rfl ?_
      refine j_getI (k := 7) hX kX12 (by decide) fk_X12_289 dX12_text_124 (sh_50 hG) rfl ?_
      refine j_iconst hX dX12_text_127 ic_1 ?_
      refine j_isub hX dX12_text_128 ?_
      cases hf
      exact j_ret hX hr hlk rfl dX12_text_129
    · have hf := ifn hc hf
      refine j_aload_n hX dX12_text_76 rfl ?_
      refine j_getR (k := 2) hX kX12 (by decide) fk_X12_13 (rf_50_2 hG) dX12_text_77 (sh_50 hG) rfl ?_
      refine j_sipush hX dX12_text_80 sp_240 ?_
      refine j_aload_n hX dX12_text_83 rfl ?_
      refine j_getI (k := 7) hX kX12 (by decide) fk_X12_289 dX12_text_84 (sh_50 hG) rfl ?_
      refine jpc (b := 87) rfl ?_
      refine j_imul hX dX12_text_87 ?_
      refine j_iload_n hX dX12_text_88 rfl ?_
      refine j_iadd hX dX12_text_89 ?_
      refine j_aload_n hX dX12_text_90 rfl ?_
      refine j_getR (k := 1) hX kX12 (by decide) fk_X12_9 (rf_50_1 hG) dX12_text_91 (sh_50 hG) rfl ?_
      refine j_iload_n hX dX12_text_94 rfl ?_
      refine jpc (b := 95) rfl ?_
      obtain ⟨hg, hf⟩ := gd hf
      refine j_bald hX (sh_51 hG) hg dX12_text_95 ?_
      obtain ⟨hg, hf⟩ := gd hf
      have hf := ltd hf
      refine j_bast hX (sh_52 hG) hg dX12_text_96 ?_
      refine j_iinc hX dX12_text_97 rfl (congrArg (_ + ·) ic_1) (by decide) rfl ?_
      refine j_goto (tgt := 71) hX dX12_text_100 (by decide) ?_
      exact aJx (ih _ _ _ _ hG  hf) (And.intro rfl (And.intro rfl (And.intro rfl (rfl))))
theorem gX12_text_71 {vR : Int32} {iR : Nat → Nat → Int32} {rvR : Nat → Nat → Option Nat} : ∀ (n : Nat) (x2 : Int32) (x3 : Int32) (i : Nat → Nat → Int32) (rv : Nat → Nat → Option Nat), aGood sh rv → fX12_text_71 n x2 x3 i rv = some (vR, iR, rvR) → aGood sh rvR := by
  intro n
  induction n with
  | zero => intros; rename_i hf; cases hf
  | succ n ih =>
    intro x2 x3 i rv hG hf
    rw [fX12_text_71] at hf
    refine ifs hf (fun hc hf => ?_) (fun hc hf => ?_)
    · have hf := hf
      obtain ⟨hg, hf⟩ := gd hf
      have hf := ltd hf
      have hf := ltd hf
      cases hf
      exact hG
    · have hf := hf
      obtain ⟨hg, hf⟩ := gd hf
      obtain ⟨hg, hf⟩ := gd hf
      have hf := ltd hf
      exact ih _ _ _ _ hG  hf
def fX12_text_137 : Nat → Int32 → (Nat → Nat → Int32) → (Nat → Nat → Option Nat) → Option ((Int32) × (Nat → Nat → Int32) × (Nat → Nat → Option Nat))
  | 0, _, _, _ => none
  | n + 1, x3, i, rv => if 48 ≤ x3 then (if aIn 4 5 = true then
    (if aIn (i 50 31) 5 = true then
    (lt (u2 i 62 ((i 50 31) : Int32).toNatClampNeg (i 62 (4 : Int32).toNatClampNeg)) fun i12 => lt (u2 i12 50 31 ((i12 50 31) + (1 : Int32))) fun i13 =>
    some (((i13 50 31) - (1 : Int32)), i13, rv)) else none) else none) else (if aIn ((192 : Int32) + x3) 240 = true then
    (if aIn (((48 : Int32) * (i 50 31)) + x3) 240 = true then
    (lt (u2 i 61 ((((48 : Int32) * (i 50 31)) + x3) : Int32).toNatClampNeg (i 61 (((192 : Int32) + x3) : Int32).toNatClampNeg)) fun i14 => fX12_text_137 n (x3 + 1) i14 rv) else none) else none)
theorem kX12_text_137  {vR : Int32} {iR : Nat → Nat → Int32} {rvR : Nat → Nat → Option Nat} (hX : aX p s m args c RX12 cX12_text 4 D cA A ad0) (hr : meth.sig.returnType = (some .int)) (hlk : meth.locks = false) (hRf : 1147 ≤ R.frames) (hRl : 64 * 1147 ≤ R.locals) : ∀ (n : Nat) (x3 : Int32) (i : Nat → Nat → Int32) (rv : Nat → Nat → Option Nat), aGood sh rv → fX12_text_137 n x3 i rv = some (vR, iR, rvR) → aJ p l e R s m args below meth c (MQ below (aPost D cA ad0 A (sh, i0, lo0, rv0) (some (.int vR)) (sh, iR, lo, rvR)) args s (sh.length - sh.length) (aSn sh - aSn sh) A) D cA A ad0 4 sh.length (aSn sh) 137 [some (.ref (100 + 50)), none, none, some (.int x3)] [] (sh, i, lo, rv) := by
  intro n
  induction n with
  | zero => intros; rename_i hf; cases hf
  | succ n ih =>
    intro x3 i rv hG hf
    rw [fX12_text_137] at hf
    refine j_iload_n hX dX12_text_137 rfl ?_
    refine j_bipush hX dX12_text_138 bp_48 ?_
    refine j_icmp_ge (tgt := 173) hX dX12_text_140 (by decide) (fun hc => ?_) (fun hc => ?_)
    · have hf := ifp hc hf
      refine j_aload_n hX dX12_text_173 rfl ?_
      refine j_getR (k := 25) hX kX12 (by decide) fk_X12_58 (rf_50_25 hG) dX12_text_174 (sh_50 hG) rfl ?_
      refine j_aload_n hX dX12_text_177 rfl ?_
      refine j_getI (k := 31) hX kX12 (by decide) fk_X12_292 dX12_text_178 (sh_50 hG) rfl ?_
      refine j_aload_n hX dX12_text_181 rfl ?_
      refine jpc (b := 182) rfl ?_
      refine j_getR (k := 25) hX kX12 (by decide) fk_X12_58 (rf_50_25 hG) dX12_text_182 (sh_50 hG) rfl ?_
      refine j_iconst hX dX12_text_185 ic_4 ?_
      obtain ⟨hg, hf⟩ := gd hf
      refine j_iald hX (sh_62 hG) hg dX12_text_186 ?_
      obtain ⟨hg, hf⟩ := gd hf
      have hf := ltd hf
      refine j_iast hX (sh_62 hG) hg dX12_text_187 ?_
      refine j_aload_n hX dX12_text_188 rfl ?_
      refine j_dup hX dX12_text_189 rfl ?_
      refine j_getI (k := 31) hX kX12 (by decide) fk_X12_292 dX12_text_190 (sh_50 hG) rfl ?_
      refine j_iconst hX dX12_text_193 ic_1 ?_
      refine j_iadd hX dX12_text_194 ?_
      refine jpc (b := 195) rfl ?_
      have hf := ltd hf
      refine j_putI (k := 31) hX kX12 (by decide) fk_X12_292 dX12_text_195 (sh_50 hG) rfl rfl rfl rfl ?_
      refine j_aload_n hX dX12_text_198 rfl ?_
      refine j_getI (k := 31) hX kX12 (by decide) fk_X12_292 dX12_text_199 (sh_50 hG) rfl ?_
      refine j_iconst hX dX12_text_202 ic_1 ?_
      refine j_isub hX dX12_text_203 ?_
      cases hf
      exact j_ret hX hr hlk rfl dX12_text_204
    · have hf := ifn hc hf
      refine j_aload_n hX dX12_text_143 rfl ?_
      refine j_getR (k := 24) hX kX12 (by decide) fk_X12_55 (rf_50_24 hG) dX12_text_144 (sh_50 hG) rfl ?_
      refine j_bipush hX dX12_text_147 bp_48 ?_
      refine j_aload_n hX dX12_text_149 rfl ?_
      refine j_getI (k := 31) hX kX12 (by decide) fk_X12_292 dX12_text_150 (sh_50 hG) rfl ?_
      refine jpc (b := 153) rfl ?_
      refine j_imul hX dX12_text_153 ?_
      refine j_iload_n hX dX12_text_154 rfl ?_
      refine j_iadd hX dX12_text_155 ?_
      refine j_aload_n hX dX12_text_156 rfl ?_
      refine j_getR (k := 24) hX kX12 (by decide) fk_X12_55 (rf_50_24 hG) dX12_text_157 (sh_50 hG) rfl ?_
      refine j_sipush hX dX12_text_160 sp_192 ?_
      refine jpc (b := 163) rfl ?_
      refine j_iload_n hX dX12_text_163 rfl ?_
      refine j_iadd hX dX12_text_164 ?_
      obtain ⟨hg, hf⟩ := gd hf
      refine j_iald hX (sh_61 hG) hg dX12_text_165 ?_
      obtain ⟨hg, hf⟩ := gd hf
      have hf := ltd hf
      refine j_iast hX (sh_61 hG) hg dX12_text_166 ?_
      refine j_iinc hX dX12_text_167 rfl (congrArg (_ + ·) ic_1) (by decide) rfl ?_
      refine j_goto (tgt := 137) hX dX12_text_170 (by decide) ?_
      exact aJx (ih _ _ _ hG  hf) (And.intro rfl (And.intro rfl (rfl)))
theorem gX12_text_137 {vR : Int32} {iR : Nat → Nat → Int32} {rvR : Nat → Nat → Option Nat} : ∀ (n : Nat) (x3 : Int32) (i : Nat → Nat → Int32) (rv : Nat → Nat → Option Nat), aGood sh rv → fX12_text_137 n x3 i rv = some (vR, iR, rvR) → aGood sh rvR := by
  intro n
  induction n with
  | zero => intros; rename_i hf; cases hf
  | succ n ih =>
    intro x3 i rv hG hf
    rw [fX12_text_137] at hf
    refine ifs hf (fun hc hf => ?_) (fun hc hf => ?_)
    · have hf := hf
      obtain ⟨hg, hf⟩ := gd hf
      obtain ⟨hg, hf⟩ := gd hf
      have hf := ltd hf
      have hf := ltd hf
      cases hf
      exact hG
    · have hf := hf
      obtain ⟨hg, hf⟩ := gd hf
      obtain ⟨hg, hf⟩ := gd hf
      have hf := ltd hf
      exact ih _ _ _ hG  hf
def fX12_text_380 (kh327 : Int32 → (Nat → Nat → Int32) → (Nat → Nat → Option Nat) → Option ((Int32) × (Nat → Nat → Int32) × (Nat → Nat → Option Nat))) (x3 : Int32) (s1 : Int32) (s2 : Int32) (i : Nat → Nat → Int32) (rv : Nat → Nat → Option Nat) : Option ((Int32) × (Nat → Nat → Int32) × (Nat → Nat → Option Nat)) := if aIn s1 296 = true then
    (lt (u2 i 63 (s1 : Int32).toNatClampNeg s2) fun i28 => if aIn (((6 : Int32) * x3) + (5 : Int32)) 54 = true then
    (lt (u2 i28 50 28 ((i28 50 28) + ((1 : Int32) - (i28 57 ((((6 : Int32) * x3) + (5 : Int32)) : Int32).toNatClampNeg)))) fun i29 =>
    if aIn (((6 : Int32) * x3) + (3 : Int32)) 296 = true then
    (lt (u2 i29 63 ((((6 : Int32) * x3) + (3 : Int32)) : Int32).toNatClampNeg 1) fun i30 => kh327 (x3 + 1) i30 rv) else none) else none) else none
theorem kX12_text_380  {vR : Int32} {iR : Nat → Nat → Int32} {rvR : Nat → Nat → Option Nat} (hX : aX p s m args c RX12 cX12_text 4 D cA A ad0) (hr : meth.sig.returnType = (some .int)) (hlk : meth.locks = false) (hRf : 1147 ≤ R.frames) (hRl : 64 * 1147 ≤ R.locals) {kh327 : Int32 → (Nat → Nat → Int32) → (Nat → Nat → Option Nat) → Option ((Int32) × (Nat → Nat → Int32) × (Nat → Nat → Option Nat))} (Hkh327 : ∀ (x3 : Int32) (i : Nat → Nat → Int32) (rv : Nat → Nat → Option Nat), aGood sh rv → kh327 x3 i rv = some (vR, iR, rvR) → aJ p l e R s m args below meth c (MQ below (aPost D cA ad0 A (sh, i0, lo0, rv0) (some (.int vR)) (sh, iR, lo, rvR)) args s (sh.length - sh.length) (aSn sh - aSn sh) A) D cA A ad0 4 sh.length (aSn sh) 327 [some (.ref (100 + 50)), none, none, some (.int x3)] [] (sh, i, lo, rv)) {x3 : Int32} {s1 : Int32} {s2 : Int32} (hG : aGood sh rv) (hf : fX12_text_380 kh327 x3 s1 s2 i rv = some (vR, iR, rvR)) : aJ p l e R s m args below meth c (MQ below (aPost D cA ad0 A (sh, i0, lo0, rv0) (some (.int vR)) (sh, iR, lo, rvR)) args s (sh.length - sh.length) (aSn sh - aSn sh) A) D cA A ad0 4 sh.length (aSn sh) 380 [some (.ref (100 + 50)), none, none, some (.int x3)] [.int s2, .int s1, .ref (100 + 63)] (sh, i, lo, rv) := by
  unfold fX12_text_380 at hf
  obtain ⟨hg, hf⟩ := gd hf
  have hf := ltd hf
  refine j_iast hX (sh_63 hG) hg dX12_text_380 ?_
  refine j_aload_n hX dX12_text_381 rfl ?_
  refine j_dup hX dX12_text_382 rfl ?_
  refine j_getI (k := 28) hX kX12 (by decide) fk_X12_303 dX12_text_383 (sh_50 hG) rfl ?_
  refine j_iconst hX dX12_text_386 ic_1 ?_
  refine j_aload_n hX dX12_text_387 rfl ?_
  refine jpc (b := 388) rfl ?_
  refine j_getR (k := 20) hX kX12 (by decide) fk_X12_43 (rf_50_20 hG) dX12_text_388 (sh_50 hG) rfl ?_
  refine j_bipush hX dX12_text_391 bp_6 ?_
  refine j_iload_n hX dX12_text_393 rfl ?_
  refine j_imul hX dX12_text_394 ?_
  refine j_iconst hX dX12_text_395 ic_5 ?_
  refine j_iadd hX dX12_text_396 ?_
  refine jpc (b := 397) rfl ?_
  obtain ⟨hg, hf⟩ := gd hf
  refine j_iald hX (sh_57 hG) hg dX12_text_397 ?_
  refine j_isub hX dX12_text_398 ?_
  refine j_iadd hX dX12_text_399 ?_
  have hf := ltd hf
  refine j_putI (k := 28) hX kX12 (by decide) fk_X12_303 dX12_text_400 (sh_50 hG) rfl rfl rfl rfl ?_
  refine j_aload_n hX dX12_text_403 rfl ?_
  refine j_getR (k := 33) hX kX12 (by decide) fk_X12_61 (rf_50_33 hG) dX12_text_404 (sh_50 hG) rfl ?_
  refine jpc (b := 407) rfl ?_
  refine j_bipush hX dX12_text_407 bp_6 ?_
  refine j_iload_n hX dX12_text_409 rfl ?_
  refine j_imul hX dX12_text_410 ?_
  refine j_iconst hX dX12_text_411 ic_3 ?_
  refine j_iadd hX dX12_text_412 ?_
  refine j_iconst hX dX12_text_413 ic_1 ?_
  refine jpc (b := 414) rfl ?_
  obtain ⟨hg, hf⟩ := gd hf
  have hf := ltd hf
  refine j_iast hX (sh_63 hG) hg dX12_text_414 ?_
  refine j_iinc hX dX12_text_415 rfl (congrArg (_ + ·) ic_1) (by decide) rfl ?_
  refine j_goto (tgt := 327) hX dX12_text_418 (by decide) ?_
  exact aJx (Hkh327 _ _ _ hG  hf) (And.intro rfl (And.intro rfl (rfl)))
theorem gX12_text_380 {vR : Int32} {iR : Nat → Nat → Int32} {rvR : Nat → Nat → Option Nat} {kh327 : Int32 → (Nat → Nat → Int32) → (Nat → Nat → Option Nat) → Option ((Int32) × (Nat → Nat → Int32) × (Nat → Nat → Option Nat))} (Hkh327 : ∀ (x3 : Int32) (i : Nat → Nat → Int32) (rv : Nat → Nat → Option Nat), aGood sh rv → kh327 x3 i rv = some (vR, iR, rvR) → aGood sh rvR) {x3 : Int32} {s1 : Int32} {s2 : Int32} (hG : aGood sh rv) (hf : fX12_text_380 kh327 x3 s1 s2 i rv = some (vR, iR, rvR)) : aGood sh rvR := by
  unfold fX12_text_380 at hf
  obtain ⟨hg, hf⟩ := gd hf
  have hf := ltd hf
  obtain ⟨hg, hf⟩ := gd hf
  have hf := ltd hf
  obtain ⟨hg, hf⟩ := gd hf
  have hf := ltd hf
  exact Hkh327 _ _ _ hG  hf
def fX12_text_327 : Nat → Int32 → (Nat → Nat → Int32) → (Nat → Nat → Option Nat) → Option ((Int32) × (Nat → Nat → Int32) × (Nat → Nat → Option Nat))
  | 0, _, _, _ => none
  | n + 1, x3, i, rv => if (i 50 26) ≤ x3 then (if aIn 2 4 = true then
    (if aIn 54 296 = true then
    (lt (u2 i 63 (54 : Int32).toNatClampNeg (i 55 (2 : Int32).toNatClampNeg)) fun i22 => lt (u2 i22 50 49 0) fun i23 =>
    lt (u2 i23 50 52 0) fun i24 =>
    lt (u2 i24 50 42 0) fun i25 =>
    lt (u2 i25 50 57 0) fun i26 =>
    some ((i26 50 26), i26, rv)) else none) else none) else (if aIn (((6 : Int32) * x3) + (0 : Int32)) 296 = true then
    (lt (u2 i 63 ((((6 : Int32) * x3) + (0 : Int32)) : Int32).toNatClampNeg x3) fun i27 => if aIn (((6 : Int32) * x3) + (5 : Int32)) 54 = true then
    (if (i27 57 ((((6 : Int32) * x3) + (5 : Int32)) : Int32).toNatClampNeg) = 1 then (fX12_text_380 (fX12_text_327 n) x3 (((6 : Int32) * x3) + (1 : Int32)) (-1) i27 rv) else (fX12_text_380 (fX12_text_327 n) x3 (((6 : Int32) * x3) + (1 : Int32)) (i27 50 28) i27 rv)) else none) else none)
theorem kX12_text_327  {vR : Int32} {iR : Nat → Nat → Int32} {rvR : Nat → Nat → Option Nat} (hX : aX p s m args c RX12 cX12_text 4 D cA A ad0) (hr : meth.sig.returnType = (some .int)) (hlk : meth.locks = false) (hRf : 1147 ≤ R.frames) (hRl : 64 * 1147 ≤ R.locals) : ∀ (n : Nat) (x3 : Int32) (i : Nat → Nat → Int32) (rv : Nat → Nat → Option Nat), aGood sh rv → fX12_text_327 n x3 i rv = some (vR, iR, rvR) → aJ p l e R s m args below meth c (MQ below (aPost D cA ad0 A (sh, i0, lo0, rv0) (some (.int vR)) (sh, iR, lo, rvR)) args s (sh.length - sh.length) (aSn sh - aSn sh) A) D cA A ad0 4 sh.length (aSn sh) 327 [some (.ref (100 + 50)), none, none, some (.int x3)] [] (sh, i, lo, rv) := by
  intro n
  induction n with
  | zero => intros; rename_i hf; cases hf
  | succ n ih =>
    intro x3 i rv hG hf
    rw [fX12_text_327] at hf
    refine j_iload_n hX dX12_text_327 rfl ?_
    refine j_aload_n hX dX12_text_328 rfl ?_
    refine j_getI (k := 26) hX kX12 (by decide) fk_X12_297 dX12_text_329 (sh_50 hG) rfl ?_
    refine j_icmp_ge (tgt := 421) hX dX12_text_332 (by decide) (fun hc => ?_) (fun hc => ?_)
    · have hf := ifp hc hf
      refine j_aload_n hX dX12_text_421 rfl ?_
      refine j_getR (k := 33) hX kX12 (by decide) fk_X12_61 (rf_50_33 hG) dX12_text_422 (sh_50 hG) rfl ?_
      refine j_bipush hX dX12_text_425 bp_54 ?_
      refine j_aload_n hX dX12_text_427 rfl ?_
      refine j_getR (k := 18) hX kX12 (by decide) fk_X12_37 (rf_50_18 hG) dX12_text_428 (sh_50 hG) rfl ?_
      refine jpc (b := 431) rfl ?_
      refine j_iconst hX dX12_text_431 ic_2 ?_
      obtain ⟨hg, hf⟩ := gd hf
      refine j_iald hX (sh_55 hG) hg dX12_text_432 ?_
      obtain ⟨hg, hf⟩ := gd hf
      have hf := ltd hf
      refine j_iast hX (sh_63 hG) hg dX12_text_433 ?_
      refine j_aload_n hX dX12_text_434 rfl ?_
      refine j_iconst hX dX12_text_435 ic_0 ?_
      have hf := ltd hf
      refine j_putI (k := 49) hX kX12 (by decide) fk_X12_306 dX12_text_436 (sh_50 hG) rfl rfl rfl rfl ?_
      refine j_aload_n hX dX12_text_439 rfl ?_
      refine j_iconst hX dX12_text_440 ic_0 ?_
      refine jpc (b := 441) rfl ?_
      have hf := ltd hf
      refine j_putI (k := 52) hX kX12 (by decide) fk_X12_309 dX12_text_441 (sh_50 hG) rfl rfl rfl rfl ?_
      refine j_aload_n hX dX12_text_444 rfl ?_
      refine j_iconst hX dX12_text_445 ic_0 ?_
      have hf := ltd hf
      refine j_putI (k := 42) hX kX12 (by decide) fk_X12_312 dX12_text_446 (sh_50 hG) rfl rfl rfl rfl ?_
      refine j_aload_n hX dX12_text_449 rfl ?_
      refine j_iconst hX dX12_text_450 ic_0 ?_
      refine jpc (b := 451) rfl ?_
      have hf := ltd hf
      refine j_putI (k := 57) hX kX12 (by decide) fk_X12_315 dX12_text_451 (sh_50 hG) rfl rfl rfl rfl ?_
      refine j_aload_n hX dX12_text_454 rfl ?_
      refine j_getI (k := 26) hX kX12 (by decide) fk_X12_297 dX12_text_455 (sh_50 hG) rfl ?_
      cases hf
      exact j_ret hX hr hlk rfl dX12_text_458
    · have hf := ifn hc hf
      refine j_aload_n hX dX12_text_335 rfl ?_
      refine j_getR (k := 33) hX kX12 (by decide) fk_X12_61 (rf_50_33 hG) dX12_text_336 (sh_50 hG) rfl ?_
      refine j_bipush hX dX12_text_339 bp_6 ?_
      refine j_iload_n hX dX12_text_341 rfl ?_
      refine j_imul hX dX12_text_342 ?_
      refine jpc (b := 343) rfl ?_
      refine j_iconst hX dX12_text_343 ic_0 ?_
      refine j_iadd hX dX12_text_344 ?_
      refine j_iload_n hX dX12_text_345 rfl ?_
      obtain ⟨hg, hf⟩ := gd hf
      have hf := ltd hf
      refine j_iast hX (sh_63 hG) hg dX12_text_346 ?_
      refine j_aload_n hX dX12_text_347 rfl ?_
      refine j_getR (k := 33) hX kX12 (by decide) fk_X12_61 (rf_50_33 hG) dX12_text_348 (sh_50 hG) rfl ?_
      refine j_bipush hX dX12_text_351 bp_6 ?_
      refine j_iload_n hX dX12_text_353 rfl ?_
      refine j_imul hX dX12_text_354 ?_
      refine jpc (b := 355) rfl ?_
      refine j_iconst hX dX12_text_355 ic_1 ?_
      refine j_iadd hX dX12_text_356 ?_
      refine j_aload_n hX dX12_text_357 rfl ?_
      refine j_getR (k := 20) hX kX12 (by decide) fk_X12_43 (rf_50_20 hG) dX12_text_358 (sh_50 hG) rfl ?_
      refine j_bipush hX dX12_text_361 bp_6 ?_
      refine j_iload_n hX dX12_text_363 rfl ?_
      refine jpc (b := 364) rfl ?_
      refine j_imul hX dX12_text_364 ?_
      refine j_iconst hX dX12_text_365 ic_5 ?_
      refine j_iadd hX dX12_text_366 ?_
      obtain ⟨hg, hf⟩ := gd hf
      refine j_iald hX (sh_57 hG) hg dX12_text_367 ?_
      refine j_iconst hX dX12_text_368 ic_1 ?_
      refine j_icmp_ne (tgt := 376) hX dX12_text_369 (by decide) (fun hc => ?_) (fun hc => ?_)
      · have hf := ifn hc hf
        refine j_aload_n hX dX12_text_376 rfl ?_
        refine j_getI (k := 28) hX kX12 (by decide) fk_X12_303 dX12_text_377 (sh_50 hG) rfl ?_
        exact aJx (kX12_text_380 hX hr hlk hRf hRl ih hG  hf) (And.intro rfl (And.intro rfl (rfl)))
      · have hf := ifp hc hf
        refine j_iconst hX dX12_text_372 ic_m1 ?_
        refine j_goto (tgt := 380) hX dX12_text_373 (by decide) ?_
        exact aJx (kX12_text_380 hX hr hlk hRf hRl ih hG  hf) (And.intro rfl (And.intro rfl (rfl)))
theorem gX12_text_327 {vR : Int32} {iR : Nat → Nat → Int32} {rvR : Nat → Nat → Option Nat} : ∀ (n : Nat) (x3 : Int32) (i : Nat → Nat → Int32) (rv : Nat → Nat → Option Nat), aGood sh rv → fX12_text_327 n x3 i rv = some (vR, iR, rvR) → aGood sh rvR := by
  intro n
  induction n with
  | zero => intros; rename_i hf; cases hf
  | succ n ih =>
    intro x3 i rv hG hf
    rw [fX12_text_327] at hf
    refine ifs hf (fun hc hf => ?_) (fun hc hf => ?_)
    · have hf := hf
      obtain ⟨hg, hf⟩ := gd hf
      obtain ⟨hg, hf⟩ := gd hf
      have hf := ltd hf
      have hf := ltd hf
      have hf := ltd hf
      have hf := ltd hf
      have hf := ltd hf
      cases hf
      exact hG
    · have hf := hf
      obtain ⟨hg, hf⟩ := gd hf
      have hf := ltd hf
      obtain ⟨hg, hf⟩ := gd hf
      refine ifs2 hf (fun hc hf => ?_) (fun hc hf => ?_)
      · have hf := hf
        exact gX12_text_380 ih hG  hf
      · have hf := hf
        exact gX12_text_380 ih hG  hf
def fX12_text_300 : Nat → Int32 → (Nat → Nat → Int32) → (Nat → Nat → Option Nat) → Option ((Int32) × (Nat → Nat → Int32) × (Nat → Nat → Option Nat))
  | 0, _, _, _ => none
  | n + 1, x3, i, rv => if 296 ≤ x3 then (lt (u2 i 50 28 0) fun i20 =>
    fX12_text_327 fuel 0 i20 rv) else (if aIn x3 296 = true then
    (lt (u2 i 63 (x3 : Int32).toNatClampNeg 0) fun i21 => fX12_text_300 n (x3 + 1) i21 rv) else none)
theorem kX12_text_300  {vR : Int32} {iR : Nat → Nat → Int32} {rvR : Nat → Nat → Option Nat} (hX : aX p s m args c RX12 cX12_text 4 D cA A ad0) (hr : meth.sig.returnType = (some .int)) (hlk : meth.locks = false) (hRf : 1147 ≤ R.frames) (hRl : 64 * 1147 ≤ R.locals) : ∀ (n : Nat) (x3 : Int32) (i : Nat → Nat → Int32) (rv : Nat → Nat → Option Nat), aGood sh rv → fX12_text_300 n x3 i rv = some (vR, iR, rvR) → aJ p l e R s m args below meth c (MQ below (aPost D cA ad0 A (sh, i0, lo0, rv0) (some (.int vR)) (sh, iR, lo, rvR)) args s (sh.length - sh.length) (aSn sh - aSn sh) A) D cA A ad0 4 sh.length (aSn sh) 300 [some (.ref (100 + 50)), none, none, some (.int x3)] [] (sh, i, lo, rv) := by
  intro n
  induction n with
  | zero => intros; rename_i hf; cases hf
  | succ n ih =>
    intro x3 i rv hG hf
    rw [fX12_text_300] at hf
    refine j_iload_n hX dX12_text_300 rfl ?_
    refine j_sipush hX dX12_text_301 sp_296 ?_
    refine j_icmp_ge (tgt := 320) hX dX12_text_304 (by decide) (fun hc => ?_) (fun hc => ?_)
    · have hf := ifp hc hf
      refine j_aload_n hX dX12_text_320 rfl ?_
      refine j_iconst hX dX12_text_321 ic_0 ?_
      have hf := ltd hf
      refine j_putI (k := 28) hX kX12 (by decide) fk_X12_303 dX12_text_322 (sh_50 hG) rfl rfl rfl rfl ?_
      refine j_iconst hX dX12_text_325 ic_0 ?_
      refine j_istore_n hX dX12_text_326 (by decide) rfl ?_
      exact aJx (kX12_text_327 hX hr hlk hRf hRl fuel _ _ _ hG  hf) (And.intro rfl (And.intro rfl (rfl)))
    · have hf := ifn hc hf
      refine j_aload_n hX dX12_text_307 rfl ?_
      refine j_getR (k := 33) hX kX12 (by decide) fk_X12_61 (rf_50_33 hG) dX12_text_308 (sh_50 hG) rfl ?_
      refine j_iload_n hX dX12_text_311 rfl ?_
      refine j_iconst hX dX12_text_312 ic_0 ?_
      obtain ⟨hg, hf⟩ := gd hf
      have hf := ltd hf
      refine j_iast hX (sh_63 hG) hg dX12_text_313 ?_
      refine j_iinc hX dX12_text_314 rfl (congrArg (_ + ·) ic_1) (by decide) rfl ?_
      refine j_goto (tgt := 300) hX dX12_text_317 (by decide) ?_
      exact aJx (ih _ _ _ hG  hf) (And.intro rfl (And.intro rfl (rfl)))
theorem gX12_text_300 {vR : Int32} {iR : Nat → Nat → Int32} {rvR : Nat → Nat → Option Nat} : ∀ (n : Nat) (x3 : Int32) (i : Nat → Nat → Int32) (rv : Nat → Nat → Option Nat), aGood sh rv → fX12_text_300 n x3 i rv = some (vR, iR, rvR) → aGood sh rvR := by
  intro n
  induction n with
  | zero => intros; rename_i hf; cases hf
  | succ n ih =>
    intro x3 i rv hG hf
    rw [fX12_text_300] at hf
    refine ifs hf (fun hc hf => ?_) (fun hc hf => ?_)
    · have hf := hf
      have hf := ltd hf
      exact gX12_text_327 fuel _ _ _ hG  hf
    · have hf := hf
      obtain ⟨hg, hf⟩ := gd hf
      have hf := ltd hf
      exact ih _ _ _ hG  hf
def fX12_text_274 : Nat → Int32 → (Nat → Nat → Int32) → (Nat → Nat → Option Nat) → Option ((Int32) × (Nat → Nat → Int32) × (Nat → Nat → Option Nat))
  | 0, _, _, _ => none
  | n + 1, x3, i, rv => if 16 ≤ x3 then (fX12_text_300 fuel 0 i rv) else (if aIn x3 16 = true then
    (if aIn x3 16 = true then
    (lt (u2 i 59 (x3 : Int32).toNatClampNeg (i 60 (x3 : Int32).toNatClampNeg)) fun i19 => fX12_text_274 n (x3 + 1) i19 rv) else none) else none)
theorem kX12_text_274  {vR : Int32} {iR : Nat → Nat → Int32} {rvR : Nat → Nat → Option Nat} (hX : aX p s m args c RX12 cX12_text 4 D cA A ad0) (hr : meth.sig.returnType = (some .int)) (hlk : meth.locks = false) (hRf : 1147 ≤ R.frames) (hRl : 64 * 1147 ≤ R.locals) : ∀ (n : Nat) (x3 : Int32) (i : Nat → Nat → Int32) (rv : Nat → Nat → Option Nat), aGood sh rv → fX12_text_274 n x3 i rv = some (vR, iR, rvR) → aJ p l e R s m args below meth c (MQ below (aPost D cA ad0 A (sh, i0, lo0, rv0) (some (.int vR)) (sh, iR, lo, rvR)) args s (sh.length - sh.length) (aSn sh - aSn sh) A) D cA A ad0 4 sh.length (aSn sh) 274 [some (.ref (100 + 50)), none, none, some (.int x3)] [] (sh, i, lo, rv) := by
  intro n
  induction n with
  | zero => intros; rename_i hf; cases hf
  | succ n ih =>
    intro x3 i rv hG hf
    rw [fX12_text_274] at hf
    refine j_iload_n hX dX12_text_274 rfl ?_
    refine j_bipush hX dX12_text_275 bp_16 ?_
    refine j_icmp_ge (tgt := 298) hX dX12_text_277 (by decide) (fun hc => ?_) (fun hc => ?_)
    · have hf := ifp hc hf
      refine j_iconst hX dX12_text_298 ic_0 ?_
      refine j_istore_n hX dX12_text_299 (by decide) rfl ?_
      exact aJx (kX12_text_300 hX hr hlk hRf hRl fuel _ _ _ hG  hf) (And.intro rfl (And.intro rfl (rfl)))
    · have hf := ifn hc hf
      refine j_aload_n hX dX12_text_280 rfl ?_
      refine j_getR (k := 22) hX kX12 (by decide) fk_X12_49 (rf_50_22 hG) dX12_text_281 (sh_50 hG) rfl ?_
      refine j_iload_n hX dX12_text_284 rfl ?_
      refine j_aload_n hX dX12_text_285 rfl ?_
      refine j_getR (k := 23) hX kX12 (by decide) fk_X12_52 (rf_50_23 hG) dX12_text_286 (sh_50 hG) rfl ?_
      refine jpc (b := 289) rfl ?_
      refine j_iload_n hX dX12_text_289 rfl ?_
      obtain ⟨hg, hf⟩ := gd hf
      refine j_iald hX (sh_60 hG) hg dX12_text_290 ?_
      obtain ⟨hg, hf⟩ := gd hf
      have hf := ltd hf
      refine j_iast hX (sh_59 hG) hg dX12_text_291 ?_
      refine j_iinc hX dX12_text_292 rfl (congrArg (_ + ·) ic_1) (by decide) rfl ?_
      refine j_goto (tgt := 274) hX dX12_text_295 (by decide) ?_
      exact aJx (ih _ _ _ hG  hf) (And.intro rfl (And.intro rfl (rfl)))
theorem gX12_text_274 {vR : Int32} {iR : Nat → Nat → Int32} {rvR : Nat → Nat → Option Nat} : ∀ (n : Nat) (x3 : Int32) (i : Nat → Nat → Int32) (rv : Nat → Nat → Option Nat), aGood sh rv → fX12_text_274 n x3 i rv = some (vR, iR, rvR) → aGood sh rvR := by
  intro n
  induction n with
  | zero => intros; rename_i hf; cases hf
  | succ n ih =>
    intro x3 i rv hG hf
    rw [fX12_text_274] at hf
    refine ifs hf (fun hc hf => ?_) (fun hc hf => ?_)
    · have hf := hf
      exact gX12_text_300 fuel _ _ _ hG  hf
    · have hf := hf
      obtain ⟨hg, hf⟩ := gd hf
      obtain ⟨hg, hf⟩ := gd hf
      have hf := ltd hf
      exact ih _ _ _ hG  hf
def fX12_text_248 : Nat → Int32 → (Nat → Nat → Int32) → (Nat → Nat → Option Nat) → Option ((Int32) × (Nat → Nat → Int32) × (Nat → Nat → Option Nat))
  | 0, _, _, _ => none
  | n + 1, x3, i, rv => if 54 ≤ x3 then (fX12_text_274 fuel 0 i rv) else (if aIn x3 54 = true then
    (if aIn x3 54 = true then
    (lt (u2 i 57 (x3 : Int32).toNatClampNeg (i 58 (x3 : Int32).toNatClampNeg)) fun i18 => fX12_text_248 n (x3 + 1) i18 rv) else none) else none)
theorem kX12_text_248  {vR : Int32} {iR : Nat → Nat → Int32} {rvR : Nat → Nat → Option Nat} (hX : aX p s m args c RX12 cX12_text 4 D cA A ad0) (hr : meth.sig.returnType = (some .int)) (hlk : meth.locks = false) (hRf : 1147 ≤ R.frames) (hRl : 64 * 1147 ≤ R.locals) : ∀ (n : Nat) (x3 : Int32) (i : Nat → Nat → Int32) (rv : Nat → Nat → Option Nat), aGood sh rv → fX12_text_248 n x3 i rv = some (vR, iR, rvR) → aJ p l e R s m args below meth c (MQ below (aPost D cA ad0 A (sh, i0, lo0, rv0) (some (.int vR)) (sh, iR, lo, rvR)) args s (sh.length - sh.length) (aSn sh - aSn sh) A) D cA A ad0 4 sh.length (aSn sh) 248 [some (.ref (100 + 50)), none, none, some (.int x3)] [] (sh, i, lo, rv) := by
  intro n
  induction n with
  | zero => intros; rename_i hf; cases hf
  | succ n ih =>
    intro x3 i rv hG hf
    rw [fX12_text_248] at hf
    refine j_iload_n hX dX12_text_248 rfl ?_
    refine j_bipush hX dX12_text_249 bp_54 ?_
    refine j_icmp_ge (tgt := 272) hX dX12_text_251 (by decide) (fun hc => ?_) (fun hc => ?_)
    · have hf := ifp hc hf
      refine j_iconst hX dX12_text_272 ic_0 ?_
      refine j_istore_n hX dX12_text_273 (by decide) rfl ?_
      exact aJx (kX12_text_274 hX hr hlk hRf hRl fuel _ _ _ hG  hf) (And.intro rfl (And.intro rfl (rfl)))
    · have hf := ifn hc hf
      refine j_aload_n hX dX12_text_254 rfl ?_
      refine j_getR (k := 20) hX kX12 (by decide) fk_X12_43 (rf_50_20 hG) dX12_text_255 (sh_50 hG) rfl ?_
      refine j_iload_n hX dX12_text_258 rfl ?_
      refine j_aload_n hX dX12_text_259 rfl ?_
      refine j_getR (k := 21) hX kX12 (by decide) fk_X12_46 (rf_50_21 hG) dX12_text_260 (sh_50 hG) rfl ?_
      refine jpc (b := 263) rfl ?_
      refine j_iload_n hX dX12_text_263 rfl ?_
      obtain ⟨hg, hf⟩ := gd hf
      refine j_iald hX (sh_58 hG) hg dX12_text_264 ?_
      obtain ⟨hg, hf⟩ := gd hf
      have hf := ltd hf
      refine j_iast hX (sh_57 hG) hg dX12_text_265 ?_
      refine j_iinc hX dX12_text_266 rfl (congrArg (_ + ·) ic_1) (by decide) rfl ?_
      refine j_goto (tgt := 248) hX dX12_text_269 (by decide) ?_
      exact aJx (ih _ _ _ hG  hf) (And.intro rfl (And.intro rfl (rfl)))
theorem gX12_text_248 {vR : Int32} {iR : Nat → Nat → Int32} {rvR : Nat → Nat → Option Nat} : ∀ (n : Nat) (x3 : Int32) (i : Nat → Nat → Int32) (rv : Nat → Nat → Option Nat), aGood sh rv → fX12_text_248 n x3 i rv = some (vR, iR, rvR) → aGood sh rvR := by
  intro n
  induction n with
  | zero => intros; rename_i hf; cases hf
  | succ n ih =>
    intro x3 i rv hG hf
    rw [fX12_text_248] at hf
    refine ifs hf (fun hc hf => ?_) (fun hc hf => ?_)
    · have hf := hf
      exact gX12_text_274 fuel _ _ _ hG  hf
    · have hf := hf
      obtain ⟨hg, hf⟩ := gd hf
      obtain ⟨hg, hf⟩ := gd hf
      have hf := ltd hf
      exact ih _ _ _ hG  hf
def fX12_text_223 : Nat → Int32 → (Nat → Nat → Int32) → (Nat → Nat → Option Nat) → Option ((Int32) × (Nat → Nat → Int32) × (Nat → Nat → Option Nat))
  | 0, _, _, _ => none
  | n + 1, x3, i, rv => if 4 ≤ x3 then (fX12_text_248 fuel 0 i rv) else (if aIn x3 4 = true then
    (if aIn x3 4 = true then
    (lt (u2 i 55 (x3 : Int32).toNatClampNeg (i 56 (x3 : Int32).toNatClampNeg)) fun i11 => fX12_text_223 n (x3 + 1) i11 rv) else none) else none)
theorem kX12_text_223  {vR : Int32} {iR : Nat → Nat → Int32} {rvR : Nat → Nat → Option Nat} (hX : aX p s m args c RX12 cX12_text 4 D cA A ad0) (hr : meth.sig.returnType = (some .int)) (hlk : meth.locks = false) (hRf : 1147 ≤ R.frames) (hRl : 64 * 1147 ≤ R.locals) : ∀ (n : Nat) (x3 : Int32) (i : Nat → Nat → Int32) (rv : Nat → Nat → Option Nat), aGood sh rv → fX12_text_223 n x3 i rv = some (vR, iR, rvR) → aJ p l e R s m args below meth c (MQ below (aPost D cA ad0 A (sh, i0, lo0, rv0) (some (.int vR)) (sh, iR, lo, rvR)) args s (sh.length - sh.length) (aSn sh - aSn sh) A) D cA A ad0 4 sh.length (aSn sh) 223 [some (.ref (100 + 50)), none, none, some (.int x3)] [] (sh, i, lo, rv) := by
  intro n
  induction n with
  | zero => intros; rename_i hf; cases hf
  | succ n ih =>
    intro x3 i rv hG hf
    rw [fX12_text_223] at hf
    refine j_iload_n hX dX12_text_223 rfl ?_
    refine j_iconst hX dX12_text_224 ic_4 ?_
    refine j_icmp_ge (tgt := 246) hX dX12_text_225 (by decide) (fun hc => ?_) (fun hc => ?_)
    · have hf := ifp hc hf
      refine j_iconst hX dX12_text_246 ic_0 ?_
      refine j_istore_n hX dX12_text_247 (by decide) rfl ?_
      exact aJx (kX12_text_248 hX hr hlk hRf hRl fuel _ _ _ hG  hf) (And.intro rfl (And.intro rfl (rfl)))
    · have hf := ifn hc hf
      refine j_aload_n hX dX12_text_228 rfl ?_
      refine j_getR (k := 18) hX kX12 (by decide) fk_X12_37 (rf_50_18 hG) dX12_text_229 (sh_50 hG) rfl ?_
      refine j_iload_n hX dX12_text_232 rfl ?_
      refine j_aload_n hX dX12_text_233 rfl ?_
      refine j_getR (k := 19) hX kX12 (by decide) fk_X12_40 (rf_50_19 hG) dX12_text_234 (sh_50 hG) rfl ?_
      refine jpc (b := 237) rfl ?_
      refine j_iload_n hX dX12_text_237 rfl ?_
      obtain ⟨hg, hf⟩ := gd hf
      refine j_iald hX (sh_56 hG) hg dX12_text_238 ?_
      obtain ⟨hg, hf⟩ := gd hf
      have hf := ltd hf
      refine j_iast hX (sh_55 hG) hg dX12_text_239 ?_
      refine j_iinc hX dX12_text_240 rfl (congrArg (_ + ·) ic_1) (by decide) rfl ?_
      refine j_goto (tgt := 223) hX dX12_text_243 (by decide) ?_
      exact aJx (ih _ _ _ hG  hf) (And.intro rfl (And.intro rfl (rfl)))
theorem gX12_text_223 {vR : Int32} {iR : Nat → Nat → Int32} {rvR : Nat → Nat → Option Nat} : ∀ (n : Nat) (x3 : Int32) (i : Nat → Nat → Int32) (rv : Nat → Nat → Option Nat), aGood sh rv → fX12_text_223 n x3 i rv = some (vR, iR, rvR) → aGood sh rvR := by
  intro n
  induction n with
  | zero => intros; rename_i hf; cases hf
  | succ n ih =>
    intro x3 i rv hG hf
    rw [fX12_text_223] at hf
    refine ifs hf (fun hc hf => ?_) (fun hc hf => ?_)
    · have hf := hf
      exact gX12_text_248 fuel _ _ _ hG  hf
    · have hf := hf
      obtain ⟨hg, hf⟩ := gd hf
      obtain ⟨hg, hf⟩ := gd hf
      have hf := ltd hf
      exact ih _ _ _ hG  hf
def fX12_text_43 (x1 : Int32) (i : Nat → Nat → Int32) (rv : Nat → Nat → Option Nat) : Option ((Int32) × (Nat → Nat → Int32) × (Nat → Nat → Option Nat)) := bn3 (fX12_fault x1 i rv) fun v4 i5 rv6 =>
    if v4 = (-1) then (lt (u2 i5 50 6 0) fun i8 =>
    if x1 = 1 then (fX12_text_71 fuel (i5 50 6) 0 i8 rv6) else (if x1 = 2 then (fX12_text_137 fuel 0 i8 rv6) else (lt (u2 i8 50 26 (i8 50 29)) fun i9 =>
    lt (u2 i9 50 27 (i9 50 30)) fun i10 =>
    fX12_text_223 fuel 0 i10 rv6))) else (some ((-1), i5, rv6))
theorem kX12_text_43  {vR : Int32} {iR : Nat → Nat → Int32} {rvR : Nat → Nat → Option Nat} (hX : aX p s m args c RX12 cX12_text 4 D cA A ad0) (hr : meth.sig.returnType = (some .int)) (hlk : meth.locks = false) (hRf : 1147 ≤ R.frames) (hRl : 64 * 1147 ≤ R.locals) {x1 : Int32} (hG : aGood sh rv) (hf : fX12_text_43 x1 i rv = some (vR, iR, rvR)) : aJ p l e R s m args below meth c (MQ below (aPost D cA ad0 A (sh, i0, lo0, rv0) (some (.int vR)) (sh, iR, lo, rvR)) args s (sh.length - sh.length) (aSn sh - aSn sh) A) D cA A ad0 4 sh.length (aSn sh) 43 [some (.ref (100 + 50)), some (.int x1), none, none] [] (sh, i, lo, rv) := by
  unfold fX12_text_43 at hf
  refine j_aload_n hX dX12_text_43 rfl ?_
  refine j_iload_n hX dX12_text_44 rfl ?_
  obtain ⟨v4, i5, rv6, hh7, hf⟩ := bd3 hf
  refine j_cV1i hX lk_X12_295 kX12 dX12_text_45 (sh_50 hG) (okX12_fault hG hh7) rfl rfl (rmm (by omega) hRf hRl (by decide)) (Nat.le_of_ble_eq_true rfl) (Nat.le_add_right _ _) (Nat.le_add_right _ _) ?_
  have hG := gdX12_fault hG hh7
  refine j_iconst hX dX12_text_48 ic_m1 ?_
  refine j_icmp_eq (tgt := 54) hX dX12_text_49 (by decide) (fun hc => ?_) (fun hc => ?_)
  · have hf := ifp hc hf
    refine j_aload_n hX dX12_text_54 rfl ?_
    refine j_getI (k := 6) hX kX12 (by decide) fk_X12_112 dX12_text_55 (sh_50 hG) rfl ?_
    refine j_istore_n hX dX12_text_58 (by decide) rfl ?_
    refine j_aload_n hX dX12_text_59 rfl ?_
    refine j_iconst hX dX12_text_60 ic_0 ?_
    refine jpc (b := 61) rfl ?_
    have hf := ltd hf
    refine j_putI (k := 6) hX kX12 (by decide) fk_X12_112 dX12_text_61 (sh_50 hG) rfl rfl rfl rfl ?_
    refine j_iload_n hX dX12_text_64 rfl ?_
    refine j_iconst hX dX12_text_65 ic_1 ?_
    refine j_icmp_ne (tgt := 130) hX dX12_text_66 (by decide) (fun hc => ?_) (fun hc => ?_)
    · have hf := ifn hc hf
      refine j_iload_n hX dX12_text_130 rfl ?_
      refine j_iconst hX dX12_text_131 ic_2 ?_
      refine j_icmp_ne (tgt := 205) hX dX12_text_132 (by decide) (fun hc => ?_) (fun hc => ?_)
      · have hf := ifn hc hf
        refine j_aload_n hX dX12_text_205 rfl ?_
        refine j_aload_n hX dX12_text_206 rfl ?_
        refine j_getI (k := 29) hX kX12 (by decide) fk_X12_248 dX12_text_207 (sh_50 hG) rfl ?_
        have hf := ltd hf
        refine j_putI (k := 26) hX kX12 (by decide) fk_X12_297 dX12_text_210 (sh_50 hG) rfl rfl rfl rfl ?_
        refine j_aload_n hX dX12_text_213 rfl ?_
        refine jpc (b := 214) rfl ?_
        refine j_aload_n hX dX12_text_214 rfl ?_
        refine j_getI (k := 30) hX kX12 (by decide) fk_X12_251 dX12_text_215 (sh_50 hG) rfl ?_
        have hf := ltd hf
        refine j_putI (k := 27) hX kX12 (by decide) fk_X12_300 dX12_text_218 (sh_50 hG) rfl rfl rfl rfl ?_
        refine j_iconst hX dX12_text_221 ic_0 ?_
        refine j_istore_n hX dX12_text_222 (by decide) rfl ?_
        exact aJx (kX12_text_223 hX hr hlk hRf hRl fuel _ _ _ hG  hf) (And.intro rfl (And.intro rfl (rfl)))
      · have hf := ifp hc hf
        refine j_iconst hX dX12_text_135 ic_0 ?_
        refine j_istore_n hX dX12_text_136 (by decide) rfl ?_
        exact aJx (kX12_text_137 hX hr hlk hRf hRl fuel _ _ _ hG  hf) (And.intro rfl (And.intro rfl (rfl)))
    · have hf := ifp hc hf
      refine j_iconst hX dX12_text_69 ic_0 ?_
      refine j_istore_n hX dX12_text_70 (by decide) rfl ?_
      exact aJx (kX12_text_71 hX hr hlk hRf hRl fuel _ _ _ _ hG  hf) (And.intro rfl (And.intro rfl (And.intro rfl (rfl))))
  · have hf := ifn hc hf
    refine j_iconst hX dX12_text_52 ic_m1 ?_
    cases hf
    exact j_ret hX hr hlk rfl dX12_text_53
theorem gX12_text_43 {vR : Int32} {iR : Nat → Nat → Int32} {rvR : Nat → Nat → Option Nat} {x1 : Int32} (hG : aGood sh rv) (hf : fX12_text_43 x1 i rv = some (vR, iR, rvR)) : aGood sh rvR := by
  unfold fX12_text_43 at hf
  obtain ⟨v4, i5, rv6, hh7, hf⟩ := bd3 hf
  have hG := gdX12_fault hG hh7
  refine ifs hf (fun hc hf => ?_) (fun hc hf => ?_)
  · have hf := hf
    have hf := ltd hf
    refine ifs2 hf (fun hc hf => ?_) (fun hc hf => ?_)
    · have hf := hf
      refine ifs2 hf (fun hc hf => ?_) (fun hc hf => ?_)
      · have hf := hf
        have hf := ltd hf
        have hf := ltd hf
        exact gX12_text_223 fuel _ _ _ hG  hf
      · have hf := hf
        exact gX12_text_137 fuel _ _ _ hG  hf
    · have hf := hf
      exact gX12_text_71 fuel _ _ _ _ hG  hf
  · have hf := hf
    cases hf
    exact hG
def fX12_text_30 (x1 : Int32) (i : Nat → Nat → Int32) (rv : Nat → Nat → Option Nat) : Option ((Int32) × (Nat → Nat → Int32) × (Nat → Nat → Option Nat)) := if x1 = 2 then (if (i 50 31) = 4 then (some ((-1), i, rv)) else (fX12_text_43 x1 i rv)) else (fX12_text_43 x1 i rv)
theorem kX12_text_30  {vR : Int32} {iR : Nat → Nat → Int32} {rvR : Nat → Nat → Option Nat} (hX : aX p s m args c RX12 cX12_text 4 D cA A ad0) (hr : meth.sig.returnType = (some .int)) (hlk : meth.locks = false) (hRf : 1147 ≤ R.frames) (hRl : 64 * 1147 ≤ R.locals) {x1 : Int32} (hG : aGood sh rv) (hf : fX12_text_30 x1 i rv = some (vR, iR, rvR)) : aJ p l e R s m args below meth c (MQ below (aPost D cA ad0 A (sh, i0, lo0, rv0) (some (.int vR)) (sh, iR, lo, rvR)) args s (sh.length - sh.length) (aSn sh - aSn sh) A) D cA A ad0 4 sh.length (aSn sh) 30 [some (.ref (100 + 50)), some (.int x1), none, none] [] (sh, i, lo, rv) := by
  unfold fX12_text_30 at hf
  refine j_iload_n hX dX12_text_30 rfl ?_
  refine j_iconst hX dX12_text_31 ic_2 ?_
  refine j_icmp_ne (tgt := 43) hX dX12_text_32 (by decide) (fun hc => ?_) (fun hc => ?_)
  · have hf := ifn hc hf
    exact aJx (kX12_text_43 hX hr hlk hRf hRl hG  hf) (And.intro rfl (And.intro rfl (rfl)))
  · have hf := ifp hc hf
    refine j_aload_n hX dX12_text_35 rfl ?_
    refine j_getI (k := 31) hX kX12 (by decide) fk_X12_292 dX12_text_36 (sh_50 hG) rfl ?_
    refine j_iconst hX dX12_text_39 ic_4 ?_
    refine j_icmp_eq (tgt := 52) hX dX12_text_40 (by decide) (fun hc => ?_) (fun hc => ?_)
    · have hf := ifp hc hf
      refine j_iconst hX dX12_text_52 ic_m1 ?_
      cases hf
      exact j_ret hX hr hlk rfl dX12_text_53
    · have hf := ifn hc hf
      exact aJx (kX12_text_43 hX hr hlk hRf hRl hG  hf) (And.intro rfl (And.intro rfl (rfl)))
theorem gX12_text_30 {vR : Int32} {iR : Nat → Nat → Int32} {rvR : Nat → Nat → Option Nat} {x1 : Int32} (hG : aGood sh rv) (hf : fX12_text_30 x1 i rv = some (vR, iR, rvR)) : aGood sh rvR := by
  unfold fX12_text_30 at hf
  refine ifs2 hf (fun hc hf => ?_) (fun hc hf => ?_)
  · have hf := hf
    exact gX12_text_43 hG  hf
  · have hf := hf
    refine ifs hf (fun hc hf => ?_) (fun hc hf => ?_)
    · have hf := hf
      cases hf
      exact hG
    · have hf := hf
      exact gX12_text_43 hG  hf
def fX12_text (a1 : Int32) (i : Nat → Nat → Int32) (rv : Nat → Nat → Option Nat) : Option ((Int32) × (Nat → Nat → Int32) × (Nat → Nat → Option Nat)) := lt (u2 i 50 0 0) fun i1 =>
    bn1 (fX12_isIn (a1 : Int32).toInt64 0 2) fun v2 =>
    if v2 = 0 then (some ((-1), i1, rv)) else (if a1 = 1 then (if (i1 50 7) = 4 then (some ((-1), i1, rv)) else (fX12_text_30 a1 i1 rv)) else (fX12_text_30 a1 i1 rv))
theorem kX12_text  {vR : Int32} {iR : Nat → Nat → Int32} {rvR : Nat → Nat → Option Nat} (hX : aX p s m args c RX12 cX12_text 4 D cA A ad0) (hr : meth.sig.returnType = (some .int)) (hlk : meth.locks = false) (hRf : 1147 ≤ R.frames) (hRl : 64 * 1147 ≤ R.locals) {a1 : Int32} (hG : aGood sh rv) (hf : fX12_text a1 i rv = some (vR, iR, rvR)) : aJ p l e R s m args below meth c (MQ below (aPost D cA ad0 A (sh, i0, lo0, rv0) (some (.int vR)) (sh, iR, lo, rvR)) args s (sh.length - sh.length) (aSn sh - aSn sh) A) D cA A ad0 4 sh.length (aSn sh) 0 [some (.ref (100 + 50)), some (.int a1), none, none] [] (sh, i, lo, rv) := by
  unfold fX12_text at hf
  refine j_aload_n hX dX12_text_0 rfl ?_
  refine j_iconst hX dX12_text_1 ic_0 ?_
  have hf := ltd hf
  refine j_putI (k := 0) hX kX12 (by decide) fk_X12_99 dX12_text_2 (sh_50 hG) rfl rfl rfl rfl ?_
  refine j_iload_n hX dX12_text_5 rfl ?_
  refine j_i2l hX dX12_text_6 ?_
  refine jpc (b := 7) rfl ?_
  refine j_lconst (v := 0) hX dX12_text_7 (by decide) ?_
  refine j_ldc2_w hX kc_X12_278 dX12_text_8 ?_
  obtain ⟨v2, hh3, hf⟩ := bd1 hf
  refine j_cS3i hX lk_X12_220 dX12_text_11 (okX12_isIn hG hh3) rfl rfl (rmm (by omega) hRf hRl (by decide)) (Nat.le_of_ble_eq_true rfl) (Nat.le_add_right _ _) (Nat.le_add_right _ _) ?_
  refine j_if_eq (tgt := 52) hX dX12_text_14 (by decide) (fun hc => ?_) (fun hc => ?_)
  · have hf := ifp hc hf
    refine j_iconst hX dX12_text_52 ic_m1 ?_
    cases hf
    exact j_ret hX hr hlk rfl dX12_text_53
  · have hf := ifn hc hf
    refine j_iload_n hX dX12_text_17 rfl ?_
    refine j_iconst hX dX12_text_18 ic_1 ?_
    refine j_icmp_ne (tgt := 30) hX dX12_text_19 (by decide) (fun hc => ?_) (fun hc => ?_)
    · have hf := ifn hc hf
      exact aJx (kX12_text_30 hX hr hlk hRf hRl hG  hf) (And.intro rfl (And.intro rfl (rfl)))
    · have hf := ifp hc hf
      refine j_aload_n hX dX12_text_22 rfl ?_
      refine j_getI (k := 7) hX kX12 (by decide) fk_X12_289 dX12_text_23 (sh_50 hG) rfl ?_
      refine j_iconst hX dX12_text_26 ic_4 ?_
      refine j_icmp_eq (tgt := 52) hX dX12_text_27 (by decide) (fun hc => ?_) (fun hc => ?_)
      · have hf := ifp hc hf
        refine j_iconst hX dX12_text_52 ic_m1 ?_
        cases hf
        exact j_ret hX hr hlk rfl dX12_text_53
      · have hf := ifn hc hf
        exact aJx (kX12_text_30 hX hr hlk hRf hRl hG  hf) (And.intro rfl (And.intro rfl (rfl)))
theorem gdX12_text {vR : Int32} {iR : Nat → Nat → Int32} {rvR : Nat → Nat → Option Nat} {a1 : Int32} (hG : aGood sh rv) (hf : fX12_text a1 i rv = some (vR, iR, rvR)) : aGood sh rvR := by
  unfold fX12_text at hf
  have hf := ltd hf
  obtain ⟨v2, hh3, hf⟩ := bd1 hf
  refine ifs hf (fun hc hf => ?_) (fun hc hf => ?_)
  · have hf := hf
    cases hf
    exact hG
  · have hf := hf
    refine ifs2 hf (fun hc hf => ?_) (fun hc hf => ?_)
    · have hf := hf
      exact gX12_text_30 hG  hf
    · have hf := hf
      refine ifs hf (fun hc hf => ?_) (fun hc hf => ?_)
      · have hf := hf
        cases hf
        exact hG
      · have hf := hf
        exact gX12_text_30 hG  hf
theorem okX12_text {l : Launch} {sh : List aSh} {i : Nat → Nat → Int32} {lo : Nat → Nat → Int64} {rv : Nat → Nat → Option Nat}  {a1 : Int32} {vR : Int32} {iR : Nat → Nat → Int32} {rvR : Nat → Nat → Option Nat} (hG : aGood sh rv) (hf : fX12_text a1 i rv = some (vR, iR, rvR)) : aM l yX12_text cX12_text 4 (some .int) 1147 [.ref (100 + 50), .int a1] (sh, i, lo, rv) (some (.int vR)) (sh, iR, lo, rvR) :=
  aM_of (by decide) (Nat.le_of_ble_eq_true rfl) (Nat.le_refl _) (Nat.le_refl _) (fun p e s m args below meth c D cA A ad0 hX hr hlk hnm => kX12_text hX hr hlk (Nat.le_refl _) (Nat.le_refl _) hG hf)
def fX12_copy_12 (w0 : Nat) (n0 : Nat) (w1 : Nat) (n1 : Nat) : Nat → Int32 → Int32 → (Nat → Nat → Int32) → Option ((Nat → Nat → Int32))
  | 0, _, _, _ => none
  | n + 1, x2, x3, i => if x2 ≤ x3 then (some (i)) else (if aIn x3 n0 = true then
    (if aIn x3 n1 = true then
    (lt (u2 i w1 (x3 : Int32).toNatClampNeg (i w0 (x3 : Int32).toNatClampNeg)) fun i2 => fX12_copy_12 w0 n0 w1 n1 n x2 (x3 + 1) i2) else none) else none)
theorem kX12_copy_12  {w0 : Nat} {n0 : Nat} {w1 : Nat} {n1 : Nat} {iR : Nat → Nat → Int32} (hX : aX p s m args c RX12 cX12_copy 4 D cA A ad0) (hr : meth.sig.returnType = none) (hlk : meth.locks = false) (hRf : 0 ≤ R.frames) (hRl : 64 * 0 ≤ R.locals) (h0 : sh[w0]? = some (.inl (.int, n0))) (h1 : sh[w1]? = some (.inl (.int, n1))) : ∀ (n : Nat) (x2 : Int32) (x3 : Int32) (i : Nat → Nat → Int32), aGood sh rv → fX12_copy_12 w0 n0 w1 n1 n x2 x3 i = some (iR) → aJ p l e R s m args below meth c (MQ below (aPost D cA ad0 A (sh, i0, lo0, rv0) none (sh, iR, lo, rv)) args s (sh.length - sh.length) (aSn sh - aSn sh) A) D cA A ad0 4 sh.length (aSn sh) 12 [some (.ref (100 + w0)), some (.ref (100 + w1)), some (.int x2), some (.int x3)] [] (sh, i, lo, rv) := by
  intro n
  induction n with
  | zero => intros; rename_i hf; cases hf
  | succ n ih =>
    intro x2 x3 i hG hf
    rw [fX12_copy_12] at hf
    refine j_iload_n hX dX12_copy_12 rfl ?_
    refine j_iload_n hX dX12_copy_13 rfl ?_
    refine j_icmp_ge (tgt := 29) hX dX12_copy_14 (by decide) (fun hc => ?_) (fun hc => ?_)
    · have hf := ifp hc hf
      cases hf
      exact j_vret hX hr hlk dX12_copy_29
    · have hf := ifn hc hf
      refine j_aload_n hX dX12_copy_17 rfl ?_
      refine j_iload_n hX dX12_copy_18 rfl ?_
      refine j_aload_n hX dX12_copy_19 rfl ?_
      refine j_iload_n hX dX12_copy_20 rfl ?_
      obtain ⟨hg, hf⟩ := gd hf
      refine j_iald hX h0 hg dX12_copy_21 ?_
      obtain ⟨hg, hf⟩ := gd hf
      have hf := ltd hf
      refine j_iast hX h1 hg dX12_copy_22 ?_
      refine j_iinc hX dX12_copy_23 rfl (congrArg (_ + ·) ic_1) (by decide) rfl ?_
      refine j_goto (tgt := 12) hX dX12_copy_26 (by decide) ?_
      exact aJx (ih _ _ _ hG  hf) (And.intro rfl (And.intro rfl (And.intro rfl (And.intro rfl (rfl)))))
def fX12_copy (w0 : Nat) (n0 : Nat) (w1 : Nat) (n1 : Nat) (i : Nat → Nat → Int32) : Option ((Nat → Nat → Int32)) := if aIn 55 n0 = true then
    (lt ((56 : Int32) + ((4 : Int32) * (i w0 (55 : Int32).toNatClampNeg))) fun t1 =>
    fX12_copy_12 w0 n0 w1 n1 fuel t1 0 i) else none
theorem kX12_copy  {w0 : Nat} {n0 : Nat} {w1 : Nat} {n1 : Nat} {iR : Nat → Nat → Int32} (hX : aX p s m args c RX12 cX12_copy 4 D cA A ad0) (hr : meth.sig.returnType = none) (hlk : meth.locks = false) (hRf : 0 ≤ R.frames) (hRl : 64 * 0 ≤ R.locals) (h0 : sh[w0]? = some (.inl (.int, n0))) (h1 : sh[w1]? = some (.inl (.int, n1))) (hG : aGood sh rv) (hf : fX12_copy w0 n0 w1 n1 i = some (iR)) : aJ p l e R s m args below meth c (MQ below (aPost D cA ad0 A (sh, i0, lo0, rv0) none (sh, iR, lo, rv)) args s (sh.length - sh.length) (aSn sh - aSn sh) A) D cA A ad0 4 sh.length (aSn sh) 0 [some (.ref (100 + w0)), some (.ref (100 + w1)), none, none] [] (sh, i, lo, rv) := by
  unfold fX12_copy at hf
  refine j_bipush hX dX12_copy_0 bp_56 ?_
  refine j_iconst hX dX12_copy_2 ic_4 ?_
  refine j_aload_n hX dX12_copy_3 rfl ?_
  refine j_bipush hX dX12_copy_4 bp_55 ?_
  obtain ⟨hg, hf⟩ := gd hf
  refine j_iald hX h0 hg dX12_copy_6 ?_
  refine j_imul hX dX12_copy_7 ?_
  refine j_iadd hX dX12_copy_8 ?_
  have hf := ltd hf
  refine j_istore_n hX dX12_copy_9 (by decide) rfl ?_
  refine j_iconst hX dX12_copy_10 ic_0 ?_
  refine j_istore_n hX dX12_copy_11 (by decide) rfl ?_
  exact aJx (kX12_copy_12 hX hr hlk hRf hRl h0 h1 fuel _ _ _ hG  hf) (And.intro rfl (And.intro rfl (And.intro rfl (And.intro rfl (rfl)))))
theorem okX12_copy {l : Launch} {sh : List aSh} {i : Nat → Nat → Int32} {lo : Nat → Nat → Int64} {rv : Nat → Nat → Option Nat}  {w0 : Nat} {n0 : Nat} {w1 : Nat} {n1 : Nat} {iR : Nat → Nat → Int32} (hG : aGood sh rv) (h0 : sh[w0]? = some (.inl (.int, n0))) (h1 : sh[w1]? = some (.inl (.int, n1))) (hf : fX12_copy w0 n0 w1 n1 i = some (iR)) : aM l yX12_copy cX12_copy 4 none 0 [.ref (100 + w0), .ref (100 + w1)] (sh, i, lo, rv) none (sh, iR, lo, rv) :=
  aM_of (by decide) (Nat.le_of_ble_eq_true rfl) (Nat.le_refl _) (Nat.le_refl _) (fun p e s m args below meth c D cA A ad0 hX hr hlk hnm => kX12_copy hX hr hlk (Nat.le_refl _) (Nat.le_refl _) h0 h1 hG hf)
def fX12_isSleeper (a1 : Int32) (i : Nat → Nat → Int32) : Option ((Int32)) := if a1 < 0 then (some (0)) else (if (i 50 26) ≤ a1 then (some (0)) else (some (1)))
theorem kX12_isSleeper  {vR : Int32} (hX : aX p s m args c RX12 cX12_isSleeper 2 D cA A ad0) (hr : meth.sig.returnType = (some .boolean)) (hlk : meth.locks = false) (hRf : 0 ≤ R.frames) (hRl : 64 * 0 ≤ R.locals) {a1 : Int32} (hG : aGood sh rv) (hf : fX12_isSleeper a1 i = some (vR)) : aJ p l e R s m args below meth c (MQ below (aPost D cA ad0 A (sh, i0, lo0, rv0) (some (.int vR)) (sh, i, lo, rv)) args s (sh.length - sh.length) (aSn sh - aSn sh) A) D cA A ad0 2 sh.length (aSn sh) 0 [some (.ref (100 + 50)), some (.int a1)] [] (sh, i, lo, rv) := by
  unfold fX12_isSleeper at hf
  refine j_iload_n hX dX12_isSleeper_0 rfl ?_
  refine j_if_lt (tgt := 16) hX dX12_isSleeper_1 (by decide) (fun hc => ?_) (fun hc => ?_)
  · have hf := ifp hc hf
    refine j_iconst hX dX12_isSleeper_16 ic_0 ?_
    cases hf
    exact j_ret hX hr hlk rfl dX12_isSleeper_17
  · have hf := ifn hc hf
    refine j_iload_n hX dX12_isSleeper_4 rfl ?_
    refine j_aload_n hX dX12_isSleeper_5 rfl ?_
    refine j_getI (k := 26) hX kX12 (by decide) fk_X12_297 dX12_isSleeper_6 (sh_50 hG) rfl ?_
    refine j_icmp_ge (tgt := 16) hX dX12_isSleeper_9 (by decide) (fun hc => ?_) (fun hc => ?_)
    · have hf := ifp hc hf
      refine j_iconst hX dX12_isSleeper_16 ic_0 ?_
      cases hf
      exact j_ret hX hr hlk rfl dX12_isSleeper_17
    · have hf := ifn hc hf
      refine j_iconst hX dX12_isSleeper_12 ic_1 ?_
      refine j_goto (tgt := 17) hX dX12_isSleeper_13 (by decide) ?_
      cases hf
      exact j_ret hX hr hlk rfl dX12_isSleeper_17
theorem okX12_isSleeper {l : Launch} {sh : List aSh} {i : Nat → Nat → Int32} {lo : Nat → Nat → Int64} {rv : Nat → Nat → Option Nat}  {a1 : Int32} {vR : Int32} (hG : aGood sh rv) (hf : fX12_isSleeper a1 i = some (vR)) : aM l yX12_isSleeper cX12_isSleeper 2 (some .boolean) 0 [.ref (100 + 50), .int a1] (sh, i, lo, rv) (some (.int vR)) (sh, i, lo, rv) :=
  aM_of (by decide) (Nat.le_of_ble_eq_true rfl) (Nat.le_refl _) (Nat.le_refl _) (fun p e s m args below meth c D cA A ad0 hX hr hlk hnm => kX12_isSleeper hX hr hlk (Nat.le_refl _) (Nat.le_refl _) hG hf)
def fX12_isOfficer (a1 : Int32) (i : Nat → Nat → Int32) : Option ((Int32)) := if a1 < 0 then (some (0)) else (if (i 50 27) ≤ a1 then (some (0)) else (some (1)))
theorem kX12_isOfficer  {vR : Int32} (hX : aX p s m args c RX12 cX12_isOfficer 2 D cA A ad0) (hr : meth.sig.returnType = (some .boolean)) (hlk : meth.locks = false) (hRf : 0 ≤ R.frames) (hRl : 64 * 0 ≤ R.locals) {a1 : Int32} (hG : aGood sh rv) (hf : fX12_isOfficer a1 i = some (vR)) : aJ p l e R s m args below meth c (MQ below (aPost D cA ad0 A (sh, i0, lo0, rv0) (some (.int vR)) (sh, i, lo, rv)) args s (sh.length - sh.length) (aSn sh - aSn sh) A) D cA A ad0 2 sh.length (aSn sh) 0 [some (.ref (100 + 50)), some (.int a1)] [] (sh, i, lo, rv) := by
  unfold fX12_isOfficer at hf
  refine j_iload_n hX dX12_isOfficer_0 rfl ?_
  refine j_if_lt (tgt := 16) hX dX12_isOfficer_1 (by decide) (fun hc => ?_) (fun hc => ?_)
  · have hf := ifp hc hf
    refine j_iconst hX dX12_isOfficer_16 ic_0 ?_
    cases hf
    exact j_ret hX hr hlk rfl dX12_isOfficer_17
  · have hf := ifn hc hf
    refine j_iload_n hX dX12_isOfficer_4 rfl ?_
    refine j_aload_n hX dX12_isOfficer_5 rfl ?_
    refine j_getI (k := 27) hX kX12 (by decide) fk_X12_300 dX12_isOfficer_6 (sh_50 hG) rfl ?_
    refine j_icmp_ge (tgt := 16) hX dX12_isOfficer_9 (by decide) (fun hc => ?_) (fun hc => ?_)
    · have hf := ifp hc hf
      refine j_iconst hX dX12_isOfficer_16 ic_0 ?_
      cases hf
      exact j_ret hX hr hlk rfl dX12_isOfficer_17
    · have hf := ifn hc hf
      refine j_iconst hX dX12_isOfficer_12 ic_1 ?_
      refine j_goto (tgt := 17) hX dX12_isOfficer_13 (by decide) ?_
      cases hf
      exact j_ret hX hr hlk rfl dX12_isOfficer_17
theorem okX12_isOfficer {l : Launch} {sh : List aSh} {i : Nat → Nat → Int32} {lo : Nat → Nat → Int64} {rv : Nat → Nat → Option Nat}  {a1 : Int32} {vR : Int32} (hG : aGood sh rv) (hf : fX12_isOfficer a1 i = some (vR)) : aM l yX12_isOfficer cX12_isOfficer 2 (some .boolean) 0 [.ref (100 + 50), .int a1] (sh, i, lo, rv) (some (.int vR)) (sh, i, lo, rv) :=
  aM_of (by decide) (Nat.le_of_ble_eq_true rfl) (Nat.le_refl _) (Nat.le_refl _) (fun p e s m args below meth c D cA A ad0 hX hr hlk hnm => kX12_isOfficer hX hr hlk (Nat.le_refl _) (Nat.le_refl _) hG hf)
def fX12_isChild (a1 : Int32) (i : Nat → Nat → Int32) : Option ((Int32)) := if aIn (((6 : Int32) * a1) + (5 : Int32)) 54 = true then
    (if (i 57 ((((6 : Int32) * a1) + (5 : Int32)) : Int32).toNatClampNeg) = 1 then (some (1)) else (some (0))) else none
theorem kX12_isChild  {vR : Int32} (hX : aX p s m args c RX12 cX12_isChild 2 D cA A ad0) (hr : meth.sig.returnType = (some .boolean)) (hlk : meth.locks = false) (hRf : 0 ≤ R.frames) (hRl : 64 * 0 ≤ R.locals) {a1 : Int32} (hG : aGood sh rv) (hf : fX12_isChild a1 i = some (vR)) : aJ p l e R s m args below meth c (MQ below (aPost D cA ad0 A (sh, i0, lo0, rv0) (some (.int vR)) (sh, i, lo, rv)) args s (sh.length - sh.length) (aSn sh - aSn sh) A) D cA A ad0 2 sh.length (aSn sh) 0 [some (.ref (100 + 50)), some (.int a1)] [] (sh, i, lo, rv) := by
  unfold fX12_isChild at hf
  refine j_aload_n hX dX12_isChild_0 rfl ?_
  refine j_getR (k := 20) hX kX12 (by decide) fk_X12_43 (rf_50_20 hG) dX12_isChild_1 (sh_50 hG) rfl ?_
  refine j_bipush hX dX12_isChild_4 bp_6 ?_
  refine j_iload_n hX dX12_isChild_6 rfl ?_
  refine j_imul hX dX12_isChild_7 ?_
  refine jpc (b := 8) rfl ?_
  refine j_iconst hX dX12_isChild_8 ic_5 ?_
  refine j_iadd hX dX12_isChild_9 ?_
  obtain ⟨hg, hf⟩ := gd hf
  refine j_iald hX (sh_57 hG) hg dX12_isChild_10 ?_
  refine j_iconst hX dX12_isChild_11 ic_1 ?_
  refine j_icmp_ne (tgt := 19) hX dX12_isChild_12 (by decide) (fun hc => ?_) (fun hc => ?_)
  · have hf := ifn hc hf
    refine j_iconst hX dX12_isChild_19 ic_0 ?_
    cases hf
    exact j_ret hX hr hlk rfl dX12_isChild_20
  · have hf := ifp hc hf
    refine j_iconst hX dX12_isChild_15 ic_1 ?_
    refine j_goto (tgt := 20) hX dX12_isChild_16 (by decide) ?_
    cases hf
    exact j_ret hX hr hlk rfl dX12_isChild_20
theorem okX12_isChild {l : Launch} {sh : List aSh} {i : Nat → Nat → Int32} {lo : Nat → Nat → Int64} {rv : Nat → Nat → Option Nat}  {a1 : Int32} {vR : Int32} (hG : aGood sh rv) (hf : fX12_isChild a1 i = some (vR)) : aM l yX12_isChild cX12_isChild 2 (some .boolean) 0 [.ref (100 + 50), .int a1] (sh, i, lo, rv) (some (.int vR)) (sh, i, lo, rv) :=
  aM_of (by decide) (Nat.le_of_ble_eq_true rfl) (Nat.le_refl _) (Nat.le_refl _) (fun p e s m args below meth c D cA A ad0 hX hr hlk hnm => kX12_isChild hX hr hlk (Nat.le_refl _) (Nat.le_refl _) hG hf)
def fX12_inBerth_2 (w1 : Nat) (n1 : Nat) : Nat → Int32 → Int32 → (Nat → Nat → Int32) → Option ((Int32))
  | 0, _, _, _ => none
  | n + 1, x2, x3, i => if (i 50 26) ≤ x3 then (some ((-1))) else (if aIn (((6 : Int32) * x3) + (0 : Int32)) n1 = true then
    (if (i w1 ((((6 : Int32) * x3) + (0 : Int32)) : Int32).toNatClampNeg) = x2 then (some (x3)) else (fX12_inBerth_2 w1 n1 n x2 (x3 + 1) i)) else none)
theorem kX12_inBerth_2  {w1 : Nat} {n1 : Nat} {vR : Int32} (hX : aX p s m args c RX12 cX12_inBerth 4 D cA A ad0) (hr : meth.sig.returnType = (some .int)) (hlk : meth.locks = false) (hRf : 0 ≤ R.frames) (hRl : 64 * 0 ≤ R.locals) (h1 : sh[w1]? = some (.inl (.int, n1))) : ∀ (n : Nat) (x2 : Int32) (x3 : Int32), aGood sh rv → fX12_inBerth_2 w1 n1 n x2 x3 i = some (vR) → aJ p l e R s m args below meth c (MQ below (aPost D cA ad0 A (sh, i0, lo0, rv0) (some (.int vR)) (sh, i, lo, rv)) args s (sh.length - sh.length) (aSn sh - aSn sh) A) D cA A ad0 4 sh.length (aSn sh) 2 [some (.ref (100 + 50)), some (.ref (100 + w1)), some (.int x2), some (.int x3)] [] (sh, i, lo, rv) := by
  intro n
  induction n with
  | zero => intros; rename_i hf; cases hf
  | succ n ih =>
    intro x2 x3 hG hf
    rw [fX12_inBerth_2] at hf
    refine j_iload_n hX dX12_inBerth_2 rfl ?_
    refine j_aload_n hX dX12_inBerth_3 rfl ?_
    refine j_getI (k := 26) hX kX12 (by decide) fk_X12_297 dX12_inBerth_4 (sh_50 hG) rfl ?_
    refine j_icmp_ge (tgt := 30) hX dX12_inBerth_7 (by decide) (fun hc => ?_) (fun hc => ?_)
    · have hf := ifp hc hf
      refine j_iconst hX dX12_inBerth_30 ic_m1 ?_
      cases hf
      exact j_ret hX hr hlk rfl dX12_inBerth_31
    · have hf := ifn hc hf
      refine j_aload_n hX dX12_inBerth_10 rfl ?_
      refine j_bipush hX dX12_inBerth_11 bp_6 ?_
      refine j_iload_n hX dX12_inBerth_13 rfl ?_
      refine j_imul hX dX12_inBerth_14 ?_
      refine j_iconst hX dX12_inBerth_15 ic_0 ?_
      refine jpc (b := 16) rfl ?_
      refine j_iadd hX dX12_inBerth_16 ?_
      obtain ⟨hg, hf⟩ := gd hf
      refine j_iald hX h1 hg dX12_inBerth_17 ?_
      refine j_iload_n hX dX12_inBerth_18 rfl ?_
      refine j_icmp_ne (tgt := 24) hX dX12_inBerth_19 (by decide) (fun hc => ?_) (fun hc => ?_)
      · have hf := ifn hc hf
        refine j_iinc hX dX12_inBerth_24 rfl (congrArg (_ + ·) ic_1) (by decide) rfl ?_
        refine j_goto (tgt := 2) hX dX12_inBerth_27 (by decide) ?_
        exact aJx (ih _ _ hG  hf) (And.intro rfl (And.intro rfl (And.intro rfl (And.intro rfl (rfl)))))
      · have hf := ifp hc hf
        refine j_iload_n hX dX12_inBerth_22 rfl ?_
        cases hf
        exact j_ret hX hr hlk rfl dX12_inBerth_23
def fX12_inBerth (w1 : Nat) (n1 : Nat) (a2 : Int32) (i : Nat → Nat → Int32) : Option ((Int32)) := fX12_inBerth_2 w1 n1 fuel a2 0 i
theorem kX12_inBerth  {w1 : Nat} {n1 : Nat} {vR : Int32} (hX : aX p s m args c RX12 cX12_inBerth 4 D cA A ad0) (hr : meth.sig.returnType = (some .int)) (hlk : meth.locks = false) (hRf : 0 ≤ R.frames) (hRl : 64 * 0 ≤ R.locals) (h1 : sh[w1]? = some (.inl (.int, n1))) {a2 : Int32} (hG : aGood sh rv) (hf : fX12_inBerth w1 n1 a2 i = some (vR)) : aJ p l e R s m args below meth c (MQ below (aPost D cA ad0 A (sh, i0, lo0, rv0) (some (.int vR)) (sh, i, lo, rv)) args s (sh.length - sh.length) (aSn sh - aSn sh) A) D cA A ad0 4 sh.length (aSn sh) 0 [some (.ref (100 + 50)), some (.ref (100 + w1)), some (.int a2), none] [] (sh, i, lo, rv) := by
  unfold fX12_inBerth at hf
  refine j_iconst hX dX12_inBerth_0 ic_0 ?_
  refine j_istore_n hX dX12_inBerth_1 (by decide) rfl ?_
  exact aJx (kX12_inBerth_2 hX hr hlk hRf hRl h1 fuel _ _ hG  hf) (And.intro rfl (And.intro rfl (And.intro rfl (And.intro rfl (rfl)))))
theorem okX12_inBerth {l : Launch} {sh : List aSh} {i : Nat → Nat → Int32} {lo : Nat → Nat → Int64} {rv : Nat → Nat → Option Nat}  {w1 : Nat} {n1 : Nat} {a2 : Int32} {vR : Int32} (hG : aGood sh rv) (h1 : sh[w1]? = some (.inl (.int, n1))) (hf : fX12_inBerth w1 n1 a2 i = some (vR)) : aM l yX12_inBerth cX12_inBerth 4 (some .int) 0 [.ref (100 + 50), .ref (100 + w1), .int a2] (sh, i, lo, rv) (some (.int vR)) (sh, i, lo, rv) :=
  aM_of (by decide) (Nat.le_of_ble_eq_true rfl) (Nat.le_refl _) (Nat.le_refl _) (fun p e s m args below meth c D cA A ad0 hX hr hlk hnm => kX12_inBerth hX hr hlk (Nat.le_refl _) (Nat.le_refl _) h1 hG hf)
def fX12_snoresBeside_52 (w1 : Nat) (n1 : Nat) (kh5 : Int32 → Int32 → Int32 → (Nat → Nat → Int32) → Option ((Int32))) (x2 : Int32) (x4 : Int32) (s0 : Int32) (s1 : Int32) (i : Nat → Nat → Int32) : Option ((Int32)) := kh5 x2 (s0 + s1) (x4 + 2) i
theorem kX12_snoresBeside_52  {w1 : Nat} {n1 : Nat} {vR : Int32} (hX : aX p s m args c RX12 cX12_snoresBeside 6 D cA A ad0) (hr : meth.sig.returnType = (some .int)) (hlk : meth.locks = false) (hRf : 1 ≤ R.frames) (hRl : 64 * 1 ≤ R.locals) (h1 : sh[w1]? = some (.inl (.int, n1))) {kh5 : Int32 → Int32 → Int32 → (Nat → Nat → Int32) → Option ((Int32))} (Hkh5 : ∀ (x2 : Int32) (x3 : Int32) (x4 : Int32), aGood sh rv → kh5 x2 x3 x4 i = some (vR) → aJ p l e R s m args below meth c (MQ below (aPost D cA ad0 A (sh, i0, lo0, rv0) (some (.int vR)) (sh, i, lo, rv)) args s (sh.length - sh.length) (aSn sh - aSn sh) A) D cA A ad0 6 sh.length (aSn sh) 5 [some (.ref (100 + 50)), some (.ref (100 + w1)), some (.int x2), some (.int x3), some (.int x4), none] [] (sh, i, lo, rv)) {x2 : Int32} {x4 : Int32} {s0 : Int32} {s1 : Int32} (hG : aGood sh rv) (hf : fX12_snoresBeside_52 w1 n1 kh5 x2 x4 s0 s1 i = some (vR)) : aJ p l e R s m args below meth c (MQ below (aPost D cA ad0 A (sh, i0, lo0, rv0) (some (.int vR)) (sh, i, lo, rv)) args s (sh.length - sh.length) (aSn sh - aSn sh) A) D cA A ad0 6 sh.length (aSn sh) 52 [some (.ref (100 + 50)), some (.ref (100 + w1)), some (.int x2), none, some (.int x4), none] [.int s1, .int s0] (sh, i, lo, rv) := by
  unfold fX12_snoresBeside_52 at hf
  refine j_iadd hX dX12_snoresBeside_52 ?_
  refine j_istore_n hX dX12_snoresBeside_53 (by decide) rfl ?_
  refine j_iinc hX dX12_snoresBeside_54 rfl (congrArg (_ + ·) ic_2) (by decide) rfl ?_
  refine j_goto (tgt := 5) hX dX12_snoresBeside_57 (by decide) ?_
  exact aJx (Hkh5 _ _ _ hG  hf) (And.intro rfl (And.intro rfl (And.intro rfl (And.intro rfl (And.intro rfl (rfl))))))
def fX12_snoresBeside_5 (w1 : Nat) (n1 : Nat) : Nat → Int32 → Int32 → Int32 → (Nat → Nat → Int32) → Option ((Int32))
  | 0, _, _, _, _ => none
  | n + 1, x2, x3, x4, i => if 2 ≤ x4 then (some (x3)) else (if aIn (((6 : Int32) * x2) + (0 : Int32)) n1 = true then
    (bn1 (fX12_inBerth w1 n1 ((i w1 ((((6 : Int32) * x2) + (0 : Int32)) : Int32).toNatClampNeg) + x4) i) fun v1 =>
    if v1 = (-1) then (fX12_snoresBeside_52 w1 n1 (fX12_snoresBeside_5 w1 n1 n) x2 x4 x3 0 i) else (if aIn (((6 : Int32) * v1) + (3 : Int32)) 54 = true then
    (fX12_snoresBeside_52 w1 n1 (fX12_snoresBeside_5 w1 n1 n) x2 x4 x3 (i 57 ((((6 : Int32) * v1) + (3 : Int32)) : Int32).toNatClampNeg) i) else none)) else none)
theorem kX12_snoresBeside_5  {w1 : Nat} {n1 : Nat} {vR : Int32} (hX : aX p s m args c RX12 cX12_snoresBeside 6 D cA A ad0) (hr : meth.sig.returnType = (some .int)) (hlk : meth.locks = false) (hRf : 1 ≤ R.frames) (hRl : 64 * 1 ≤ R.locals) (h1 : sh[w1]? = some (.inl (.int, n1))) : ∀ (n : Nat) (x2 : Int32) (x3 : Int32) (x4 : Int32), aGood sh rv → fX12_snoresBeside_5 w1 n1 n x2 x3 x4 i = some (vR) → aJ p l e R s m args below meth c (MQ below (aPost D cA ad0 A (sh, i0, lo0, rv0) (some (.int vR)) (sh, i, lo, rv)) args s (sh.length - sh.length) (aSn sh - aSn sh) A) D cA A ad0 6 sh.length (aSn sh) 5 [some (.ref (100 + 50)), some (.ref (100 + w1)), some (.int x2), some (.int x3), some (.int x4), none] [] (sh, i, lo, rv) := by
  intro n
  induction n with
  | zero => intros; rename_i hf; cases hf
  | succ n ih =>
    intro x2 x3 x4 hG hf
    rw [fX12_snoresBeside_5] at hf
    refine j_iload hX dX12_snoresBeside_5 rfl ?_
    refine j_iconst hX dX12_snoresBeside_7 ic_2 ?_
    refine j_icmp_ge (tgt := 60) hX dX12_snoresBeside_8 (by decide) (fun hc => ?_) (fun hc => ?_)
    · have hf := ifp hc hf
      refine j_iload_n hX dX12_snoresBeside_60 rfl ?_
      cases hf
      exact j_ret hX hr hlk rfl dX12_snoresBeside_61
    · have hf := ifn hc hf
      refine j_aload_n hX dX12_snoresBeside_11 rfl ?_
      refine j_aload_n hX dX12_snoresBeside_12 rfl ?_
      refine j_aload_n hX dX12_snoresBeside_13 rfl ?_
      refine j_bipush hX dX12_snoresBeside_14 bp_6 ?_
      refine j_iload_n hX dX12_snoresBeside_16 rfl ?_
      refine jpc (b := 17) rfl ?_
      refine j_imul hX dX12_snoresBeside_17 ?_
      refine j_iconst hX dX12_snoresBeside_18 ic_0 ?_
      refine j_iadd hX dX12_snoresBeside_19 ?_
      obtain ⟨hg, hf⟩ := gd hf
      refine j_iald hX h1 hg dX12_snoresBeside_20 ?_
      refine j_iload hX dX12_snoresBeside_21 rfl ?_
      refine j_iadd hX dX12_snoresBeside_23 ?_
      obtain ⟨v1, hh2, hf⟩ := bd1 hf
      refine j_cV2i hX lk_X12_318 kX12 dX12_snoresBeside_24 (sh_50 hG) (okX12_inBerth hG h1 hh2) rfl rfl (rmm (by omega) hRf hRl (by decide)) (Nat.le_of_ble_eq_true rfl) (Nat.le_add_right _ _) (Nat.le_add_right _ _) ?_
      refine j_istore hX dX12_snoresBeside_27 (by decide) rfl ?_
      refine j_iload_n hX dX12_snoresBeside_29 rfl ?_
      refine jpc (b := 30) rfl ?_
      refine j_iload hX dX12_snoresBeside_30 rfl ?_
      refine j_iconst hX dX12_snoresBeside_32 ic_m1 ?_
      refine j_icmp_ne (tgt := 40) hX dX12_snoresBeside_33 (by decide) (fun hc => ?_) (fun hc => ?_)
      · have hf := ifn hc hf
        refine j_aload_n hX dX12_snoresBeside_40 rfl ?_
        refine j_getR (k := 20) hX kX12 (by decide) fk_X12_43 (rf_50_20 hG) dX12_snoresBeside_41 (sh_50 hG) rfl ?_
        refine j_bipush hX dX12_snoresBeside_44 bp_6 ?_
        refine j_iload hX dX12_snoresBeside_46 rfl ?_
        refine j_imul hX dX12_snoresBeside_48 ?_
        refine jpc (b := 49) rfl ?_
        refine j_iconst hX dX12_snoresBeside_49 ic_3 ?_
        refine j_iadd hX dX12_snoresBeside_50 ?_
        obtain ⟨hg, hf⟩ := gd hf
        refine j_iald hX (sh_57 hG) hg dX12_snoresBeside_51 ?_
        exact aJx (kX12_snoresBeside_52 hX hr hlk hRf hRl h1 ih hG  hf) (And.intro rfl (And.intro rfl (And.intro rfl (And.intro rfl (rfl)))))
      · have hf := ifp hc hf
        refine j_iconst hX dX12_snoresBeside_36 ic_0 ?_
        refine j_goto (tgt := 52) hX dX12_snoresBeside_37 (by decide) ?_
        exact aJx (kX12_snoresBeside_52 hX hr hlk hRf hRl h1 ih hG  hf) (And.intro rfl (And.intro rfl (And.intro rfl (And.intro rfl (rfl)))))
def fX12_snoresBeside (w1 : Nat) (n1 : Nat) (a2 : Int32) (i : Nat → Nat → Int32) : Option ((Int32)) := fX12_snoresBeside_5 w1 n1 fuel a2 0 (-1) i
theorem kX12_snoresBeside  {w1 : Nat} {n1 : Nat} {vR : Int32} (hX : aX p s m args c RX12 cX12_snoresBeside 6 D cA A ad0) (hr : meth.sig.returnType = (some .int)) (hlk : meth.locks = false) (hRf : 1 ≤ R.frames) (hRl : 64 * 1 ≤ R.locals) (h1 : sh[w1]? = some (.inl (.int, n1))) {a2 : Int32} (hG : aGood sh rv) (hf : fX12_snoresBeside w1 n1 a2 i = some (vR)) : aJ p l e R s m args below meth c (MQ below (aPost D cA ad0 A (sh, i0, lo0, rv0) (some (.int vR)) (sh, i, lo, rv)) args s (sh.length - sh.length) (aSn sh - aSn sh) A) D cA A ad0 6 sh.length (aSn sh) 0 [some (.ref (100 + 50)), some (.ref (100 + w1)), some (.int a2), none, none, none] [] (sh, i, lo, rv) := by
  unfold fX12_snoresBeside at hf
  refine j_iconst hX dX12_snoresBeside_0 ic_0 ?_
  refine j_istore_n hX dX12_snoresBeside_1 (by decide) rfl ?_
  refine j_iconst hX dX12_snoresBeside_2 ic_m1 ?_
  refine j_istore hX dX12_snoresBeside_3 (by decide) rfl ?_
  exact aJx (kX12_snoresBeside_5 hX hr hlk hRf hRl h1 fuel _ _ _ hG  hf) (And.intro rfl (And.intro rfl (And.intro rfl (And.intro rfl (And.intro rfl (rfl))))))
theorem okX12_snoresBeside {l : Launch} {sh : List aSh} {i : Nat → Nat → Int32} {lo : Nat → Nat → Int64} {rv : Nat → Nat → Option Nat}  {w1 : Nat} {n1 : Nat} {a2 : Int32} {vR : Int32} (hG : aGood sh rv) (h1 : sh[w1]? = some (.inl (.int, n1))) (hf : fX12_snoresBeside w1 n1 a2 i = some (vR)) : aM l yX12_snoresBeside cX12_snoresBeside 6 (some .int) 1 [.ref (100 + 50), .ref (100 + w1), .int a2] (sh, i, lo, rv) (some (.int vR)) (sh, i, lo, rv) :=
  aM_of (by decide) (Nat.le_of_ble_eq_true rfl) (Nat.le_refl _) (Nat.le_refl _) (fun p e s m args below meth c D cA A ad0 hX hr hlk hnm => kX12_snoresBeside hX hr hlk (Nat.le_refl _) (Nat.le_refl _) h1 hG hf)
def fX12_sleepOf_146 (w1 : Nat) (n1 : Nat) (x5 : Int32) (i : Nat → Nat → Int32) (rv : Nat → Nat → Option Nat) : Option ((Int32) × (Nat → Nat → Int32) × (Nat → Nat → Option Nat)) := some ((if (0 : Int32) < (if x5 < (99 : Int32) then x5 else (99 : Int32)) then (if x5 < (99 : Int32) then x5 else (99 : Int32)) else (0 : Int32)), i, rv)
theorem kX12_sleepOf_146  {w1 : Nat} {n1 : Nat} {vR : Int32} {iR : Nat → Nat → Int32} {rvR : Nat → Nat → Option Nat} (hX : aX p s m args c RX12 cX12_sleepOf 6 D cA A ad0) (hr : meth.sig.returnType = (some .int)) (hlk : meth.locks = false) (hRf : 1146 ≤ R.frames) (hRl : 64 * 1146 ≤ R.locals) (h1 : sh[w1]? = some (.inl (.int, n1))) {x5 : Int32} (hG : aGood sh rv) (hf : fX12_sleepOf_146 w1 n1 x5 i rv = some (vR, iR, rvR)) : aJ p l e R s m args below meth c (MQ below (aPost D cA ad0 A (sh, i0, lo0, rv0) (some (.int vR)) (sh, iR, lo, rvR)) args s (sh.length - sh.length) (aSn sh - aSn sh) A) D cA A ad0 6 sh.length (aSn sh) 146 [none, none, none, none, none, some (.int x5)] [] (sh, i, lo, rv) := by
  unfold fX12_sleepOf_146 at hf
  refine j_iconst hX dX12_sleepOf_146 ic_0 ?_
  refine j_bipush hX dX12_sleepOf_147 bp_99 ?_
  refine j_iload hX dX12_sleepOf_149 rfl ?_
  refine j_min hX lk_X12_325 dX12_sleepOf_151 ⟨by omega, Nat.le_trans (Nat.le_of_ble_eq_true rfl) hRl⟩ (Nat.le_add_right _ _) (Nat.le_add_right _ _) ?_
  refine j_max hX lk_X12_327 dX12_sleepOf_154 ⟨by omega, Nat.le_trans (Nat.le_of_ble_eq_true rfl) hRl⟩ (Nat.le_add_right _ _) (Nat.le_add_right _ _) ?_
  refine jpc (b := 157) rfl ?_
  cases hf
  exact j_ret hX hr hlk rfl dX12_sleepOf_157
theorem gX12_sleepOf_146 {w1 : Nat} {n1 : Nat} {vR : Int32} {iR : Nat → Nat → Int32} {rvR : Nat → Nat → Option Nat} (h1 : sh[w1]? = some (.inl (.int, n1))) {x5 : Int32} (hG : aGood sh rv) (hf : fX12_sleepOf_146 w1 n1 x5 i rv = some (vR, iR, rvR)) : aGood sh rvR := by
  unfold fX12_sleepOf_146 at hf
  cases hf
  exact hG
def fX12_sleepOf (w1 : Nat) (n1 : Nat) (a2 : Int32) (a3 : Int32) (a4 : Int32) (i : Nat → Nat → Int32) (rv : Nat → Nat → Option Nat) : Option ((Int32) × (Nat → Nat → Int32) × (Nat → Nat → Option Nat)) := if aIn (((6 : Int32) * a2) + (2 : Int32)) 54 = true then
    (if aIn (((6 : Int32) * a2) + (4 : Int32)) n1 = true then
    (lt (((5 : Int32) + (i 57 ((((6 : Int32) * a2) + (2 : Int32)) : Int32).toNatClampNeg)) + ((5 : Int32) * (i w1 ((((6 : Int32) * a2) + (4 : Int32)) : Int32).toNatClampNeg))) fun t1 =>
    if (i 50 35) = (-1) then (fX12_sleepOf_146 w1 n1 t1 i rv) else (if aIn (((6 : Int32) * a2) + (2 : Int32)) 54 = true then
    (if aIn 110 128 = true then
    (lt (u2 i 54 (110 : Int32).toNatClampNeg (i 57 ((((6 : Int32) * a2) + (2 : Int32)) : Int32).toNatClampNeg)) fun i2 => if aIn (((6 : Int32) * a2) + (4 : Int32)) n1 = true then
    (if aIn 119 128 = true then
    (lt (u2 i2 54 (119 : Int32).toNatClampNeg (i2 w1 ((((6 : Int32) * a2) + (4 : Int32)) : Int32).toNatClampNeg)) fun i3 => if aIn 116 128 = true then
    (lt (u2 i3 54 (116 : Int32).toNatClampNeg a3) fun i4 => if aIn (((6 : Int32) * a2) + (5 : Int32)) 54 = true then
    (if aIn 99 128 = true then
    (lt (u2 i4 54 (99 : Int32).toNatClampNeg (i4 57 ((((6 : Int32) * a2) + (5 : Int32)) : Int32).toNatClampNeg)) fun i5 => if aIn 111 128 = true then
    (lt (u2 i5 54 (111 : Int32).toNatClampNeg a4) fun i6 => bn1 (fX12_snoresBeside w1 n1 a2 i6) fun v7 =>
    if aIn 115 128 = true then
    (lt (u2 i6 54 (115 : Int32).toNatClampNeg v7) fun i9 => if aIn (i9 50 35) 4 = true then
    (bn2 (fX12_goThrough 52 ((240 : Int32) * (i9 50 35)) (i9 53 ((i9 50 35) : Int32).toNatClampNeg) i9 rv) fun i10 rv11 =>
    fX12_sleepOf_146 w1 n1 (i10 50 14) i10 rv11) else none) else none) else none) else none) else none) else none) else none) else none) else none) else none)) else none) else none
theorem kX12_sleepOf  {w1 : Nat} {n1 : Nat} {vR : Int32} {iR : Nat → Nat → Int32} {rvR : Nat → Nat → Option Nat} (hX : aX p s m args c RX12 cX12_sleepOf 6 D cA A ad0) (hr : meth.sig.returnType = (some .int)) (hlk : meth.locks = false) (hRf : 1146 ≤ R.frames) (hRl : 64 * 1146 ≤ R.locals) (h1 : sh[w1]? = some (.inl (.int, n1))) {a2 : Int32} {a3 : Int32} {a4 : Int32} (hG : aGood sh rv) (hf : fX12_sleepOf w1 n1 a2 a3 a4 i rv = some (vR, iR, rvR)) : aJ p l e R s m args below meth c (MQ below (aPost D cA ad0 A (sh, i0, lo0, rv0) (some (.int vR)) (sh, iR, lo, rvR)) args s (sh.length - sh.length) (aSn sh - aSn sh) A) D cA A ad0 6 sh.length (aSn sh) 0 [some (.ref (100 + 50)), some (.ref (100 + w1)), some (.int a2), some (.int a3), some (.int a4), none] [] (sh, i, lo, rv) := by
  unfold fX12_sleepOf at hf
  refine j_iconst hX dX12_sleepOf_0 ic_5 ?_
  refine j_aload_n hX dX12_sleepOf_1 rfl ?_
  refine j_getR (k := 20) hX kX12 (by decide) fk_X12_43 (rf_50_20 hG) dX12_sleepOf_2 (sh_50 hG) rfl ?_
  refine j_bipush hX dX12_sleepOf_5 bp_6 ?_
  refine j_iload_n hX dX12_sleepOf_7 rfl ?_
  refine jpc (b := 8) rfl ?_
  refine j_imul hX dX12_sleepOf_8 ?_
  refine j_iconst hX dX12_sleepOf_9 ic_2 ?_
  refine j_iadd hX dX12_sleepOf_10 ?_
  obtain ⟨hg, hf⟩ := gd hf
  refine j_iald hX (sh_57 hG) hg dX12_sleepOf_11 ?_
  refine j_iadd hX dX12_sleepOf_12 ?_
  refine j_iconst hX dX12_sleepOf_13 ic_5 ?_
  refine j_aload_n hX dX12_sleepOf_14 rfl ?_
  refine j_bipush hX dX12_sleepOf_15 bp_6 ?_
  refine j_iload_n hX dX12_sleepOf_17 rfl ?_
  refine jpc (b := 18) rfl ?_
  refine j_imul hX dX12_sleepOf_18 ?_
  refine j_iconst hX dX12_sleepOf_19 ic_4 ?_
  refine j_iadd hX dX12_sleepOf_20 ?_
  obtain ⟨hg, hf⟩ := gd hf
  refine j_iald hX h1 hg dX12_sleepOf_21 ?_
  refine j_imul hX dX12_sleepOf_22 ?_
  refine j_iadd hX dX12_sleepOf_23 ?_
  have hf := ltd hf
  refine j_istore hX dX12_sleepOf_24 (by decide) rfl ?_
  refine j_aload_n hX dX12_sleepOf_26 rfl ?_
  refine j_getI (k := 35) hX kX12 (by decide) fk_X12_67 dX12_sleepOf_27 (sh_50 hG) rfl ?_
  refine jpc (b := 30) rfl ?_
  refine j_iconst hX dX12_sleepOf_30 ic_m1 ?_
  refine j_icmp_eq (tgt := 146) hX dX12_sleepOf_31 (by decide) (fun hc => ?_) (fun hc => ?_)
  · have hf := ifp hc hf
    exact aJx (kX12_sleepOf_146 hX hr hlk hRf hRl h1 hG  hf) (And.intro rfl (rfl))
  · have hf := ifn hc hf
    refine j_aload_n hX dX12_sleepOf_34 rfl ?_
    refine j_getR (k := 4) hX kX12 (by decide) fk_X12_20 (rf_50_4 hG) dX12_sleepOf_35 (sh_50 hG) rfl ?_
    refine j_bipush hX dX12_sleepOf_38 bp_110 ?_
    refine j_aload_n hX dX12_sleepOf_40 rfl ?_
    refine j_getR (k := 20) hX kX12 (by decide) fk_X12_43 (rf_50_20 hG) dX12_sleepOf_41 (sh_50 hG) rfl ?_
    refine jpc (b := 44) rfl ?_
    refine j_bipush hX dX12_sleepOf_44 bp_6 ?_
    refine j_iload_n hX dX12_sleepOf_46 rfl ?_
    refine j_imul hX dX12_sleepOf_47 ?_
    refine j_iconst hX dX12_sleepOf_48 ic_2 ?_
    refine j_iadd hX dX12_sleepOf_49 ?_
    obtain ⟨hg, hf⟩ := gd hf
    refine j_iald hX (sh_57 hG) hg dX12_sleepOf_50 ?_
    obtain ⟨hg, hf⟩ := gd hf
    have hf := ltd hf
    refine j_iast hX (sh_54 hG) hg dX12_sleepOf_51 ?_
    refine j_aload_n hX dX12_sleepOf_52 rfl ?_
    refine j_getR (k := 4) hX kX12 (by decide) fk_X12_20 (rf_50_4 hG) dX12_sleepOf_53 (sh_50 hG) rfl ?_
    refine j_bipush hX dX12_sleepOf_56 bp_119 ?_
    refine j_aload_n hX dX12_sleepOf_58 rfl ?_
    refine j_bipush hX dX12_sleepOf_59 bp_6 ?_
    refine jpc (b := 61) rfl ?_
    refine j_iload_n hX dX12_sleepOf_61 rfl ?_
    refine j_imul hX dX12_sleepOf_62 ?_
    refine j_iconst hX dX12_sleepOf_63 ic_4 ?_
    refine j_iadd hX dX12_sleepOf_64 ?_
    obtain ⟨hg, hf⟩ := gd hf
    refine j_iald hX h1 hg dX12_sleepOf_65 ?_
    obtain ⟨hg, hf⟩ := gd hf
    have hf := ltd hf
    refine j_iast hX (sh_54 hG) hg dX12_sleepOf_66 ?_
    refine j_aload_n hX dX12_sleepOf_67 rfl ?_
    refine j_getR (k := 4) hX kX12 (by decide) fk_X12_20 (rf_50_4 hG) dX12_sleepOf_68 (sh_50 hG) rfl ?_
    refine j_bipush hX dX12_sleepOf_71 bp_116 ?_
    refine j_iload_n hX dX12_sleepOf_73 rfl ?_
    obtain ⟨hg, hf⟩ := gd hf
    have hf := ltd hf
    refine j_iast hX (sh_54 hG) hg dX12_sleepOf_74 ?_
    refine j_aload_n hX dX12_sleepOf_75 rfl ?_
    refine j_getR (k := 4) hX kX12 (by decide) fk_X12_20 (rf_50_4 hG) dX12_sleepOf_76 (sh_50 hG) rfl ?_
    refine j_bipush hX dX12_sleepOf_79 bp_99 ?_
    refine j_aload_n hX dX12_sleepOf_81 rfl ?_
    refine j_getR (k := 20) hX kX12 (by decide) fk_X12_43 (rf_50_20 hG) dX12_sleepOf_82 (sh_50 hG) rfl ?_
    refine jpc (b := 85) rfl ?_
    refine j_bipush hX dX12_sleepOf_85 bp_6 ?_
    refine j_iload_n hX dX12_sleepOf_87 rfl ?_
    refine j_imul hX dX12_sleepOf_88 ?_
    refine j_iconst hX dX12_sleepOf_89 ic_5 ?_
    refine j_iadd hX dX12_sleepOf_90 ?_
    obtain ⟨hg, hf⟩ := gd hf
    refine j_iald hX (sh_57 hG) hg dX12_sleepOf_91 ?_
    obtain ⟨hg, hf⟩ := gd hf
    have hf := ltd hf
    refine j_iast hX (sh_54 hG) hg dX12_sleepOf_92 ?_
    refine j_aload_n hX dX12_sleepOf_93 rfl ?_
    refine j_getR (k := 4) hX kX12 (by decide) fk_X12_20 (rf_50_4 hG) dX12_sleepOf_94 (sh_50 hG) rfl ?_
    refine j_bipush hX dX12_sleepOf_97 bp_111 ?_
    refine j_iload hX dX12_sleepOf_99 rfl ?_
    obtain ⟨hg, hf⟩ := gd hf
    have hf := ltd hf
    refine j_iast hX (sh_54 hG) hg dX12_sleepOf_101 ?_
    refine j_aload_n hX dX12_sleepOf_102 rfl ?_
    refine j_getR (k := 4) hX kX12 (by decide) fk_X12_20 (rf_50_4 hG) dX12_sleepOf_103 (sh_50 hG) rfl ?_
    refine j_bipush hX dX12_sleepOf_106 bp_115 ?_
    refine j_aload_n hX dX12_sleepOf_108 rfl ?_
    refine j_aload_n hX dX12_sleepOf_109 rfl ?_
    refine jpc (b := 110) rfl ?_
    refine j_iload_n hX dX12_sleepOf_110 rfl ?_
    obtain ⟨v7, hh8, hf⟩ := bd1 hf
    refine j_cV2i hX lk_X12_322 kX12 dX12_sleepOf_111 (sh_50 hG) (okX12_snoresBeside hG h1 hh8) rfl rfl (rmm (by omega) hRf hRl (by decide)) (Nat.le_of_ble_eq_true rfl) (Nat.le_add_right _ _) (Nat.le_add_right _ _) ?_
    obtain ⟨hg, hf⟩ := gd hf
    have hf := ltd hf
    refine j_iast hX (sh_54 hG) hg dX12_sleepOf_114 ?_
    refine j_aload_n hX dX12_sleepOf_115 rfl ?_
    refine j_aload_n hX dX12_sleepOf_116 rfl ?_
    refine j_getR (k := 2) hX kX12 (by decide) fk_X12_13 (rf_50_2 hG) dX12_sleepOf_117 (sh_50 hG) rfl ?_
    refine j_sipush hX dX12_sleepOf_120 sp_240 ?_
    refine j_aload_n hX dX12_sleepOf_123 rfl ?_
    refine jpc (b := 124) rfl ?_
    refine j_getI (k := 35) hX kX12 (by decide) fk_X12_67 dX12_sleepOf_124 (sh_50 hG) rfl ?_
    refine j_imul hX dX12_sleepOf_127 ?_
    refine j_aload_n hX dX12_sleepOf_128 rfl ?_
    refine j_getR (k := 3) hX kX12 (by decide) fk_X12_16 (rf_50_3 hG) dX12_sleepOf_129 (sh_50 hG) rfl ?_
    refine j_aload_n hX dX12_sleepOf_132 rfl ?_
    refine j_getI (k := 35) hX kX12 (by decide) fk_X12_67 dX12_sleepOf_133 (sh_50 hG) rfl ?_
    refine jpc (b := 136) rfl ?_
    obtain ⟨hg, hf⟩ := gd hf
    refine j_iald hX (sh_53 hG) hg dX12_sleepOf_136 ?_
    obtain ⟨i10, rv11, hh12, hf⟩ := bd2 hf
    refine j_cV3v hX lk_X12_283 kX12 dX12_sleepOf_137 (sh_50 hG) (okX12_goThrough hG (Or.inr rfl) hh12) rfl rfl (rmm (by omega) hRf hRl (by decide)) (Nat.le_of_ble_eq_true rfl) (Nat.le_add_right _ _) (Nat.le_add_right _ _) ?_
    have hG := gdX12_goThrough hG (Or.inr rfl) hh12
    refine j_aload_n hX dX12_sleepOf_140 rfl ?_
    refine j_getI (k := 14) hX kX12 (by decide) fk_X12_207 dX12_sleepOf_141 (sh_50 hG) rfl ?_
    refine j_istore hX dX12_sleepOf_144 (by decide) rfl ?_
    exact aJx (kX12_sleepOf_146 hX hr hlk hRf hRl h1 hG  hf) (And.intro rfl (rfl))
theorem gdX12_sleepOf {w1 : Nat} {n1 : Nat} {vR : Int32} {iR : Nat → Nat → Int32} {rvR : Nat → Nat → Option Nat} {a2 : Int32} {a3 : Int32} {a4 : Int32} (hG : aGood sh rv) (h1 : sh[w1]? = some (.inl (.int, n1))) (hf : fX12_sleepOf w1 n1 a2 a3 a4 i rv = some (vR, iR, rvR)) : aGood sh rvR := by
  unfold fX12_sleepOf at hf
  obtain ⟨hg, hf⟩ := gd hf
  obtain ⟨hg, hf⟩ := gd hf
  have hf := ltd hf
  refine ifs hf (fun hc hf => ?_) (fun hc hf => ?_)
  · have hf := hf
    exact gX12_sleepOf_146 h1 hG  hf
  · have hf := hf
    obtain ⟨hg, hf⟩ := gd hf
    obtain ⟨hg, hf⟩ := gd hf
    have hf := ltd hf
    obtain ⟨hg, hf⟩ := gd hf
    obtain ⟨hg, hf⟩ := gd hf
    have hf := ltd hf
    obtain ⟨hg, hf⟩ := gd hf
    have hf := ltd hf
    obtain ⟨hg, hf⟩ := gd hf
    obtain ⟨hg, hf⟩ := gd hf
    have hf := ltd hf
    obtain ⟨hg, hf⟩ := gd hf
    have hf := ltd hf
    obtain ⟨v7, hh8, hf⟩ := bd1 hf
    obtain ⟨hg, hf⟩ := gd hf
    have hf := ltd hf
    obtain ⟨hg, hf⟩ := gd hf
    obtain ⟨i10, rv11, hh12, hf⟩ := bd2 hf
    have hG := gdX12_goThrough hG (Or.inr rfl) hh12
    exact gX12_sleepOf_146 h1 hG  hf
theorem okX12_sleepOf {l : Launch} {sh : List aSh} {i : Nat → Nat → Int32} {lo : Nat → Nat → Int64} {rv : Nat → Nat → Option Nat}  {w1 : Nat} {n1 : Nat} {a2 : Int32} {a3 : Int32} {a4 : Int32} {vR : Int32} {iR : Nat → Nat → Int32} {rvR : Nat → Nat → Option Nat} (hG : aGood sh rv) (h1 : sh[w1]? = some (.inl (.int, n1))) (hf : fX12_sleepOf w1 n1 a2 a3 a4 i rv = some (vR, iR, rvR)) : aM l yX12_sleepOf cX12_sleepOf 6 (some .int) 1146 [.ref (100 + 50), .ref (100 + w1), .int a2, .int a3, .int a4] (sh, i, lo, rv) (some (.int vR)) (sh, iR, lo, rvR) :=
  aM_of (by decide) (Nat.le_of_ble_eq_true rfl) (Nat.le_refl _) (Nat.le_refl _) (fun p e s m args below meth c D cA A ad0 hX hr hlk hnm => kX12_sleepOf hX hr hlk (Nat.le_refl _) (Nat.le_refl _) h1 hG hf)
def fX12_wakes (w1 : Nat) (n1 : Nat) (a2 : Int32) (a3 : Int32) (a4 : Int32) (i : Nat → Nat → Int32) (rv : Nat → Nat → Option Nat) : Option ((Int32) × (Nat → Nat → Int32) × (Nat → Nat → Option Nat)) := bn3 (fX12_sleepOf w1 n1 a2 a3 a4 i rv) fun v1 i2 rv3 =>
    if aIn (((6 : Int32) * a2) + (3 : Int32)) n1 = true then
    (lt (u2 i2 w1 ((((6 : Int32) * a2) + (3 : Int32)) : Int32).toNatClampNeg 0) fun i5 => lt (((6 : Int32) * a2) + (4 : Int32)) fun t6 =>
    if aIn t6 n1 = true then
    (if aIn t6 n1 = true then
    (lt (u2 i5 w1 (t6 : Int32).toNatClampNeg ((i5 w1 (t6 : Int32).toNatClampNeg) + (1 : Int32))) fun i7 => lt (((6 : Int32) * a2) + (5 : Int32)) fun t8 =>
    if aIn t8 n1 = true then
    (if aIn t8 n1 = true then
    (lt (u2 i7 w1 (t8 : Int32).toNatClampNeg ((i7 w1 (t8 : Int32).toNatClampNeg) + v1)) fun i9 => some (v1, i9, rv3)) else none) else none) else none) else none) else none
theorem kX12_wakes  {w1 : Nat} {n1 : Nat} {vR : Int32} {iR : Nat → Nat → Int32} {rvR : Nat → Nat → Option Nat} (hX : aX p s m args c RX12 cX12_wakes 6 D cA A ad0) (hr : meth.sig.returnType = (some .int)) (hlk : meth.locks = false) (hRf : 1147 ≤ R.frames) (hRl : 64 * 1147 ≤ R.locals) (h1 : sh[w1]? = some (.inl (.int, n1))) {a2 : Int32} {a3 : Int32} {a4 : Int32} (hG : aGood sh rv) (hf : fX12_wakes w1 n1 a2 a3 a4 i rv = some (vR, iR, rvR)) : aJ p l e R s m args below meth c (MQ below (aPost D cA ad0 A (sh, i0, lo0, rv0) (some (.int vR)) (sh, iR, lo, rvR)) args s (sh.length - sh.length) (aSn sh - aSn sh) A) D cA A ad0 6 sh.length (aSn sh) 0 [some (.ref (100 + 50)), some (.ref (100 + w1)), some (.int a2), some (.int a3), some (.int a4), none] [] (sh, i, lo, rv) := by
  unfold fX12_wakes at hf
  refine j_aload_n hX dX12_wakes_0 rfl ?_
  refine j_aload_n hX dX12_wakes_1 rfl ?_
  refine j_iload_n hX dX12_wakes_2 rfl ?_
  refine j_iload_n hX dX12_wakes_3 rfl ?_
  refine j_iload hX dX12_wakes_4 rfl ?_
  refine jpc (b := 6) rfl ?_
  obtain ⟨v1, i2, rv3, hh4, hf⟩ := bd3 hf
  refine j_cV4i hX lk_X12_329 kX12 dX12_wakes_6 (sh_50 hG) (okX12_sleepOf hG h1 hh4) rfl rfl (rmm (by omega) hRf hRl (by decide)) (Nat.le_of_ble_eq_true rfl) (Nat.le_add_right _ _) (Nat.le_add_right _ _) ?_
  have hG := gdX12_sleepOf hG h1 hh4
  refine j_istore hX dX12_wakes_9 (by decide) rfl ?_
  refine j_aload_n hX dX12_wakes_11 rfl ?_
  refine j_bipush hX dX12_wakes_12 bp_6 ?_
  refine j_iload_n hX dX12_wakes_14 rfl ?_
  refine j_imul hX dX12_wakes_15 ?_
  refine jpc (b := 16) rfl ?_
  refine j_iconst hX dX12_wakes_16 ic_3 ?_
  refine j_iadd hX dX12_wakes_17 ?_
  refine j_iconst hX dX12_wakes_18 ic_0 ?_
  obtain ⟨hg, hf⟩ := gd hf
  have hf := ltd hf
  refine j_iast hX h1 hg dX12_wakes_19 ?_
  refine j_aload_n hX dX12_wakes_20 rfl ?_
  refine j_bipush hX dX12_wakes_21 bp_6 ?_
  refine j_iload_n hX dX12_wakes_23 rfl ?_
  refine j_imul hX dX12_wakes_24 ?_
  refine j_iconst hX dX12_wakes_25 ic_4 ?_
  refine jpc (b := 26) rfl ?_
  refine j_iadd hX dX12_wakes_26 ?_
  have hf := ltd hf
  refine j_dup2 hX dX12_wakes_27 rfl rfl ?_
  obtain ⟨hg, hf⟩ := gd hf
  refine j_iald hX h1 hg dX12_wakes_28 ?_
  refine j_iconst hX dX12_wakes_29 ic_1 ?_
  refine j_iadd hX dX12_wakes_30 ?_
  obtain ⟨hg, hf⟩ := gd hf
  have hf := ltd hf
  refine j_iast hX h1 hg dX12_wakes_31 ?_
  refine j_aload_n hX dX12_wakes_32 rfl ?_
  refine j_bipush hX dX12_wakes_33 bp_6 ?_
  refine j_iload_n hX dX12_wakes_35 rfl ?_
  refine j_imul hX dX12_wakes_36 ?_
  refine j_iconst hX dX12_wakes_37 ic_5 ?_
  refine jpc (b := 38) rfl ?_
  refine j_iadd hX dX12_wakes_38 ?_
  have hf := ltd hf
  refine j_dup2 hX dX12_wakes_39 rfl rfl ?_
  obtain ⟨hg, hf⟩ := gd hf
  refine j_iald hX h1 hg dX12_wakes_40 ?_
  refine j_iload hX dX12_wakes_41 rfl ?_
  refine j_iadd hX dX12_wakes_43 ?_
  obtain ⟨hg, hf⟩ := gd hf
  have hf := ltd hf
  refine j_iast hX h1 hg dX12_wakes_44 ?_
  refine j_iload hX dX12_wakes_45 rfl ?_
  cases hf
  exact j_ret hX hr hlk rfl dX12_wakes_47
theorem gdX12_wakes {w1 : Nat} {n1 : Nat} {vR : Int32} {iR : Nat → Nat → Int32} {rvR : Nat → Nat → Option Nat} {a2 : Int32} {a3 : Int32} {a4 : Int32} (hG : aGood sh rv) (h1 : sh[w1]? = some (.inl (.int, n1))) (hf : fX12_wakes w1 n1 a2 a3 a4 i rv = some (vR, iR, rvR)) : aGood sh rvR := by
  unfold fX12_wakes at hf
  obtain ⟨v1, i2, rv3, hh4, hf⟩ := bd3 hf
  have hG := gdX12_sleepOf hG h1 hh4
  obtain ⟨hg, hf⟩ := gd hf
  have hf := ltd hf
  have hf := ltd hf
  obtain ⟨hg, hf⟩ := gd hf
  obtain ⟨hg, hf⟩ := gd hf
  have hf := ltd hf
  have hf := ltd hf
  obtain ⟨hg, hf⟩ := gd hf
  obtain ⟨hg, hf⟩ := gd hf
  have hf := ltd hf
  cases hf
  exact hG
theorem okX12_wakes {l : Launch} {sh : List aSh} {i : Nat → Nat → Int32} {lo : Nat → Nat → Int64} {rv : Nat → Nat → Option Nat}  {w1 : Nat} {n1 : Nat} {a2 : Int32} {a3 : Int32} {a4 : Int32} {vR : Int32} {iR : Nat → Nat → Int32} {rvR : Nat → Nat → Option Nat} (hG : aGood sh rv) (h1 : sh[w1]? = some (.inl (.int, n1))) (hf : fX12_wakes w1 n1 a2 a3 a4 i rv = some (vR, iR, rvR)) : aM l yX12_wakes cX12_wakes 6 (some .int) 1147 [.ref (100 + 50), .ref (100 + w1), .int a2, .int a3, .int a4] (sh, i, lo, rv) (some (.int vR)) (sh, iR, lo, rvR) :=
  aM_of (by decide) (Nat.le_of_ble_eq_true rfl) (Nat.le_refl _) (Nat.le_refl _) (fun p e s m args below meth c D cA A ad0 hX hr hlk hnm => kX12_wakes hX hr hlk (Nat.le_refl _) (Nat.le_refl _) h1 hG hf)
def fX12_paperAt_2 (w1 : Nat) (n1 : Nat) : Nat → Int32 → Int32 → (Nat → Nat → Int32) → Option ((Int32))
  | 0, _, _, _ => none
  | n + 1, x2, x3, i => if (i 50 26) ≤ x3 then (some ((-1))) else (if aIn (((6 : Int32) * x3) + (1 : Int32)) n1 = true then
    (if (i w1 ((((6 : Int32) * x3) + (1 : Int32)) : Int32).toNatClampNeg) = x2 then (some (x3)) else (fX12_paperAt_2 w1 n1 n x2 (x3 + 1) i)) else none)
theorem kX12_paperAt_2  {w1 : Nat} {n1 : Nat} {vR : Int32} (hX : aX p s m args c RX12 cX12_paperAt 4 D cA A ad0) (hr : meth.sig.returnType = (some .int)) (hlk : meth.locks = false) (hRf : 0 ≤ R.frames) (hRl : 64 * 0 ≤ R.locals) (h1 : sh[w1]? = some (.inl (.int, n1))) : ∀ (n : Nat) (x2 : Int32) (x3 : Int32), aGood sh rv → fX12_paperAt_2 w1 n1 n x2 x3 i = some (vR) → aJ p l e R s m args below meth c (MQ below (aPost D cA ad0 A (sh, i0, lo0, rv0) (some (.int vR)) (sh, i, lo, rv)) args s (sh.length - sh.length) (aSn sh - aSn sh) A) D cA A ad0 4 sh.length (aSn sh) 2 [some (.ref (100 + 50)), some (.ref (100 + w1)), some (.int x2), some (.int x3)] [] (sh, i, lo, rv) := by
  intro n
  induction n with
  | zero => intros; rename_i hf; cases hf
  | succ n ih =>
    intro x2 x3 hG hf
    rw [fX12_paperAt_2] at hf
    refine j_iload_n hX dX12_paperAt_2 rfl ?_
    refine j_aload_n hX dX12_paperAt_3 rfl ?_
    refine j_getI (k := 26) hX kX12 (by decide) fk_X12_297 dX12_paperAt_4 (sh_50 hG) rfl ?_
    refine j_icmp_ge (tgt := 30) hX dX12_paperAt_7 (by decide) (fun hc => ?_) (fun hc => ?_)
    · have hf := ifp hc hf
      refine j_iconst hX dX12_paperAt_30 ic_m1 ?_
      cases hf
      exact j_ret hX hr hlk rfl dX12_paperAt_31
    · have hf := ifn hc hf
      refine j_aload_n hX dX12_paperAt_10 rfl ?_
      refine j_bipush hX dX12_paperAt_11 bp_6 ?_
      refine j_iload_n hX dX12_paperAt_13 rfl ?_
      refine j_imul hX dX12_paperAt_14 ?_
      refine j_iconst hX dX12_paperAt_15 ic_1 ?_
      refine jpc (b := 16) rfl ?_
      refine j_iadd hX dX12_paperAt_16 ?_
      obtain ⟨hg, hf⟩ := gd hf
      refine j_iald hX h1 hg dX12_paperAt_17 ?_
      refine j_iload_n hX dX12_paperAt_18 rfl ?_
      refine j_icmp_ne (tgt := 24) hX dX12_paperAt_19 (by decide) (fun hc => ?_) (fun hc => ?_)
      · have hf := ifn hc hf
        refine j_iinc hX dX12_paperAt_24 rfl (congrArg (_ + ·) ic_1) (by decide) rfl ?_
        refine j_goto (tgt := 2) hX dX12_paperAt_27 (by decide) ?_
        exact aJx (ih _ _ hG  hf) (And.intro rfl (And.intro rfl (And.intro rfl (And.intro rfl (rfl)))))
      · have hf := ifp hc hf
        refine j_iload_n hX dX12_paperAt_22 rfl ?_
        cases hf
        exact j_ret hX hr hlk rfl dX12_paperAt_23
def fX12_paperAt (w1 : Nat) (n1 : Nat) (a2 : Int32) (i : Nat → Nat → Int32) : Option ((Int32)) := fX12_paperAt_2 w1 n1 fuel a2 0 i
theorem kX12_paperAt  {w1 : Nat} {n1 : Nat} {vR : Int32} (hX : aX p s m args c RX12 cX12_paperAt 4 D cA A ad0) (hr : meth.sig.returnType = (some .int)) (hlk : meth.locks = false) (hRf : 0 ≤ R.frames) (hRl : 64 * 0 ≤ R.locals) (h1 : sh[w1]? = some (.inl (.int, n1))) {a2 : Int32} (hG : aGood sh rv) (hf : fX12_paperAt w1 n1 a2 i = some (vR)) : aJ p l e R s m args below meth c (MQ below (aPost D cA ad0 A (sh, i0, lo0, rv0) (some (.int vR)) (sh, i, lo, rv)) args s (sh.length - sh.length) (aSn sh - aSn sh) A) D cA A ad0 4 sh.length (aSn sh) 0 [some (.ref (100 + 50)), some (.ref (100 + w1)), some (.int a2), none] [] (sh, i, lo, rv) := by
  unfold fX12_paperAt at hf
  refine j_iconst hX dX12_paperAt_0 ic_0 ?_
  refine j_istore_n hX dX12_paperAt_1 (by decide) rfl ?_
  exact aJx (kX12_paperAt_2 hX hr hlk hRf hRl h1 fuel _ _ hG  hf) (And.intro rfl (And.intro rfl (And.intro rfl (And.intro rfl (rfl)))))
theorem okX12_paperAt {l : Launch} {sh : List aSh} {i : Nat → Nat → Int32} {lo : Nat → Nat → Int64} {rv : Nat → Nat → Option Nat}  {w1 : Nat} {n1 : Nat} {a2 : Int32} {vR : Int32} (hG : aGood sh rv) (h1 : sh[w1]? = some (.inl (.int, n1))) (hf : fX12_paperAt w1 n1 a2 i = some (vR)) : aM l yX12_paperAt cX12_paperAt 4 (some .int) 0 [.ref (100 + 50), .ref (100 + w1), .int a2] (sh, i, lo, rv) (some (.int vR)) (sh, i, lo, rv) :=
  aM_of (by decide) (Nat.le_of_ble_eq_true rfl) (Nat.le_refl _) (Nat.le_refl _) (fun p e s m args below meth c D cA A ad0 hX hr hlk hnm => kX12_paperAt hX hr hlk (Nat.le_refl _) (Nat.le_refl _) h1 hG hf)
def fX12_turnOf (w1 : Nat) (n1 : Nat) (a2 : Int32) (a3 : Int32) (i : Nat → Nat → Int32) : Option ((Int32)) := if aIn (((4 : Int32) * a3) + (1 : Int32)) 16 = true then
    (if (i 59 ((((4 : Int32) * a3) + (1 : Int32)) : Int32).toNatClampNeg) = 0 then (if aIn ((6 : Int32) * a2) 54 = true then
    (some ((i 57 (((6 : Int32) * a2) : Int32).toNatClampNeg))) else none) else (if aIn ((6 : Int32) * a2) 54 = true then
    (if aIn (((4 : Int32) * a3) + (2 : Int32)) 16 = true then
    (if aIn (((6 : Int32) * a2) + (3 : Int32)) n1 = true then
    (if (i w1 ((((6 : Int32) * a2) + (3 : Int32)) : Int32).toNatClampNeg) = 1 then (if aIn 3 4 = true then
    (some ((((i 57 (((6 : Int32) * a2) : Int32).toNatClampNeg) + (i 59 ((((4 : Int32) * a3) + (2 : Int32)) : Int32).toNatClampNeg)) + (i 55 (3 : Int32).toNatClampNeg)))) else none) else (some ((((i 57 (((6 : Int32) * a2) : Int32).toNatClampNeg) + (i 59 ((((4 : Int32) * a3) + (2 : Int32)) : Int32).toNatClampNeg)) + (0 : Int32))))) else none) else none) else none)) else none
theorem kX12_turnOf  {w1 : Nat} {n1 : Nat} {vR : Int32} (hX : aX p s m args c RX12 cX12_turnOf 4 D cA A ad0) (hr : meth.sig.returnType = (some .int)) (hlk : meth.locks = false) (hRf : 0 ≤ R.frames) (hRl : 64 * 0 ≤ R.locals) (h1 : sh[w1]? = some (.inl (.int, n1))) {a2 : Int32} {a3 : Int32} (hG : aGood sh rv) (hf : fX12_turnOf w1 n1 a2 a3 i = some (vR)) : aJ p l e R s m args below meth c (MQ below (aPost D cA ad0 A (sh, i0, lo0, rv0) (some (.int vR)) (sh, i, lo, rv)) args s (sh.length - sh.length) (aSn sh - aSn sh) A) D cA A ad0 4 sh.length (aSn sh) 0 [some (.ref (100 + 50)), some (.ref (100 + w1)), some (.int a2), some (.int a3)] [] (sh, i, lo, rv) := by
  unfold fX12_turnOf at hf
  refine j_aload_n hX dX12_turnOf_0 rfl ?_
  refine j_getR (k := 22) hX kX12 (by decide) fk_X12_49 (rf_50_22 hG) dX12_turnOf_1 (sh_50 hG) rfl ?_
  refine j_iconst hX dX12_turnOf_4 ic_4 ?_
  refine j_iload_n hX dX12_turnOf_5 rfl ?_
  refine j_imul hX dX12_turnOf_6 ?_
  refine jpc (b := 7) rfl ?_
  refine j_iconst hX dX12_turnOf_7 ic_1 ?_
  refine j_iadd hX dX12_turnOf_8 ?_
  obtain ⟨hg, hf⟩ := gd hf
  refine j_iald hX (sh_59 hG) hg dX12_turnOf_9 ?_
  refine j_if_ne (tgt := 23) hX dX12_turnOf_10 (by decide) (fun hc => ?_) (fun hc => ?_)
  · have hf := ifn hc hf
    refine j_aload_n hX dX12_turnOf_23 rfl ?_
    refine j_getR (k := 20) hX kX12 (by decide) fk_X12_43 (rf_50_20 hG) dX12_turnOf_24 (sh_50 hG) rfl ?_
    refine j_bipush hX dX12_turnOf_27 bp_6 ?_
    refine j_iload_n hX dX12_turnOf_29 rfl ?_
    refine j_imul hX dX12_turnOf_30 ?_
    refine jpc (b := 31) rfl ?_
    obtain ⟨hg, hf⟩ := gd hf
    refine j_iald hX (sh_57 hG) hg dX12_turnOf_31 ?_
    refine j_aload_n hX dX12_turnOf_32 rfl ?_
    refine j_getR (k := 22) hX kX12 (by decide) fk_X12_49 (rf_50_22 hG) dX12_turnOf_33 (sh_50 hG) rfl ?_
    refine j_iconst hX dX12_turnOf_36 ic_4 ?_
    refine j_iload_n hX dX12_turnOf_37 rfl ?_
    refine j_imul hX dX12_turnOf_38 ?_
    refine jpc (b := 39) rfl ?_
    refine j_iconst hX dX12_turnOf_39 ic_2 ?_
    refine j_iadd hX dX12_turnOf_40 ?_
    obtain ⟨hg, hf⟩ := gd hf
    refine j_iald hX (sh_59 hG) hg dX12_turnOf_41 ?_
    refine j_iadd hX dX12_turnOf_42 ?_
    refine j_aload_n hX dX12_turnOf_43 rfl ?_
    refine j_bipush hX dX12_turnOf_44 bp_6 ?_
    refine j_iload_n hX dX12_turnOf_46 rfl ?_
    refine j_imul hX dX12_turnOf_47 ?_
    refine jpc (b := 48) rfl ?_
    refine j_iconst hX dX12_turnOf_48 ic_3 ?_
    refine j_iadd hX dX12_turnOf_49 ?_
    obtain ⟨hg, hf⟩ := gd hf
    refine j_iald hX h1 hg dX12_turnOf_50 ?_
    refine j_iconst hX dX12_turnOf_51 ic_1 ?_
    refine j_icmp_ne (tgt := 64) hX dX12_turnOf_52 (by decide) (fun hc => ?_) (fun hc => ?_)
    · have hf := ifn hc hf
      refine j_iconst hX dX12_turnOf_64 ic_0 ?_
      refine j_iadd hX dX12_turnOf_65 ?_
      cases hf
      exact j_ret hX hr hlk rfl dX12_turnOf_66
    · have hf := ifp hc hf
      refine j_aload_n hX dX12_turnOf_55 rfl ?_
      refine j_getR (k := 18) hX kX12 (by decide) fk_X12_37 (rf_50_18 hG) dX12_turnOf_56 (sh_50 hG) rfl ?_
      refine j_iconst hX dX12_turnOf_59 ic_3 ?_
      obtain ⟨hg, hf⟩ := gd hf
      refine j_iald hX (sh_55 hG) hg dX12_turnOf_60 ?_
      refine j_goto (tgt := 65) hX dX12_turnOf_61 (by decide) ?_
      refine j_iadd hX dX12_turnOf_65 ?_
      cases hf
      exact j_ret hX hr hlk rfl dX12_turnOf_66
  · have hf := ifp hc hf
    refine j_aload_n hX dX12_turnOf_13 rfl ?_
    refine j_getR (k := 20) hX kX12 (by decide) fk_X12_43 (rf_50_20 hG) dX12_turnOf_14 (sh_50 hG) rfl ?_
    refine j_bipush hX dX12_turnOf_17 bp_6 ?_
    refine j_iload_n hX dX12_turnOf_19 rfl ?_
    refine j_imul hX dX12_turnOf_20 ?_
    refine jpc (b := 21) rfl ?_
    obtain ⟨hg, hf⟩ := gd hf
    refine j_iald hX (sh_57 hG) hg dX12_turnOf_21 ?_
    cases hf
    exact j_ret hX hr hlk rfl dX12_turnOf_22
theorem okX12_turnOf {l : Launch} {sh : List aSh} {i : Nat → Nat → Int32} {lo : Nat → Nat → Int64} {rv : Nat → Nat → Option Nat}  {w1 : Nat} {n1 : Nat} {a2 : Int32} {a3 : Int32} {vR : Int32} (hG : aGood sh rv) (h1 : sh[w1]? = some (.inl (.int, n1))) (hf : fX12_turnOf w1 n1 a2 a3 i = some (vR)) : aM l yX12_turnOf cX12_turnOf 4 (some .int) 0 [.ref (100 + 50), .ref (100 + w1), .int a2, .int a3] (sh, i, lo, rv) (some (.int vR)) (sh, i, lo, rv) :=
  aM_of (by decide) (Nat.le_of_ble_eq_true rfl) (Nat.le_refl _) (Nat.le_refl _) (fun p e s m args below meth c D cA A ad0 hX hr hlk hnm => kX12_turnOf hX hr hlk (Nat.le_refl _) (Nat.le_refl _) h1 hG hf)
end DC
